/-! pure: the class's lookAround and the reference's change -/
theorem bet_may {A B : Nat → Nat → Int32} {N nl nc ns nn L l2 c : Nat} {M : Int} {gp : Int32} (h : Rel A B N nl nc ns nn L M) (hc : c < N) (hl2 : l2 < L) (hg : GB gp) : k_bet A nl nc ns L (szI A) c gp (nI l2) ↔ m_may B N nl nc ns c (nI l2) gp := by
  have hL3 : L ≤ 3 := h.1.2.2.2.2.1.2.2.2.2
  have hb := h.2.2.2.2.2.1
  have hp := h.2.2.2.2.2.2.1
  have hq := h.2.2.2.2.2.2.2.1
  have x2 := (h.2.2.2.2.2.2.2.2.2.2.2.1 l2 (by omega)).2.2.2
  have hrk := x2.rank hb (A 21 c)
  rw [k_bet_N (by omega)]
  obtain ⟨g1, g2⟩ := h.gap (show l2 < 3 by omega) hc hrk
  generalize k_rk A l2 (A 21 c) (szI A l2) 0 = r2 at hrk g1 g2 ⊢
  have eL : B 33 1 = nI L := h.1.2.2.2.2.1.2.2.1
  have e500 : (500 : Int32).toInt = 500 := by decide
  have e10 : (10 : Int32).toInt = 10 := by decide
  have e200 : (200 : Int32).toInt = 200 := by decide
  have hin : 0 ≤ nI l2 ∧ nI l2 ≤ B 33 1 - 1 := by
    rw [eL, nI_pred1 (by omega), ti_le, ti_le, ti_nI (by omega), ti_nI (by omega), t0]
    omega
  have bc := hb c hc
  have hgap : ¬ k_gap A nl nc ns l2 r2 c - gp < 500 ↔ ¬ k_gap A nl nc ns l2 r2 c < gp + 500 := by
    unfold GB at g2 hg
    rw [ti_lt, ti_lt, ti_sub (by omega) (by omega), ti_add (by rw [e500]; omega) (by rw [e500]; omega), e500]
    omega
  have hcl : ∀ k, k < N → (rr (B 34) c - pt (B 34) 3 k < 200 + 10 * pt (B 34) 4 k ↔ k_cl A c k) := fun k hk => by
    rw [(hp c hc).rr, (hp k hk).2.2.1, (hq k hk).2.1]
  have hall : (k_fb A c (k_ld A l2 r2) = true ∧ ∀ i, i < szI A l2 → r2 ≤ i → ¬ k_cl A c (rw_ A l2 i)) ↔ ∀ k, k < N → ¬ m_bad (B 34) c (nI l2) k := by
    constructor
    · intro q k hk w
      obtain ⟨⟨w1, w2⟩, w3⟩ := w
      obtain ⟨p1, p2, p3, -⟩ := hp k hk
      obtain ⟨i, hi, ei⟩ := x2.2.1 k hk (p1 ▸ w1) (p2 ▸ w2)
      rcases w3 with ⟨v1, v2⟩ | ⟨v1, v2⟩
      · have hir : i < r2 := by
          rcases Nat.lt_or_ge i r2 with u | u
          · exact u
          · refine absurd ?_ (hrk.2.2 i u hi)
            rw [ei, ← p3, ← (hp c hc).2.2.1]
            exact v1
        cases r2 with
        | zero => omega
        | succ r =>
          have hrs := hrk.1
          have u1 : ¬ k_re A (rw_ A l2 r) < A 21 c := of_decide_eq_true q.1
          rw [(hp k hk).rr, (hp c hc).2.2.1, ti_lt, (hb k hk).re] at v2
          obtain ⟨y1, -, -⟩ := x2.1 r (by omega)
          rw [ti_lt, (hb _ y1).re] at u1
          by_cases e : i = r
          · rw [← e, ei] at u1; omega
          · have o := x2.ord hb (i := i) (j := r) (by omega) (by omega)
            rw [ei] at o
            have b1 := (hb _ y1).1
            omega
      · have hir : r2 ≤ i := by
          rcases Nat.lt_or_ge i r2 with u | u
          · refine absurd ?_ v1
            have := hrk.2.1 i u
            rw [ei] at this
            rw [p3, (hp c hc).2.2.1]
            exact this
          · exact u
        refine q.2 i hi hir ?_
        rw [ei]
        exact (hcl k hk).mp v2
    · intro q
      constructor
      · cases r2 with
        | zero => rfl
        | succ r =>
          have hrs := hrk.1
          obtain ⟨y1, y2, y3⟩ := x2.1 r (by omega)
          refine decide_eq_true (fun w => q _ y1 ⟨⟨(hp _ y1).1.trans y2, (hp _ y1).2.1.trans y3⟩, Or.inl ⟨?_, ?_⟩⟩)
          · rw [(hp _ y1).2.2.1, (hp c hc).2.2.1]; exact hrk.2.1 r (by omega)
          · rw [(hp _ y1).rr, (hp c hc).2.2.1]; exact w
      · intro i hi hir w
        obtain ⟨y1, y2, y3⟩ := x2.1 i hi
        refine q _ y1 ⟨⟨(hp _ y1).1.trans y2, (hp _ y1).2.1.trans y3⟩, Or.inr ⟨?_, (hcl _ y1).mpr w⟩⟩
        rw [(hp _ y1).2.2.1, (hp c hc).2.2.1]
        exact hrk.2.2 i hir hi
  show l2 < L ∧ (_ ∧ _) ↔ (0 ≤ nI l2 ∧ nI l2 ≤ B 33 1 - 1) ∧ ¬ m_gap B N nl nc ns c (nI l2) < gp + 500 ∧ ∀ k, k < N → ¬ m_bad (B 34) c (nI l2) k
  rw [← g1, ← hgap, ← hall]
  exact ⟨fun q => ⟨hin, q.2.1, q.2.2⟩, fun q => ⟨hl2, q.2.1, q.2.2⟩⟩
theorem bet_out {A : Nat → Nat → Int32} {nl nc ns L c : Nat} {gp v : Int32} {sz : Nat → Nat} (hv : ¬ (0 ≤ v.toInt ∧ v.toInt < L)) : ¬ k_bet A nl nc ns L sz c gp v := fun q => hv q.1
theorem may_out {B : Nat → Nat → Int32} {N nl nc ns L c : Nat} {gp v : Int32} (hL : B 33 1 = nI L) (h1 : 1 ≤ L) (h3 : L ≤ 3) (hv : ¬ (0 ≤ v.toInt ∧ v.toInt < L)) : ¬ m_may B N nl nc ns c v gp := fun q => by
  have q1 := q.1
  rw [hL, nI_pred1 h1, ti_le, ti_le, ti_nI (by omega), t0] at q1
  omega
theorem bet_mayV {A B : Nat → Nat → Int32} {N nl nc ns nn L c : Nat} {M : Int} {gp v : Int32} (h : Rel A B N nl nc ns nn L M) (hc : c < N) (hg : GB gp) : k_bet A nl nc ns L (szI A) c gp v ↔ m_may B N nl nc ns c v gp := by
  by_cases hv : 0 ≤ v.toInt ∧ v.toInt < L
  · obtain ⟨m, -, rfl, e⟩ := ti_of (a := v) hv.1
    exact bet_may h hc (by omega) hg
  · have t5 := h.1.2.2.2.2.1
    exact ⟨fun q => absurd q (bet_out hv), fun q => absurd q (may_out t5.2.2.1 t5.2.2.2.1 t5.2.2.2.2 hv)⟩
set_option maxRecDepth 100000 in
set_option maxHeartbeats 4000000 in
/-- a change that both sides make -/
theorem rel_to {A B : Nat → Nat → Int32} {N nl nc ns nn L l l2 r c : Nat} {M : Int} {gp : Int32} (h : Rel A B N nl nc ns nn L M) (hc : c < N) (hl : l < 3) (hl2 : l2 < L) (hne : l2 ≠ l) (hr : r < szI A l) (hrc : rw_ A l r = c) (hbet : k_bet A nl nc ns L (szI A) c gp (nI l2)) : Rel (k_chTo A l (szI A l - 1) l2 (szI A l2) r c) (mci (mp (mp B c 1 (nI l2)) c 7 (mp B c 1 (nI l2) 34 1)) 5 1) N nl nc ns nn L M := by
  have hL3 : L ≤ 3 := h.1.2.2.2.2.1.2.2.2.2
  have hb := h.2.2.2.2.2.1
  have hN60 := h.2.1.2.2
  have hcw := h.cw
  have x2 := (h.2.2.2.2.2.2.2.2.2.2.2.1 l2 (by omega)).2.2.2
  have xl := (h.2.2.2.2.2.2.2.2.2.2.2.1 l hl).2.2.2
  have sl60 := (h.2.2.2.2.2.2.2.2.2.2.2.1 l hl).2.1
  have hrk := x2.rank hb (A 21 c)
  rw [k_bet_N (by omega)] at hbet
  have cl : A 19 c = nI l := by rw [← hrc]; exact (xl.1 r hr).2.2
  have s2 : szI A l2 < 60 := by
    have := x2.lt hb hc (fun q => hne (nI_inj (by omega) (by omega) (q.2.symm.trans cl)))
    omega
  obtain ⟨s, hs⟩ : ∃ s, szI A l = s + 1 := ⟨szI A l - 1, by omega⟩
  have en : mp B c 1 (nI l2) 34 1 = A 13 4 := by rw [mp_lo _ _ _ _ (by decide)]; exact h.2.2.1.1
  rw [en, hs, show s + 1 - 1 = s by omega]
  have hw1 := hcw.rem (l := l) (s := s) (r := r) hl hs (by omega)
  have erk : k_rk (kRem A l s r) l2 (kRem A l s r 21 c) (szI A l2) 0 = k_rk A l2 (A 21 c) (szI A l2) 0 := by
    have e21 : kRem A l s r 21 = A 21 := kRem_ne _ _ _ _ (by decide) (by decide)
    have hgen : ∀ m r0, r0 + m ≤ 60 → k_rk (kRem A l s r) l2 (A 21 c) m r0 = k_rk A l2 (A 21 c) m r0 := by
      intro m
      induction m with
      | zero => intro r0 _; rfl
      | succ m ih =>
        intro r0 h0
        rw [k_rk, k_rk, e21, rw_rem_o (by omega) hne (by omega), ih (r0 + 1) (by omega)]
    rw [e21]
    exact hgen _ _ (by omega)
  unfold k_chTo
  dsimp only
  rw [erk]
  generalize hr2d : k_rk A l2 (A 21 c) (szI A l2) 0 = r2 at hrk hbet ⊢
  have hr2s := hrk.1
  have hw2 := hw1.ins (l := l2) (r := r2) (c := c) (by omega) (by omega) (by rw [va_up_ne _ _ hne]; exact hr2s) (by rw [va_up_ne _ _ hne]; exact s2)
  rw [va_up_ne _ _ hne] at hw2
  have f1 : wr (kIns (kRem A l s r) l2 (szI A l2) r2 (nI c)) 19 c (nI l2) 13 4 = A 13 4 := rfl
  rw [f1]
  have f2 : wr (wr (kIns (kRem A l s r) l2 (szI A l2) r2 (nI c)) 19 c (nI l2)) 25 c (A 13 4) 13 7 = A 13 7 := rfl
  rw [f2]
  have hw3 : CW (wr (wr (wr (kIns (kRem A l s r) l2 (szI A l2) r2 (nI c)) 19 c (nI l2)) 25 c (A 13 4)) 13 7 (A 13 7 + 1)) N nl nc ns nn L (va_up (va_up (szI A) l s) l2 (szI A l2 + 1)) := ((hw2.wr (by decide) (by decide) (by decide) (by decide) (by decide)).wr (by decide) (by decide) (by decide) (by decide) (by decide)).wr (by decide) (by decide) (by decide) (by decide) (by decide)
  have hbc := hb c hc
  have e200 : (200 : Int32).toInt = 200 := by decide
  have e10 : (10 : Int32).toInt = 10 := by decide
  refine rel_ch (l := l) (l2 := l2) (r := r) (r2 := r2) (s := s) (c := c) h hc hl hl2 hne hs (by omega) hrc hrk ?_ ?_ hw3.self ?_ ?_ (fun _ => ?_) (fun _ => ?_) ?_ ?_ ?_ ?_ ?_ ?_ ?_
  · intro q e
    have hfb := hbet.2.2.1
    rw [e] at hfb
    obtain ⟨y1, -, -⟩ := x2.1 q (by omega)
    have u : ¬ k_re A (rw_ A l2 q) < A 21 c := of_decide_eq_true hfb
    rw [ti_lt, (hb _ y1).re] at u
    omega
  · intro hlt
    have u := hbet.2.2.2 r2 hlt (Nat.le_refl _)
    obtain ⟨y1, -, -⟩ := x2.1 r2 hlt
    have b := hb _ y1
    have b4 := b.2.2.2.1
    have b5 := b.2.2.2.2
    have c1 := hbc.1
    have c5 := hbc.2.2.2.2
    have em : (10 * A 22 (rw_ A l2 r2)).toInt = 10 * (A 22 (rw_ A l2 r2)).toInt := by rw [ti_mul (by rw [e10]; omega) (by rw [e10]; omega), e10]
    have u2 : ¬ k_re A c - A 21 (rw_ A l2 r2) < 200 + 10 * A 22 (rw_ A l2 r2) := u
    have er := hbc.re
    rw [ti_lt, ti_sub (by omega) (by omega), ti_add (by rw [e200, em]; omega) (by rw [e200, em]; omega), em, e200, er] at u2
    omega
  · intro k hk
    rw [wr_ne _ _ _ (by omega), wr_ne _ _ _ (by omega), wr_ne _ _ _ (by omega), kIns_ne _ _ _ _ _ (by omega) (by omega), kRem_ne _ _ _ _ (by omega) (by omega)]
  · intro j
    rw [wr_at]
    by_cases e : j = 7
    · rw [if_pos ⟨rfl, e⟩, if_pos e]
    · rw [if_neg (fun q => e q.2), if_neg e]
      rfl
  · rfl
  · rfl
  · intro q
    show szI (kIns (kRem A l s r) l2 (szI A l2) r2 (nI c)) q = _
    rw [szI_ins s2, szI_rem (by omega)]
    by_cases e1 : q = l2
    · rw [if_pos e1, if_neg (by omega), if_pos e1]
    · rw [if_neg e1]
      by_cases e2 : q = l
      · rw [if_pos e2, if_pos e2]
      · rw [if_neg e2, if_neg e2, if_neg e1]
  · intro j hj
    show rw_ (kIns (kRem A l s r) l2 (szI A l2) r2 (nI c)) l j = _
    rw [rw_ins_o s2 hr2s (Ne.symm hne) (by omega), rw_rem hj]
  · intro j hj
    show rw_ (kIns (kRem A l s r) l2 (szI A l2) r2 (nI c)) l2 j = _
    rw [rw_ins s2 hr2s (by omega) hj]
    by_cases w : j < r2
    · rw [if_pos w, if_pos w, rw_rem_o (by omega) hne (by omega)]
    · rw [if_neg w, if_neg w]
      by_cases w2 : j = r2
      · rw [if_pos w2, if_pos w2]
      · rw [if_neg w2, if_neg w2, rw_rem_o (by omega) hne (by omega)]
  · intro q j h1 h2 hj
    show rw_ (kIns (kRem A l s r) l2 (szI A l2) r2 (nI c)) q j = _
    rw [rw_ins_o s2 hr2s h2 hj, rw_rem_o (by omega) h1 hj]
  · intro k hk
    rw [mci_ne _ _ _ hk, mp_ne _ _ _ _ hk, mp_ne _ _ _ _ hk]
  · intro k hk
    rw [mci_34, up_if]
    by_cases e : k = 5
    · rw [if_pos e, if_pos e, mp_lo _ _ _ _ (by decide), mp_lo _ _ _ _ (by decide)]
    · rw [if_neg e, if_neg e, mp_lo _ _ _ _ hk, mp_lo _ _ _ _ hk]
  · intro p q hp
    rw [mci_pt _ _ (by decide), mp_pt _ _ _ _ (by decide) hp, mp_pt _ _ _ _ (by decide) hp]
set_option maxRecDepth 100000 in
set_option maxHeartbeats 4000000 in
theorem s2 {A B : Nat → Nat → Int32} {N nl nc ns nn L c : Nat} {M : Int} (h : Rel A B N nl nc ns nn L M) (hc : c < N) : Rel (if A 20 c = 1 ∧ 30 < A 13 4 - A 25 c then k_look A nl nc ns L (szI A) c (lnI A c) else A) (m_chg B N nl nc ns c) N nl nc ns nn L M ∧ (A 20 c = 1 → A 19 c = nI (lnI A c) ∧ lnI A c < 3 ∧ k_rk A (lnI A c) (A 21 c) (szI A (lnI A c)) 0 < szI A (lnI A c) ∧ ∀ l2, l2 < 3 → l2 ≠ lnI A c → szI A l2 < 60) := by
  have t5 := h.1.2.2.2.2.1
  have hL3 : L ≤ 3 := t5.2.2.2.2
  have hN60 := h.2.1.2.2
  have hb := h.2.2.2.2.2.1
  have hp := h.2.2.2.2.2.2.1 c hc
  have hq := h.2.2.2.2.2.2.2.1 c hc
  have hst := h.2.2.1
  obtain ⟨-, ⟨cl, clL⟩, -⟩ := h.2.2.2.2.2.2.2.2.2.1 c hc
  generalize lnI A c = l at cl clL ⊢
  have xl := (h.2.2.2.2.2.2.2.2.2.2.2.1 l (by omega)).2.2.2
  have pre : A 20 c = 1 → ∃ r, r < szI A l ∧ rw_ A l r = c ∧ k_rk A l (A 21 c) (szI A l) 0 = r := fun e => by
    obtain ⟨r, hr, er⟩ := xl.2.1 c hc e cl
    refine ⟨r, hr, er, ?_⟩
    have := xl.own_rk hb hr
    rw [er] at this
    exact this
  refine ⟨?_, fun e => ⟨cl, by omega, ?_, fun l2 h1 h2 => ?_⟩⟩
  · unfold m_chg
    dsimp only
    rw [hp.1, hp.2.1, hst.1, hq.2.2.2.2.2.1, cl]
    by_cases h20 : A 20 c = 1
    · have e7 : pt (B 34) 7 c = A 25 c := hq.2.2.2.2.1 (by rw [h20]; decide)
      rw [e7]
      by_cases h30 : 30 < A 13 4 - A 25 c
      · rw [if_pos ⟨h20, h30⟩]
        obtain ⟨r, hr, erc, erk⟩ := pre h20
        have own := xl.own hb hr
        rw [erc] at own
        obtain ⟨g1, g2⟩ := h.gap (show l < 3 by omega) hc own
        obtain ⟨q1, -⟩ := alw_eq g2
        unfold k_look
        dsimp only
        rw [erk, ← g1, q1]
        generalize k_gap A nl nc ns l r c = gp at g2
        by_cases ha : alw gp < A 17 c
        · rw [if_pos ha]
          have b1 := bet_mayV (v := nI l - 1) h hc g2
          have b2 := bet_mayV (v := nI l + 1) h hc g2
          unfold m_to
          by_cases h1 : k_bet A nl nc ns L (szI A) c gp (nI l - 1)
          · have hl1 : 1 ≤ l := by
              rcases Nat.eq_zero_or_pos l with q | q
              · have := h1.1
                rw [q, show (nI 0 - 1 : Int32).toInt = -1 by decide] at this
                omega
              · exact q
            have hne : ¬ nI l - 1 = nI l := fun e => by
              rw [nI_pred1 hl1] at e
              have := nI_inj (by omega) (by omega) e
              omega
            rw [if_pos h1, if_pos (b1.mp h1), if_pos ⟨⟨h20, h30⟩, ha, hne⟩, nI_pred1 hl1]
            rw [nI_pred1 hl1] at h1
            exact rel_to h hc (by omega) (by omega) (by omega) hr erc h1
          · rw [if_neg h1, if_neg (fun q => h1 (b1.mpr q))]
            by_cases h2 : k_bet A nl nc ns L (szI A) c gp (nI l + 1)
            · have h2L := h2.1
              rw [nI_1, ti_nI (by omega)] at h2L
              have hne : ¬ nI l + 1 = nI l := fun e => by
                rw [nI_1] at e
                have := nI_inj (by omega) (by omega) e
                omega
              rw [if_pos h2, if_pos (b2.mp h2), if_pos ⟨⟨h20, h30⟩, ha, hne⟩, nI_1]
              rw [nI_1] at h2
              exact rel_to h hc (by omega) (by omega) (by omega) hr erc h2
            · rw [if_neg h2, if_neg (fun q => h2 (b2.mpr q)), if_neg (fun q => q.2.2 rfl)]
              exact h
        · rw [if_neg ha, if_neg (fun q => ha q.2.1)]
          exact h
      · rw [if_neg (fun q => h30 q.2), if_neg (fun q => h30 q.1.2)]
        exact h
    · rw [if_neg (fun q => h20 q.1), if_neg (fun q => h20 q.1.1)]
      exact h
  · obtain ⟨r, hr, -, er⟩ := pre e
    rw [er]
    exact hr
  · have x2 := (h.2.2.2.2.2.2.2.2.2.2.2.1 l2 h1).2.2.2
    have := x2.lt hb hc (fun q => h2 (nI_inj (by omega) (by omega) (q.2.symm.trans cl)))
    omega
