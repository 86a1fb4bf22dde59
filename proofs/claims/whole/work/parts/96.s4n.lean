/-! pure: all cars of the reference move; near misses -/
theorem mvp_cg {X Y : Nat → Nat → Int32} {ns a : Nat} (hp : ∀ p, p < 20 → pt (Y 34) p a = pt (X 34) p a) (hk : ∀ k, k ≠ 34 → Y k = X k) (h1 : Y 34 1 = X 34 1) : (outm Y a ↔ outm X a) ∧ (∀ k, mps Y a k ↔ mps X a k) ∧ ∀ p, p < 20 → mvp Y ns a p = mvp X ns a p := by
  have e3 := hp 3 (by decide); have e4 := hp 4 (by decide); have e8 := hp 8 (by decide); have e0 := hp 0 (by decide)
  have o : outm Y a ↔ outm X a := by unfold outm nfm; rw [e3, e4, e8, hk 33 (by decide)]
  refine ⟨o, fun k => by unfold mps nfm; rw [e3, e4, hk 45 (by decide)], fun p h => ?_⟩
  unfold mvp
  have en : nfm Y a = nfm X a := by unfold nfm; rw [e3, e4]
  refine ite_cg2 Iff.rfl en (ite_cg2 Iff.rfl (ite_cg2 o rfl (hp 2 (by decide))) (ite_cg2 Iff.rfl (ite_cg2 o h1 (hp 6 (by decide))) ?_))
  by_cases q : 11 ≤ p ∧ p < 11 + ns
  · rw [if_pos q, if_pos q, hp p h]
    congr 1
    refine bI_cg ?_
    unfold m_more m_std
    rw [e0, e4, en, hk 43 (by decide), hk 44 (by decide), hp (11 + (p - 11)) (by omega)]
  · rw [if_neg q, if_neg q, hp p h]
theorem m_mv_at {X : Nat → Nat → Int32} {N ns nn : Nat} (hns : ns ≤ 4) (hnn : nn ≤ 4) (hln : ∀ c, c < N → ∃ ln, ln < 3 ∧ pt (X 34) 1 c = nI ln) : ∀ m, m ≤ N → (∀ k, k ≠ 34 → m_mv X ns nn m k = X k) ∧ (∀ i, i < 6 → i ≠ 2 → m_mv X ns nn m 34 i = X 34 i) ∧ m_mv X ns nn m 34 2 = X 34 2 + sm (fun c => if pt (X 34) 2 c = 1 ∧ outm X c then X 34 1 - pt (X 34) 5 c else 0) m ∧
    (∀ k l2, k < 4 → l2 < 3 → m_mv X ns nn m 34 (6 + 3 * k + l2) = if k < nn then X 34 (6 + 3 * k + l2) + sm (fun c => if pt (X 34) 2 c = 1 ∧ pt (X 34) 1 c = nI l2 then bI (mps X c k) else 0) m else X 34 (6 + 3 * k + l2)) ∧ (∀ p c, p < 20 → pt (m_mv X ns nn m 34) p c = if c < m ∧ pt (X 34) 2 c = 1 then mvp X ns c p else pt (X 34) p c)
  | 0, _ => ⟨fun _ _ => rfl, fun _ _ _ => rfl, (Int32.add_zero _).symm, fun k l2 _ _ => by
    split
    · exact (Int32.add_zero _).symm
    · rfl, fun p c _ => (if_neg (fun q => absurd q.1 (by omega))).symm⟩
  | m + 1, hm => by
    obtain ⟨i1, i2, i3, i4, i5⟩ := m_mv_at hns hnn hln m (by omega)
    rw [m_mv]
    generalize m_mv X ns nn m = Y at i1 i2 i3 i4 i5 ⊢
    have ep : ∀ p, p < 20 → pt (Y 34) p m = pt (X 34) p m := fun p hp => by rw [i5 p m hp, if_neg (fun q => absurd q.1 (by omega))]
    rw [ep 2 (by decide)]
    obtain ⟨ln, l1, l2⟩ := hln m (by omega)
    by_cases h : pt (X 34) 2 m = 1
    · rw [if_pos h, ep 1 (by decide), l2, cl_nI (by omega)]
      obtain ⟨a1, a2, a3, a4, a5⟩ := m_mov_at (X := Y) (a := m) l1 hns hnn
      obtain ⟨c1, c2, c3⟩ := mvp_cg (ns := ns) ep i1 (i2 1 (by decide) (by decide))
      generalize m_mov Y ns nn m ln = Z at a1 a2 a3 a4 a5 ⊢
      refine ⟨fun k hk => (a1 k hk).trans (i1 k hk), fun i hi h2 => (a2 i hi h2).trans (i2 i hi h2), ?_, fun k lx hk hlx => ?_, fun p c hp => ?_⟩
      · rw [a3, i3, sm, Int32.add_assoc]
        congr 2
        rw [i2 1 (by decide) (by decide), ep 5 (by decide)]
        exact ite_cg ⟨fun w => ⟨h, c1.mp w⟩, fun w => c1.mpr w.2⟩
      · rw [a4 k lx hk hlx, i4 k lx hk hlx]
        by_cases q : k < nn
        · rw [if_pos q, if_pos q, sm, l2]
          by_cases e : lx = ln
          · rw [if_pos ⟨e, q⟩, if_pos ⟨h, by rw [e]⟩, bI_cg (c2 k), Int32.add_assoc]
          · rw [if_neg (fun w => e w.1), if_neg (fun w => e (nI_inj (by omega) (by omega) w.2.symm)), Int32.add_zero]
        · rw [if_neg (fun w => q w.2), if_neg q, if_neg q]
      · rw [a5 p c hp, i5 p c hp]
        by_cases e : c = m
        · rw [if_pos e, if_pos ⟨by omega, by rw [e]; exact h⟩, c3 p hp, e]
        · rw [if_neg e]
          exact ite_cg ⟨fun w => ⟨by omega, w.2⟩, fun w => ⟨by omega, w.2⟩⟩
    · rw [if_neg h]
      refine ⟨i1, i2, ?_, fun k lx hk hlx => ?_, fun p c hp => ?_⟩
      · rw [i3, sm, if_neg (fun w => h w.1), Int32.add_zero]
      · rw [i4 k lx hk hlx, sm, if_neg (show ¬ (pt (X 34) 2 m = 1 ∧ pt (X 34) 1 m = nI lx) from fun w => h w.1), Int32.add_zero]
      · rw [i5 p c hp]
        refine ite_cg ⟨fun w => ⟨by omega, w.2⟩, fun w => ⟨?_, w.2⟩⟩
        have : c ≠ m := fun e => h (by rw [← e]; exact w.2)
        omega
theorem m_bef_cg {b b' : Nat → Int32} (hp : ∀ p c, pt b' p c = pt b p c) (a : Nat) (l : Int32) : ∀ n, m_bef b' a l n = m_bef b a l n
  | 0 => rfl
  | n + 1 => by
    rw [m_bef, m_bef, m_bef_cg hp a l n]
    refine ite_cg2 ?_ rfl rfl
    have : m_ls b' n (m_bef b a l n) = m_ls b n (m_bef b a l n) := by
      cases m_bef b a l n with
      | none => rfl
      | some f =>
        show decide (pt b' 3 n - pt b' 8 n < pt b' 3 f - pt b' 8 f) = decide (pt b 3 n - pt b 8 n < pt b 3 f - pt b 8 f)
        rw [hp 3 n, hp 8 n, hp 3 f, hp 8 f]
    rw [this]
    unfold m_ahead
    rw [hp, hp, hp, hp]
theorem m_near_cg {b b' : Nat → Int32} (hp : ∀ p c, pt b' p c = pt b p c) (N c : Nat) : m_near b' N c = m_near b N c := by
  unfold m_near
  rw [hp 2 c, hp 1 c, m_bef_cg hp]
  cases (if pt b 2 c = 1 then m_bef b c (pt b 1 c) N else none) with
  | none => rfl
  | some f =>
    show decide (pt b' 4 f < pt b' 4 c ∧ pt b' 3 f - pt b' 8 f - pt b' 3 c < 5 * pt b' 4 c) = decide (pt b 4 f < pt b 4 c ∧ pt b 3 f - pt b 8 f - pt b 3 c < 5 * pt b 4 c)
    rw [hp 4 f, hp 4 c, hp 3 f, hp 8 f, hp 3 c]
theorem m_nr_at {X : Nat → Nat → Int32} {N : Nat} : ∀ m, (∀ k, k ≠ 34 → m_nr X N m k = X k) ∧ (∀ i, i ≠ 3 → m_nr X N m 34 i = X 34 i) ∧ m_nr X N m 34 3 = X 34 3 + sm (fun c => bI (m_near (X 34) N c = true)) m
  | 0 => ⟨fun _ _ => rfl, fun _ _ => rfl, (Int32.add_zero _).symm⟩
  | m + 1 => by
    obtain ⟨i1, i2, i3⟩ := m_nr_at (X := X) (N := N) m
    rw [m_nr]
    generalize m_nr X N m = Y at i1 i2 i3 ⊢
    rw [m_near_cg (fun p c => i2 _ (by omega)) N m]
    refine ⟨fun k hk => by rw [mci_ne _ _ _ hk, i1 k hk], fun i hi => by rw [mci_at, if_neg hi, i2 i hi], ?_⟩
    rw [mci_at, if_pos rfl, i3, sm, Int32.add_assoc]
theorem sm_shift {f : Nat → Int32} (h0 : f 0 = 0) : ∀ s, sm f s = sm (fun r => f (r + 1)) (s - 1)
  | 0 => rfl
  | 1 => by rw [sm, sm, h0]; rfl
  | s + 2 => by
    rw [sm, sm_shift h0 (s + 1)]
    rfl
/-- near misses: by rows and by cars -/
theorem near_eq {A : Nat → Nat → Int32} {b : Nat → Int32} {N L : Nat} (hL3 : L ≤ 3) (hb : ∀ c, c < N → CB A c) (hp : ∀ c, c < N → RP A b c) (hq : ∀ c, c < N → pt b 4 c = A 22 c) (hL : ∀ c, c < N → A 19 c = nI (lnI A c) ∧ lnI A c < L) (hW : ∀ l, l < 3 → LaneOK A N l (szI A l)) : sm (fun l => NS A l) L = sm (fun c => bI (m_near b N c = true)) N := by
  have h1 : ∀ l, l < 3 → NS A l = sm (fun c => if A 20 c = 1 ∧ A 19 c = nI l then bI (m_near b N c = true) else 0) N := fun l hl => by
    have w := hW l hl
    rw [← w.sum hb (fun c => bI (m_near b N c = true))]
    have hnear : ∀ j, j < szI A l → m_near b N (rw_ A l j) = m_nrB b (rw_ A l j) (k_ld A l j) := fun j hj => by
      obtain ⟨a1, a2, a3⟩ := w.1 j hj
      obtain ⟨p1, p2, p3, p4⟩ := hp _ a1
      unfold m_near
      rw [p1, if_pos a2, p2, a3, w.lead hb hp p3 (w.own hb hj)]
    rcases Nat.eq_zero_or_pos (szI A l) with z | z
    · unfold NS
      rw [z]; rfl
    · rw [sm_shift (f := fun j => bI (m_near b N (rw_ A l j) = true)) (bI_f (by rw [hnear 0 z]; exact Bool.false_ne_true))]
      refine sm_cg (fun r hr => bI_cg ?_)
      rw [hnear (r + 1) (by omega)]
      obtain ⟨a1, a2, a3⟩ := w.1 r (by omega)
      obtain ⟨b1, b2, b3⟩ := w.1 (r + 1) (by omega)
      show _ ↔ decide _ = true
      rw [decide_eq_true_iff, hq _ a1, hq _ b1, (hp _ a1).rr, (hp _ b1).2.2.1]
  have h2 : ∀ l, l ≤ L → sm (fun l => NS A l) l = sm (fun c => if A 20 c = 1 ∧ lnI A c < l then bI (m_near b N c = true) else 0) N := fun l => by
    induction l with
    | zero =>
      intro _
      rw [sm_zero (fun c _ => if_neg (fun q => absurd q.2 (by omega)))]
      rfl
    | succ l ih =>
      intro hl
      rw [sm, ih (by omega), h1 l (by omega), sm_lane hL hL3 (by omega)]
  rw [h2 L (Nat.le_refl _)]
  refine sm_cg (fun c hc => ?_)
  by_cases w : A 20 c = 1
  · rw [if_pos ⟨w, (hL c hc).2⟩]
  · rw [if_neg (fun q => w q.1)]
    refine (bI_f ?_).symm
    unfold m_near
    rw [(hp c hc).1, if_neg w]
    exact Bool.false_ne_true
