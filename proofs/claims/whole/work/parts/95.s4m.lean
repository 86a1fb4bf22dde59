/-! pure: all cars move: the reference -/
theorem m_m1_at {I : Nat → Nat → Int32} {a : Nat} {x : Int32} : ∀ n, n ≤ 4 → (∀ k, k ≠ 34 → m_m1 I a x n k = I k) ∧ (∀ i, i < 20 → m_m1 I a x n 34 i = I 34 i) ∧ ∀ p c, p < 20 → pt (m_m1 I a x n 34) p c = if c = a ∧ 11 ≤ p ∧ p < 11 + n then pt (I 34) p c + bI (m_more I a x (p - 11)) else pt (I 34) p c
  | 0, _ => ⟨fun _ _ => rfl, fun _ _ => rfl, fun p c _ => (if_neg (fun q => by omega)).symm⟩
  | n + 1, hn => by
    obtain ⟨i1, i2, i3⟩ := m_m1_at (I := I) (a := a) (x := x) n (by omega)
    rw [m_m1]
    generalize m_m1 I a x n = Y at i1 i2 i3 ⊢
    have e0 : pt (Y 34) 0 a = pt (I 34) 0 a := by rw [i3 0 a (by decide), if_neg (by omega)]
    have e4 : pt (Y 34) 4 a = pt (I 34) 4 a := by rw [i3 4 a (by decide), if_neg (by omega)]
    have en : pt (Y 34) (11 + n) a = pt (I 34) (11 + n) a := by rw [i3 (11 + n) a (by omega), if_neg (by omega)]
    have hm : m_more Y a x n ↔ m_more I a x n := by
      unfold m_more m_std
      rw [e0, e4, en, i1 43 (by decide), i1 44 (by decide)]
    rw [bI_cg hm, en]
    refine ⟨fun k hk => by rw [mp_ne _ _ _ _ hk, i1 k hk], fun i hi => by rw [mp_at, if_neg (by omega), i2 i hi], fun p c hp => ?_⟩
    show mp _ _ _ _ 34 (20 + 20 * c + p) = _
    rw [mp_at]
    have i3' : Y 34 (20 + 20 * c + p) = if c = a ∧ 11 ≤ p ∧ p < 11 + n then pt (I 34) p c + bI (m_more I a x (p - 11)) else pt (I 34) p c := i3 p c hp
    by_cases e : c = a ∧ p = 11 + n
    · rw [if_pos (by omega), if_pos (by omega), e.1, e.2, show 11 + n - 11 = n by omega]
    · rw [if_neg (by omega), i3']
      exact ite_cg (by omega)
theorem m_m2_at {I : Nat → Nat → Int32} {ln : Nat} {w x : Int32} (hl : ln < 3) : ∀ n, n ≤ 4 → (∀ k, k ≠ 34 → m_m2 I ln w x n k = I k) ∧ (∀ i, i < 6 → m_m2 I ln w x n 34 i = I 34 i) ∧ (∀ i, 18 ≤ i → m_m2 I ln w x n 34 i = I 34 i) ∧ ∀ k l2, k < 4 → l2 < 3 → m_m2 I ln w x n 34 (6 + 3 * k + l2) = if l2 = ln ∧ k < n then I 34 (6 + 3 * k + l2) + bI (w ≤ I 45 k ∧ I 45 k < x) else I 34 (6 + 3 * k + l2)
  | 0, _ => ⟨fun _ _ => rfl, fun _ _ => rfl, fun _ _ => rfl, fun k l2 _ _ => (if_neg (fun q => absurd q.2 (by omega))).symm⟩
  | n + 1, hn => by
    obtain ⟨i1, i2, i3, i4⟩ := m_m2_at (I := I) (w := w) (x := x) hl n (by omega)
    rw [m_m2]
    generalize m_m2 I ln w x n = Y at i1 i2 i3 i4 ⊢
    rw [i1 45 (by decide)]
    refine ⟨fun k hk => by rw [mci_ne _ _ _ hk, i1 k hk], fun i hi => by rw [mci_at, if_neg (by omega), i2 i hi], fun i hi => by rw [mci_at, if_neg (by omega), i3 i hi], fun k l2 hk hl2 => ?_⟩
    rw [mci_at]
    by_cases e : k = n ∧ l2 = ln
    · rw [if_pos (by omega), if_pos ⟨e.2, by omega⟩, e.1, e.2, i4 n ln (by omega) hl, if_neg (by omega)]
    · rw [if_neg (by omega), i4 k l2 hk hl2]
      exact ite_cg (by omega)
abbrev nfm (X : Nat → Nat → Int32) (a : Nat) : Int32 := pt (X 34) 3 a + pt (X 34) 4 a
abbrev outm (X : Nat → Nat → Int32) (a : Nat) : Prop := X 33 2 < nfm X a - pt (X 34) 8 a
abbrev mps (X : Nat → Nat → Int32) (a k : Nat) : Prop := pt (X 34) 3 a ≤ X 45 k ∧ X 45 k < nfm X a
/-- a car's numbers behind its move -/
def mvp (X : Nat → Nat → Int32) (ns a p : Nat) : Int32 :=
  if p = 3 then nfm X a else if p = 2 then (if outm X a then 2 else pt (X 34) 2 a) else if p = 6 then (if outm X a then X 34 1 else pt (X 34) 6 a) else if 11 ≤ p ∧ p < 11 + ns then pt (X 34) p a + bI (m_more X a (nfm X a) (p - 11)) else pt (X 34) p a
theorem m_mov_at {X : Nat → Nat → Int32} {ns nn a ln : Nat} (hl : ln < 3) (hns : ns ≤ 4) (hnn : nn ≤ 4) : (∀ k, k ≠ 34 → m_mov X ns nn a ln k = X k) ∧ (∀ i, i < 6 → i ≠ 2 → m_mov X ns nn a ln 34 i = X 34 i) ∧ m_mov X ns nn a ln 34 2 = X 34 2 + (if outm X a then X 34 1 - pt (X 34) 5 a else 0) ∧
    (∀ k l2, k < 4 → l2 < 3 → m_mov X ns nn a ln 34 (6 + 3 * k + l2) = if l2 = ln ∧ k < nn then X 34 (6 + 3 * k + l2) + bI (mps X a k) else X 34 (6 + 3 * k + l2)) ∧ (∀ p c, p < 20 → pt (m_mov X ns nn a ln 34) p c = if c = a then mvp X ns a p else pt (X 34) p c) := by
  unfold m_mov
  have ep : ∀ p c, p < 20 → pt (mp X a 3 (nfm X a) 34) p c = if c = a ∧ p = 3 then nfm X a else pt (X 34) p c := fun p c hp => mp_pt _ _ _ _ (by decide) hp
  have e0 : ∀ i, i < 20 → mp X a 3 (nfm X a) 34 i = X 34 i := fun i hi => by rw [mp_at, if_neg (by omega)]
  have eo : ∀ k, k ≠ 34 → mp X a 3 (nfm X a) k = X k := fun k hk => mp_ne _ _ _ _ hk
  obtain ⟨a1, a2, a3⟩ := m_m1_at (I := mp X a 3 (nfm X a)) (a := a) (x := nfm X a) ns hns
  have hm : ∀ k, k < 4 → (m_more (mp X a 3 (nfm X a)) a (nfm X a) k ↔ m_more X a (nfm X a) k) := fun k hk => by
    unfold m_more m_std
    rw [ep 0 a (by decide), ep 4 a (by decide), ep (11 + k) a (by omega), if_neg (by omega), if_neg (by omega), if_neg (by omega), eo 43 (by decide), eo 44 (by decide)]
  generalize mp X a 3 (nfm X a) = U at ep e0 eo a1 a2 a3 hm ⊢
  generalize m_m1 U a (nfm X a) ns = V at a1 a2 a3 ⊢
  obtain ⟨b1, b2, b3, b4⟩ := m_m2_at (I := V) (w := pt (X 34) 3 a) (x := nfm X a) hl nn hnn
  generalize m_m2 V ln (pt (X 34) 3 a) (nfm X a) nn = W at b1 b2 b3 b4 ⊢
  have W33 : W 33 = X 33 := by rw [b1 33 (by decide), a1 33 (by decide), eo 33 (by decide)]
  have Wo : ∀ k, k ≠ 34 → W k = X k := fun k hk => by rw [b1 k hk, a1 k hk, eo k hk]
  have W0 : ∀ i, i < 6 → W 34 i = X 34 i := fun i hi => by rw [b2 i hi, a2 i (by omega), e0 i (by omega)]
  have Wp : ∀ p c, p < 20 → pt (W 34) p c = if c = a then (if p = 3 then nfm X a else if 11 ≤ p ∧ p < 11 + ns then pt (X 34) p a + bI (m_more X a (nfm X a) (p - 11)) else pt (X 34) p a) else pt (X 34) p c := fun p c hp => by
    have : pt (W 34) p c = pt (V 34) p c := b3 _ (by omega)
    rw [this, a3 p c hp, ep p c hp]
    by_cases e : c = a
    · rw [if_pos e, e]
      by_cases q : p = 3
      · rw [if_pos q, if_neg (by omega), if_pos ⟨rfl, q⟩]
      · rw [if_neg q, if_neg (show ¬ (a = a ∧ p = 3) by omega)]
        by_cases z : 11 ≤ p ∧ p < 11 + ns
        · rw [if_pos ⟨rfl, z⟩, if_pos z, bI_cg (hm (p - 11) (by omega))]
        · rw [if_neg (fun w => z w.2), if_neg z]
    · rw [if_neg (fun w => e w.1), if_neg e, if_neg (fun w => e w.1)]
  have Wl : ∀ k l2, k < 4 → l2 < 3 → W 34 (6 + 3 * k + l2) = if l2 = ln ∧ k < nn then X 34 (6 + 3 * k + l2) + bI (mps X a k) else X 34 (6 + 3 * k + l2) := fun k l2 hk hl2 => by
    rw [b4 k l2 hk hl2, a2 _ (by omega), e0 _ (by omega), a1 45 (by decide), eo 45 (by decide)]
  have e8 : pt (W 34) 8 a = pt (X 34) 8 a := by rw [Wp 8 a (by decide), if_pos rfl, if_neg (by decide), if_neg (by omega)]
  have e5 : pt (W 34) 5 a = pt (X 34) 5 a := by rw [Wp 5 a (by decide), if_pos rfl, if_neg (by decide), if_neg (by omega)]
  clear ep e0 eo a1 a2 a3 hm b1 b2 b3 b4
  unfold m_m3
  rw [W33, e8]
  by_cases h : X 33 2 < nfm X a - pt (X 34) 8 a
  · rw [if_pos h, if_pos h]
    have g0 : ∀ i, i < 20 → mp (mp W a 2 2) a 6 (mp W a 2 2 34 1) 34 i = W 34 i := fun i hi => by rw [mp_at, if_neg (by omega), mp_at, if_neg (by omega)]
    have gp : ∀ p c, p < 20 → pt (mp (mp W a 2 2) a 6 (mp W a 2 2 34 1) 34) p c = if c = a ∧ p = 6 then X 34 1 else if c = a ∧ p = 2 then 2 else pt (W 34) p c := fun p c hp => by
      have ew : mp W a 2 2 34 1 = X 34 1 := by rw [mp_at, if_neg (by omega), W0 1 (by decide)]
      rw [mp_pt _ _ _ _ (by decide) hp, mp_pt _ _ _ _ (by decide) hp, ew]
    have go : ∀ k, k ≠ 34 → mp (mp W a 2 2) a 6 (mp W a 2 2 34 1) k = W k := fun k hk => by rw [mp_ne _ _ _ _ hk, mp_ne _ _ _ _ hk]
    generalize mp (mp W a 2 2) a 6 (mp W a 2 2 34 1) = T at g0 gp go ⊢
    refine ⟨fun k hk => by rw [mci_ne _ _ _ hk, go k hk, Wo k hk], fun i hi h2 => by rw [mci_at, if_neg h2, g0 i (by omega), W0 i hi], ?_, fun k l2 hk hl2 => by rw [mci_at, if_neg (by omega), g0 _ (by omega), Wl k l2 hk hl2], fun p c hp => ?_⟩
    · rw [mci_at, if_pos rfl, g0 2 (by decide), g0 1 (by decide), gp 5 a (by decide), if_neg (by omega), if_neg (by omega), W0 2 (by decide), W0 1 (by decide), e5]
    · have : pt (mci T 2 (T 34 1 - pt (T 34) 5 a) 34) p c = pt (T 34) p c := by
        show mci _ _ _ 34 (20 + 20 * c + p) = _
        rw [mci_at, if_neg (by omega)]
      rw [this, gp p c hp, Wp p c hp]
      by_cases e : c = a
      · rw [if_pos e, if_pos e]
        unfold mvp
        rw [if_pos h, if_pos h]
        by_cases q3 : p = 3
        · rw [if_neg (by omega), if_neg (by omega), if_pos q3, if_pos q3]
        · rw [if_neg q3, if_neg q3]
          by_cases q2 : p = 2
          · rw [if_neg (by omega), if_pos ⟨e, q2⟩, if_pos q2]
          · rw [if_neg q2]
            by_cases q6 : p = 6
            · rw [if_pos ⟨e, q6⟩, if_pos q6]
            · rw [if_neg (fun w => q6 w.2), if_neg q6, if_neg (fun w => q2 w.2)]
      · rw [if_neg (fun w => e w.1), if_neg (fun w => e w.1), if_neg e, if_neg e]
  · rw [if_neg h, if_neg h]
    refine ⟨Wo, fun i hi _ => W0 i hi, by rw [W0 2 (by decide), Int32.add_zero], Wl, fun p c hp => ?_⟩
    rw [Wp p c hp]
    by_cases e : c = a
    · rw [if_pos e, if_pos e]
      unfold mvp
      rw [if_neg h, if_neg h]
      by_cases q3 : p = 3
      · rw [if_pos q3, if_pos q3]
      · rw [if_neg q3, if_neg q3]
        by_cases q2 : p = 2
        · rw [if_pos q2, q2, if_neg (by omega)]
        · rw [if_neg q2]
          by_cases q6 : p = 6
          · rw [if_pos q6, q6, if_neg (by omega)]
          · rw [if_neg q6]
    · rw [if_neg e, if_neg e]
