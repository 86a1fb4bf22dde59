/-! pure: what stands on the road, the gap, the speed that it allows -/
def TH (A B : Nat → Nat → Int32) (nl nc ns nn L : Nat) : Prop :=
  (A 2 10 = nI nl ∧ B 33 5 = nI nl ∧ nl ≤ 4) ∧ (A 2 11 = nI nc ∧ B 33 9 = nI nc ∧ nc ≤ 6) ∧ (A 2 12 = nI ns ∧ B 33 14 = nI ns ∧ ns ≤ 4) ∧ (A 2 13 = nI nn ∧ B 33 17 = nI nn ∧ nn ≤ 4) ∧
  (A 1 4 = nI L ∧ A 0 1 = nI L ∧ B 33 1 = nI L ∧ 1 ≤ L ∧ L ≤ 3) ∧ (A 0 2 = A 1 5 ∧ B 33 2 = A 1 5 ∧ 1000 ≤ (A 1 5).toInt ∧ (A 1 5).toInt ≤ 100000) ∧
  (∀ k, k < nl → B 36 k = A 3 k ∧ B 37 k = A 4 k ∧ B 38 k = A 5 k ∧ 0 < (A 5 k).toInt ∧ 0 ≤ (A 3 k).toInt ∧ (A 3 k).toInt ≤ 100000) ∧
  (∀ k, k < nc → B 39 k = A 6 k ∧ B 40 k = A 7 k ∧ B 41 k = A 8 k ∧ B 42 k = A 9 k ∧ 0 ≤ (A 7 k).toInt ∧ (A 7 k).toInt ≤ 100000) ∧
  (∀ k, k < ns → B 43 k = A 10 k ∧ B 44 k = A 11 k ∧ 0 ≤ (A 10 k).toInt ∧ (A 10 k).toInt ≤ 100000 ∧ 1 ≤ (A 11 k).toInt) ∧
  (∀ k, k < nn → B 45 k = A 12 k)
def GB (g : Int32) : Prop := -110000 ≤ g.toInt ∧ g.toInt ≤ 1000000
theorem t0 : (0 : Int32).toInt = 0 := by decide
theorem lsr_le (a b : Int32) : (lsr a b).toInt = if a.toInt < b.toInt then a.toInt else b.toInt := by
  unfold lsr
  by_cases h : a < b
  · rw [if_pos h, if_pos (ti_lt.mp h)]
  · rw [if_neg h, if_neg (fun q => h (ti_lt.mpr q))]
theorem st_nrr {a q f : Int32} {p p' : Prop} [Decidable p] [Decidable p'] (hp : p ↔ p') (hq : 0 ≤ q.toInt ∧ q.toInt ≤ 100000) (hf : 0 ≤ f.toInt ∧ f.toInt ≤ 102000) (ha : GB a) : k_st a (q - f) p = nrr a f q p' ∧ GB (k_st a (q - f) p) := by
  have e : (q - f).toInt = q.toInt - f.toInt := ti_sub (by omega) (by omega)
  unfold k_st nrr GB
  by_cases h1 : p
  · by_cases h2 : f ≤ q
    · rw [if_pos (⟨hp.mp h1, h2⟩ : p' ∧ f ≤ q)]
      rw [ti_le] at h2
      by_cases h3 : q - f < a
      · rw [if_pos ⟨⟨by rw [ti_lt, e, t0]; omega, h3⟩, h1⟩]
        rw [ti_lt] at h3
        refine ⟨?_, by omega⟩
        unfold lsr
        rw [if_neg (by rw [ti_lt]; omega)]
      · rw [if_neg (fun q => h3 q.1.2)]
        refine ⟨?_, ha⟩
        rw [ti_eq, lsr_le]
        rw [ti_lt] at h3
        split
        · rfl
        · omega
    · have h5 : ¬ ((¬ q - f < 0 ∧ q - f < a) ∧ p) := by
        intro w
        have := w.1.1
        rw [ti_lt, e, t0] at this
        rw [ti_le] at h2
        omega
      have h6 : ¬ (p' ∧ f ≤ q) := fun w => h2 w.2
      rw [if_neg h5, if_neg h6]
      exact ⟨rfl, ha⟩
  · rw [if_neg (fun q => h1 q.2), if_neg (fun q => h1 (hp.mpr q.1))]
    exact ⟨rfl, ha⟩
theorem gl_eq {A B : Nat → Nat → Int32} {nl nc ns nn L : Nat} (ht : TH A B nl nc ns nn L) (hn : B 34 1 = A 13 4) {f a : Int32} (hf : 0 ≤ f.toInt ∧ f.toInt ≤ 102000) (ha : GB a) : ∀ k, k ≤ nl → k_nl A f (A 13 4) a k = m_gl B f a k ∧ GB (k_nl A f (A 13 4) a k)
  | 0, _ => ⟨rfl, ha⟩
  | k + 1, hk => by
    obtain ⟨e1, e2⟩ := gl_eq ht hn hf ha k (by omega)
    obtain ⟨t1, t2, t3, t4, t5, t6⟩ := ht.2.2.2.2.2.2.1 k (by omega)
    rw [k_nl, m_gl, ← e1, t1]
    refine st_nrr ?_ ⟨t5, t6⟩ hf e2
    show (0 < A 5 k ∧ A 13 4 - A 13 4 / A 5 k * A 5 k < A 4 k) ↔ B 34 1 - B 34 1 / B 38 k * B 38 k < B 37 k
    rw [hn, t2, t3]
    exact ⟨fun q => q.2, fun q => ⟨by rw [ti_lt, t0]; exact t4, q⟩⟩
theorem gc_eq {A B : Nat → Nat → Int32} {nl nc ns nn L : Nat} (ht : TH A B nl nc ns nn L) (hn : B 34 1 = A 13 4) {f a l : Int32} (hf : 0 ≤ f.toInt ∧ f.toInt ≤ 102000) (ha : GB a) : ∀ k, k ≤ nc → k_nc A l f (A 13 4) a k = m_gc B f l a k ∧ GB (k_nc A l f (A 13 4) a k)
  | 0, _ => ⟨rfl, ha⟩
  | k + 1, hk => by
    obtain ⟨e1, e2⟩ := gc_eq ht hn (l := l) hf ha k (by omega)
    obtain ⟨t1, t2, t3, t4, t5, t6⟩ := ht.2.2.2.2.2.2.2.1 k (by omega)
    rw [k_nc, m_gc, ← e1, t2]
    refine st_nrr ?_ ⟨t5, t6⟩ hf e2
    show (A 6 k = l ∧ A 8 k ≤ A 13 4 ∧ A 13 4 < A 9 k) ↔ (B 39 k = l ∧ B 41 k ≤ B 34 1 ∧ B 34 1 < B 42 k)
    rw [hn, t1, t3, t4]
theorem gs_eq {A B : Nat → Nat → Int32} {nl nc ns nn L : Nat} (ht : TH A B nl nc ns nn L) {c : Nat} {a : Int32} (hf : 0 ≤ (A 21 c).toInt ∧ (A 21 c).toInt ≤ 102000) (ha : GB a) (hk1 : pt (B 34) 0 c = A 15 c) (hst : ∀ k, k < ns → pt (B 34) (11 + k) c = lsr (A 26 (c * 4 + k)) (A 11 k)) : ∀ k, k ≤ ns → (if A 15 c = 1 then k_ns A c a k else a) = m_gs B (A 21 c) c a k ∧ GB (if A 15 c = 1 then k_ns A c a k else a)
  | 0, _ => by
    rw [k_ns, m_gs]
    split
    · exact ⟨rfl, ha⟩
    · exact ⟨rfl, ha⟩
  | k + 1, hk => by
    obtain ⟨e1, e2⟩ := gs_eq ht hf ha hk1 hst k (by omega)
    obtain ⟨t1, t2, t3, t4, t5⟩ := ht.2.2.2.2.2.2.2.2.1 k (by omega)
    rw [k_ns, m_gs, ← e1, t1]
    have hs := hst k (by omega)
    by_cases hb : A 15 c = 1
    · rw [if_pos hb] at e2
      rw [if_pos hb, if_pos hb]
      refine st_nrr ?_ ⟨t3, t4⟩ hf e2
      show A 26 (c * 4 + k) < A 11 k ↔ (pt (B 34) 0 c = 1 ∧ pt (B 34) (11 + k) c < B 44 k)
      rw [hk1, hs, t2, ti_lt, ti_lt, lsr_le]
      constructor
      · intro q
        exact ⟨hb, by rw [if_pos q]; exact q⟩
      · intro q
        have q2 := q.2
        split at q2
        · next h => exact h
        · omega
    · rw [if_neg hb] at e2
      rw [if_neg hb, if_neg hb]
      unfold nrr
      rw [if_neg (fun q => hb (hk1 ▸ q.1.1))]
      exact ⟨rfl, ha⟩
theorem g0_eq {A B : Nat → Nat → Int32} {N c : Nat} {o : Option Nat} (hb : ∀ c, c < N → CB A c) (hp : ∀ c, c < N → RP A (B 34) c) (hc : c < N) (ho : ∀ f, o = some f → f < N) : k_g0 A c o = m_g0 (B 34) c o ∧ GB (k_g0 A c o) := by
  cases o with
  | none => exact ⟨rfl, show GB 1000000 by unfold GB; decide⟩
  | some f =>
    have b1 := (hb c hc).2.2.2.2
    have hf := hb f (ho f rfl)
    have b2 := hf.2.2.2.2
    have b3 := hf.1
    have e := hf.re
    have e2 : (k_re A f - A 21 c).toInt = (k_re A f).toInt - (A 21 c).toInt := ti_sub (by omega) (by omega)
    show (if k_re A f - A 21 c < 1000000 then k_re A f - A 21 c else 1000000) = rr (B 34) f - pt (B 34) 3 c ∧ GB (if k_re A f - A 21 c < 1000000 then k_re A f - A 21 c else 1000000)
    rw [(hp f (ho f rfl)).rr, (hp c hc).2.2.1, if_pos (by rw [ti_lt, e2, show (1000000 : Int32).toInt = 1000000 by decide]; omega)]
    exact ⟨rfl, by unfold GB; omega⟩
theorem k_ld_N {A : Nat → Nat → Int32} {N l s r f : Nat} (h : LaneOK A N l s) (hr : r ≤ s) (e : k_ld A l r = some f) : f < N := by
  cases r with
  | zero => cases e
  | succ r => cases e; exact (h.1 r (by omega)).1
/-- a car's standing, as far as its gap goes -/
def RG (A B : Nat → Nat → Int32) (ns c : Nat) : Prop := pt (B 34) 0 c = A 15 c ∧ ∀ k, k < ns → pt (B 34) (11 + k) c = lsr (A 26 (c * 4 + k)) (A 11 k)
/-- class and reference find the same gap -/
theorem gap_eq {A B : Nat → Nat → Int32} {N nl nc ns nn L l s r c : Nat} (ht : TH A B nl nc ns nn L) (hn : B 34 1 = A 13 4) (h : LaneOK A N l s) (hb : ∀ c, c < N → CB A c) (hp : ∀ c, c < N → RP A (B 34) c) (hc : c < N) (hg : RG A B ns c) (hr : Rank A l s (A 21 c) r) : k_gap A nl nc ns l r c = m_gap B N nl nc ns c (nI l) ∧ GB (k_gap A nl nc ns l r c) := by
  have hf := (hb c hc).2.2.2.2
  have e3 := (hp c hc).2.2.1
  obtain ⟨q1, q2⟩ := g0_eq (A := A) (B := B) (o := k_ld A l r) hb hp hc (fun f e => k_ld_N h hr.1 e)
  obtain ⟨q3, q4⟩ := gl_eq ht hn hf q2 nl (Nat.le_refl _)
  obtain ⟨q5, q6⟩ := gc_eq ht hn (l := nI l) hf q4 nc (Nat.le_refl _)
  obtain ⟨q7, q8⟩ := gs_eq ht (c := c) hf q6 hg.1 hg.2 ns (Nat.le_refl _)
  have el := h.lead hb hp e3 hr
  constructor
  · show (if A 15 c = 1 then _ else _) = _
    unfold m_gap
    rw [e3, el, ← q1, ← q3, ← q5, ← q7]
  · exact q8
theorem ti_div10 {a : Int32} (h : -2147483648 < a.toInt) : (a / 10).toInt = a.toInt.tdiv 10 := by
  have e10 : (10 : Int32).toInt = 10 := by decide
  have hd : (a / 10).toInt = (a.toInt.tdiv (10 : Int32).toInt) := by
    rw [Int32.toInt_div_of_ne_right]
    intro q
    exact absurd q (by decide)
  rw [hd, e10]
/-- class and reference allow the same speed -/
theorem alw_eq {g : Int32} (h : GB g) : k_alw g = alw g ∧ 0 ≤ (alw g).toInt ∧ (g.toInt < 200 → (alw g).toInt = 0) ∧ (200 ≤ g.toInt → 10 * (alw g).toInt ≤ g.toInt - 200) := by
  obtain ⟨h1, h2⟩ := h
  have e200 : (200 : Int32).toInt = 200 := by decide
  have es : (g - 200).toInt = g.toInt - 200 := by rw [ti_sub (by rw [e200]; omega) (by rw [e200]; omega), e200]
  have ed : ((g - 200) / 10).toInt = (g.toInt - 200).tdiv 10 := by rw [ti_div10 (by omega), es]
  unfold k_alw alw
  by_cases q : g < 200
  · rw [if_pos q]
    rw [ti_lt, e200] at q
    have e0 : (g.toInt - 200).tdiv 10 ≤ 0 := by
      rw [show g.toInt - 200 = -(200 - g.toInt) by omega, Int.neg_tdiv]
      have : 0 ≤ (200 - g.toInt).tdiv 10 := Int.tdiv_nonneg (by omega) (by decide)
      omega
    rw [if_neg (by rw [ti_lt, ed, t0]; omega)]
    exact ⟨rfl, by decide, fun _ => rfl, fun w => absurd w (by omega)⟩
  · rw [if_neg q]
    rw [ti_lt, e200] at q
    have e0 : 0 ≤ (g.toInt - 200).tdiv 10 := Int.tdiv_nonneg (by omega) (by decide)
    have e1 : (g.toInt - 200).tdiv 10 = (g.toInt - 200) / 10 := Int.tdiv_eq_ediv_of_nonneg (by omega)
    refine ⟨?_, by rw [ed]; exact e0, fun w => absurd w (by omega), fun _ => by rw [ed, e1]; omega⟩
    split
    · rfl
    · next w =>
      rw [ti_lt, ed, t0] at w
      rw [ti_eq, ed, t0]
      omega
