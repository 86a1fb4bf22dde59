/-! pure: a lane's row, its order, who is before whom -/
/-- the row of lane l: its cars are those that drive there, the foremost first, no two with a place in common -/
def LaneOK (A : Nat → Nat → Int32) (N l s : Nat) : Prop :=
  (∀ j, j < s → rw_ A l j < N ∧ A 20 (rw_ A l j) = 1 ∧ A 19 (rw_ A l j) = nI l) ∧
  (∀ c, c < N → A 20 c = 1 → A 19 c = nI l → ∃ j, j < s ∧ rw_ A l j = c) ∧
  (∀ j, j + 1 < s → (A 21 (rw_ A l (j + 1))).toInt ≤ (A 21 (rw_ A l j)).toInt - (A 16 (rw_ A l j)).toInt)
/-- a car's numbers are small -/
def CB (A : Nat → Nat → Int32) (c : Nat) : Prop :=
  (400 ≤ (A 16 c).toInt ∧ (A 16 c).toInt ≤ 1200) ∧ (40 ≤ (A 17 c).toInt ∧ (A 17 c).toInt ≤ 200) ∧ (1 ≤ (A 18 c).toInt ∧ (A 18 c).toInt ≤ 9) ∧ (0 ≤ (A 22 c).toInt ∧ (A 22 c).toInt ≤ 200) ∧ (0 ≤ (A 21 c).toInt ∧ (A 21 c).toInt ≤ 102000)
theorem CB.re {A : Nat → Nat → Int32} {c : Nat} (h : CB A c) : (k_re A c).toInt = (A 21 c).toInt - (A 16 c).toInt := by
  obtain ⟨h1, -, -, -, h5⟩ := h
  rw [k_re, ti_sub (by omega) (by omega)]
theorem LaneOK.ord {A : Nat → Nat → Int32} {N l s : Nat} (h : LaneOK A N l s) (hb : ∀ c, c < N → CB A c) {i : Nat} : ∀ {j : Nat}, i < j → j < s → (A 21 (rw_ A l j)).toInt ≤ (A 21 (rw_ A l i)).toInt - (A 16 (rw_ A l i)).toInt
  | 0, h1, _ => absurd h1 (by omega)
  | j + 1, h1, h2 => by
    have q := h.2.2 j h2
    by_cases e : i = j
    · rw [e]; exact q
    · have ih := h.ord hb (i := i) (j := j) (by omega) (by omega)
      have b1 := (hb _ (h.1 j (by omega)).1).1
      omega
theorem LaneOK.inj {A : Nat → Nat → Int32} {N l s : Nat} (h : LaneOK A N l s) (hb : ∀ c, c < N → CB A c) {i j : Nat} (hi : i < s) (hj : j < s) (e : rw_ A l i = rw_ A l j) : i = j := by
  rcases Nat.lt_trichotomy i j with q | q | q
  · have := h.ord hb q hj
    rw [e] at this
    have b1 := (hb _ (h.1 j hj).1).1
    omega
  · exact q
  · have := h.ord hb q hi
    rw [e] at this
    have b1 := (hb _ (h.1 j hj).1).1
    omega
/-- r cars of the row have their front beyond f -/
def Rank (A : Nat → Nat → Int32) (l s : Nat) (f : Int32) (r : Nat) : Prop := r ≤ s ∧ (∀ j, j < r → f < A 21 (rw_ A l j)) ∧ ∀ j, r ≤ j → j < s → ¬ f < A 21 (rw_ A l j)
theorem k_rk_spec {A : Nat → Nat → Int32} {l : Nat} {f : Int32} : ∀ m r0, r0 ≤ k_rk A l f m r0 ∧ (∀ j, r0 ≤ j → j < k_rk A l f m r0 → f < A 21 (rw_ A l j)) ∧ (k_rk A l f m r0 < r0 + m → ¬ f < A 21 (rw_ A l (k_rk A l f m r0)))
  | 0, r0 => ⟨Nat.le_refl _, fun j h1 h2 => by rw [k_rk] at h2; omega, fun h => by rw [k_rk] at h; omega⟩
  | m + 1, r0 => by
    rw [k_rk]
    split
    · next hf =>
      obtain ⟨q1, q2, q3⟩ := k_rk_spec (A := A) (l := l) (f := f) m (r0 + 1)
      refine ⟨by omega, fun j h1 h2 => ?_, fun h => q3 (by omega)⟩
      by_cases e : j = r0
      · rw [e]; exact hf
      · exact q2 j (by omega) h2
    · next hf => exact ⟨Nat.le_refl _, fun j h1 h2 => absurd h2 (by omega), fun _ => hf⟩
theorem LaneOK.rank {A : Nat → Nat → Int32} {N l s : Nat} (h : LaneOK A N l s) (hb : ∀ c, c < N → CB A c) (f : Int32) : Rank A l s f (k_rk A l f s 0) := by
  obtain ⟨q1, q2, q3⟩ := k_rk_spec (A := A) (l := l) (f := f) s 0
  have q4 := k_rk_le (I := A) (l := l) (f := f) s 0
  generalize k_rk A l f s 0 = r at q1 q2 q3 q4
  refine ⟨by omega, fun j hj => q2 j (by omega) hj, fun j h1 h2 hf => ?_⟩
  have q5 := q3 (by omega)
  by_cases e : j = r
  · rw [e] at hf; exact q5 hf
  · have o := h.ord hb (i := r) (j := j) (by omega) h2
    have b1 := (hb _ (h.1 r (by omega)).1).1
    rw [ti_lt] at q5 hf
    omega
theorem Rank.uniq {A : Nat → Nat → Int32} {l s r r2 : Nat} {f : Int32} (h : Rank A l s f r) (h2 : Rank A l s f r2) : r = r2 := by
  rcases Nat.lt_trichotomy r r2 with q | q | q
  · exact absurd (h2.2.1 r q) (h.2.2 r (Nat.le_refl _) (by have := h2.1; omega))
  · exact q
  · exact absurd (h.2.1 r2 q) (h2.2.2 r2 (Nat.le_refl _) (by have := h.1; omega))
theorem LaneOK.own {A : Nat → Nat → Int32} {N l s : Nat} (h : LaneOK A N l s) (hb : ∀ c, c < N → CB A c) {j : Nat} (hj : j < s) : Rank A l s (A 21 (rw_ A l j)) j := by
  refine ⟨by omega, fun i hi => ?_, fun i h1 h2 hf => ?_⟩
  · have o := h.ord hb hi hj
    have b1 := (hb _ (h.1 i (by omega)).1).1
    rw [ti_lt]
    omega
  · rw [ti_lt] at hf
    by_cases e : i = j
    · rw [e] at hf; omega
    · have o := h.ord hb (i := j) (j := i) (by omega) h2
      have b1 := (hb _ (h.1 j (by omega)).1).1
      omega
theorem LaneOK.own_rk {A : Nat → Nat → Int32} {N l s : Nat} (h : LaneOK A N l s) (hb : ∀ c, c < N → CB A c) {j : Nat} (hj : j < s) : k_rk A l (A 21 (rw_ A l j)) s 0 = j :=
  (h.rank hb _).uniq (h.own hb hj)
theorem m_bef_spec {c : Nat → Int32} {a : Nat} {l : Int32} : ∀ N, (m_bef c a l N = none ∧ ∀ k, k < N → ¬ m_ahead c a l k) ∨ ∃ f, m_bef c a l N = some f ∧ f < N ∧ m_ahead c a l f ∧ ∀ k, k < N → m_ahead c a l k → (rr c f).toInt ≤ (rr c k).toInt
  | 0 => Or.inl ⟨rfl, fun k hk => absurd hk (by omega)⟩
  | N + 1 => by
    rw [m_bef]
    rcases m_bef_spec (c := c) (a := a) (l := l) N with ⟨e1, e2⟩ | ⟨f, e1, e2, e3, e4⟩
    · rw [e1]
      by_cases ha : m_ahead c a l N
      · rw [if_pos ⟨ha, rfl⟩]
        refine Or.inr ⟨N, rfl, by omega, ha, fun k hk hk2 => ?_⟩
        by_cases ek : k = N
        · rw [ek]; exact Int.le_refl _
        · exact absurd hk2 (e2 k (by omega))
      · rw [if_neg (fun q => ha q.1)]
        refine Or.inl ⟨rfl, fun k hk => ?_⟩
        by_cases ek : k = N
        · rw [ek]; exact ha
        · exact e2 k (by omega)
    · rw [e1]
      by_cases ha : m_ahead c a l N ∧ m_ls c N (some f) = true
      · rw [if_pos ha]
        have hlt : rr c N < rr c f := of_decide_eq_true ha.2
        rw [ti_lt] at hlt
        refine Or.inr ⟨N, rfl, by omega, ha.1, fun k hk hk2 => ?_⟩
        by_cases ek : k = N
        · rw [ek]; exact Int.le_refl _
        · have := e4 k (by omega) hk2
          omega
      · rw [if_neg ha]
        refine Or.inr ⟨f, rfl, by omega, e3, fun k hk hk2 => ?_⟩
        by_cases ek : k = N
        · subst ek
          have hnl : ¬ rr c k < rr c f := fun q => ha ⟨hk2, decide_eq_true q⟩
          rw [ti_lt] at hnl
          omega
        · exact e4 k (by omega) hk2
/-- what reference and class both know of a car as it stands on the road -/
def RP (A : Nat → Nat → Int32) (b : Nat → Int32) (c : Nat) : Prop := pt b 2 c = A 20 c ∧ pt b 1 c = A 19 c ∧ pt b 3 c = A 21 c ∧ pt b 8 c = A 16 c
theorem RP.rr {A : Nat → Nat → Int32} {b : Nat → Int32} {c : Nat} (h : RP A b c) : rr b c = k_re A c := by
  obtain ⟨-, -, h3, h4⟩ := h
  show pt b 3 c - pt b 8 c = A 21 c - A 16 c
  rw [h3, h4]
/-- the nearest car before: the row's next -/
theorem LaneOK.lead {A : Nat → Nat → Int32} {b : Nat → Int32} {N l s : Nat} (h : LaneOK A N l s) (hb : ∀ c, c < N → CB A c) (hp : ∀ c, c < N → RP A b c) {a r : Nat} {f : Int32} (hf : pt b 3 a = f) (hr : Rank A l s f r) : m_bef b a (nI l) N = k_ld A l r := by
  have hah : ∀ k, k < N → m_ahead b a (nI l) k → ∃ j, j < r ∧ rw_ A l j = k := by
    intro k hk q
    obtain ⟨-, ⟨q1, q2⟩, q3⟩ := q
    obtain ⟨p1, p2, p3, -⟩ := hp k hk
    obtain ⟨j, hj, ej⟩ := h.2.1 k hk (p1 ▸ q1) (p2 ▸ q2)
    refine ⟨j, ?_, ej⟩
    rcases Nat.lt_or_ge j r with q | q
    · exact q
    · refine absurd ?_ (hr.2.2 j q hj)
      rw [ej, ← p3, ← hf]
      exact q3
  cases r with
  | zero =>
    rcases m_bef_spec (c := b) (a := a) (l := nI l) N with ⟨e1, -⟩ | ⟨f0, -, e2, e3, -⟩
    · exact e1
    · obtain ⟨j, hj, -⟩ := hah f0 e2 e3
      omega
  | succ r =>
    have hrs := hr.1
    obtain ⟨w1, w2, w3⟩ := h.1 r (by omega)
    have hfr := hr.2.1 r (by omega)
    obtain ⟨p1, p2, p3, -⟩ := hp _ w1
    have har : m_ahead b a (nI l) (rw_ A l r) := by
      refine ⟨fun e => ?_, ⟨p1.trans w2, p2.trans w3⟩, by rw [hf, p3]; exact hfr⟩
      rw [← e, p3] at hf
      rw [hf] at hfr
      exact absurd hfr (Int32.lt_irrefl)
    rcases m_bef_spec (c := b) (a := a) (l := nI l) N with ⟨-, e2⟩ | ⟨f0, e1, e2, e3, e4⟩
    · exact absurd har (e2 _ w1)
    · obtain ⟨j, hj, ej⟩ := hah f0 e2 e3
      have q := e4 _ w1 har
      rw [(hp _ e2).rr, (hp _ w1).rr, (hb _ e2).re, (hb _ w1).re] at q
      have ejr : j = r := by
        rcases Nat.lt_or_ge j r with q2 | q2
        · have o := h.ord hb q2 (by omega)
          rw [ej] at o
          have b1 := (hb _ w1).1
          omega
        · omega
      rw [e1, ← ej, ejr]
      rfl
