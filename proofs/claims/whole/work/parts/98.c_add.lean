/-! pure: lights, closed places, stops, lines -/
theorem rel_aL {A B : Nat → Nat → Int32} {N nl nc ns nn L : Nat} {M : Int} {p r c : Int32} (h : Rel A B N nl nc ns nn L M) (hn : nl < 4) (hp : 0 ≤ p.toInt ∧ p.toInt ≤ 100000) (hc : 0 < c.toInt) : Rel (k_aL A nl p r c) (m_aL B nl p r c) N (nl + 1) nc ns nn L M := by
  refine Rel.cg0 (A := A) (B := B) rfl (fun _ _ _ => rfl) rfl (fun k h1 h2 _ _ => ?_) (fun _ _ => rfl) (fun _ _ => rfl) (fun _ _ => ⟨rfl, rfl⟩) (fun _ _ _ => rfl) ?_ h.2.2.2.2.2.2.2.2.1 h.2.2.2.1 h
  · unfold k_aL
    rw [wr_ne _ _ _ (by omega), wr_ne _ _ _ (by omega), wr_ne _ _ _ (by omega), wr_ne _ _ _ (by omega)]
  · obtain ⟨t1, t2, t3, t4, t5, t6, t7, t8, t9, t10⟩ := h.1
    refine ⟨⟨rfl, rfl, by omega⟩, t2, t3, t4, t5, t6, fun k hk => ?_, t8, t9, t10⟩
    have e1 : k_aL A nl p r c 3 k = if k = nl then p else A 3 k := rfl
    have e2 : k_aL A nl p r c 4 k = if k = nl then r else A 4 k := rfl
    have e3 : k_aL A nl p r c 5 k = if k = nl then c else A 5 k := rfl
    have e4 : m_aL B nl p r c 36 k = if k = nl then p else B 36 k := rfl
    have e5 : m_aL B nl p r c 37 k = if k = nl then r else B 37 k := rfl
    have e6 : m_aL B nl p r c 38 k = if k = nl then c else B 38 k := rfl
    rw [e1, e2, e3, e4, e5, e6]
    by_cases q : k = nl
    · simp only [if_pos q]
      exact ⟨trivial, trivial, trivial, hc, hp⟩
    · rw [if_neg q, if_neg q, if_neg q, if_neg q, if_neg q, if_neg q]
      exact t7 k (by omega)
theorem rel_aC {A B : Nat → Nat → Int32} {N nl nc ns nn L : Nat} {M : Int} {l p f t : Int32} (h : Rel A B N nl nc ns nn L M) (hn : nc < 6) (hp : 0 ≤ p.toInt ∧ p.toInt ≤ 100000) : Rel (k_aC A nc l p f t) (m_aC B nc l p f t) N nl (nc + 1) ns nn L M := by
  refine Rel.cg0 (A := A) (B := B) rfl (fun _ _ _ => rfl) rfl (fun k h1 h2 _ _ => ?_) (fun _ _ => rfl) (fun _ _ => rfl) (fun _ _ => ⟨rfl, rfl⟩) (fun _ _ _ => rfl) ?_ h.2.2.2.2.2.2.2.2.1 h.2.2.2.1 h
  · unfold k_aC
    rw [wr_ne _ _ _ (by omega), wr_ne _ _ _ (by omega), wr_ne _ _ _ (by omega), wr_ne _ _ _ (by omega), wr_ne _ _ _ (by omega)]
  · obtain ⟨t1, t2, t3, t4, t5, t6, t7, t8, t9, t10⟩ := h.1
    refine ⟨t1, ⟨rfl, rfl, by omega⟩, t3, t4, t5, t6, t7, fun k hk => ?_, t9, t10⟩
    have e1 : k_aC A nc l p f t 6 k = if k = nc then l else A 6 k := rfl
    have e2 : k_aC A nc l p f t 7 k = if k = nc then p else A 7 k := rfl
    have e3 : k_aC A nc l p f t 8 k = if k = nc then f else A 8 k := rfl
    have e4 : k_aC A nc l p f t 9 k = if k = nc then t else A 9 k := rfl
    have e5 : m_aC B nc l p f t 39 k = if k = nc then l else B 39 k := rfl
    have e6 : m_aC B nc l p f t 40 k = if k = nc then p else B 40 k := rfl
    have e7 : m_aC B nc l p f t 41 k = if k = nc then f else B 41 k := rfl
    have e8 : m_aC B nc l p f t 42 k = if k = nc then t else B 42 k := rfl
    rw [e1, e2, e3, e4, e5, e6, e7, e8]
    by_cases q : k = nc
    · simp only [if_pos q]
      exact ⟨trivial, trivial, trivial, trivial, hp⟩
    · rw [if_neg q, if_neg q, if_neg q, if_neg q, if_neg q, if_neg q, if_neg q, if_neg q]
      exact t8 k (by omega)
theorem rel_aS {A B : Nat → Nat → Int32} {N nl nc ns nn L : Nat} {M : Int} {p d : Int32} (h : Rel A B N nl nc ns nn L M) (hn : ns < 4) (hp : 0 ≤ p.toInt ∧ p.toInt ≤ 100000) (hd : 1 ≤ d.toInt) : Rel (k_aS A ns p d) (m_aS B ns p d) N nl nc (ns + 1) nn L M := by
  refine Rel.cg0 (A := A) (B := B) rfl (fun _ _ _ => rfl) rfl (fun k h1 h2 _ _ => ?_) (fun _ _ => rfl) (fun _ _ => rfl) (fun _ _ => ⟨rfl, rfl⟩) (fun _ _ _ => rfl) ?_ (fun c hc k hk => ?_) h.2.2.2.1 h
  · unfold k_aS
    rw [wr_ne _ _ _ (by omega), wr_ne _ _ _ (by omega), wr_ne _ _ _ (by omega)]
  · obtain ⟨t1, t2, t3, t4, t5, t6, t7, t8, t9, t10⟩ := h.1
    refine ⟨t1, t2, ⟨rfl, rfl, by omega⟩, t4, t5, t6, t7, t8, fun k hk => ?_, t10⟩
    have e1 : k_aS A ns p d 10 k = if k = ns then p else A 10 k := rfl
    have e2 : k_aS A ns p d 11 k = if k = ns then d else A 11 k := rfl
    have e3 : m_aS B ns p d 43 k = if k = ns then p else B 43 k := rfl
    have e4 : m_aS B ns p d 44 k = if k = ns then d else B 44 k := rfl
    rw [e1, e2, e3, e4]
    by_cases q : k = ns
    · simp only [if_pos q]
      exact ⟨trivial, trivial, hp.1, hp.2, hd⟩
    · rw [if_neg q, if_neg q, if_neg q, if_neg q]
      exact t9 k (by omega)
  · obtain ⟨r1, r2, r3, r4⟩ := h.2.2.2.2.2.2.2.2.1 c hc k hk
    have e2 : k_aS A ns p d 11 k = if k = ns then d else A 11 k := rfl
    rw [e2]
    refine ⟨r1, r2, fun z => ?_, fun z => r4 (by omega)⟩
    by_cases q : k = ns
    · rw [if_pos q]
      show pt (B 34) (11 + k) c = lsr (A 26 (c * 4 + k)) d
      obtain ⟨z1, z2⟩ := r4 (by omega)
      rw [z1, z2, lsr, if_pos (by rw [ti_lt, t0]; omega)]
    · rw [if_neg q]
      exact r3 (by omega)
theorem m_aN0_at (I : Nat → Nat → Int32) (k : Nat) : ∀ l, (∀ a, a ≠ 34 → m_aN0 I k l a = I a) ∧ ∀ j, m_aN0 I k l 34 j = if 6 + 3 * k ≤ j ∧ j < 6 + 3 * k + l then 0 else I 34 j
  | 0 => ⟨fun _ _ => rfl, fun j => (if_neg (by omega)).symm⟩
  | l + 1 => by
    obtain ⟨i1, i2⟩ := m_aN0_at I k l
    rw [m_aN0]
    refine ⟨fun a ha => (wr_ne _ _ _ ha).trans (i1 a ha), fun j => ?_⟩
    rw [wr_at, i2 j]
    by_cases q : j = 6 + 3 * k + l
    · rw [if_pos ⟨rfl, q⟩, if_pos (by omega)]
    · rw [if_neg (fun w => q w.2)]
      exact ite_cg (by omega)
theorem m_aN_at (I : Nat → Nat → Int32) (k : Nat) (p : Int32) : (∀ a, a ≠ 34 → a ≠ 33 → a ≠ 45 → m_aN I k p a = I a) ∧ (∀ j, m_aN I k p 34 j = if 6 + 3 * k ≤ j ∧ j < 6 + 3 * k + 3 then 0 else I 34 j) ∧ (∀ j, m_aN I k p 33 j = if j = 17 then nI (k + 1) else I 33 j) ∧ (∀ j, m_aN I k p 45 j = if j = k then p else I 45 j) := by
  obtain ⟨i1, i2⟩ := m_aN0_at (wr I 45 k p) k 3
  unfold m_aN
  refine ⟨fun a h1 h2 h3 => by rw [wr_ne _ _ _ h2, i1 a h1, wr_ne _ _ _ h3], fun j => by rw [wr_ne _ _ _ (by decide), i2]; rfl, fun j => ?_, fun j => ?_⟩
  · rw [wr_at, i1 33 (by decide)]
    exact ite_cg2 ⟨fun w => w.2, fun w => ⟨rfl, w⟩⟩ rfl rfl
  · rw [wr_ne _ _ _ (by decide), i1 45 (by decide)]
    rfl
theorem rel_aN {A B : Nat → Nat → Int32} {N nl nc ns nn L : Nat} {M : Int} {p : Int32} (h : Rel A B N nl nc ns nn L M) (hn : nn < 4) : Rel (k_aN A nn p) (m_aN B nn p) N nl nc ns (nn + 1) L M := by
  obtain ⟨b1, b2, b3, b4⟩ := m_aN_at B nn p
  have hN60 := h.2.1.2.2
  refine Rel.cg0 (A := A) (B := B) rfl (fun _ _ _ => rfl) rfl (fun k h1 h2 _ _ => ?_) (fun _ _ => rfl) (fun _ _ => rfl) (fun _ _ => ⟨rfl, rfl⟩) (fun j _ hj => by rw [b2, if_neg (by omega)]) ?_ (fun c hc k hk => ?_) (fun i hi => ?_) h
  · unfold k_aN
    rw [wr_ne _ _ _ (by omega), wr_ne _ _ _ (by omega)]
  · obtain ⟨t1, t2, t3, t4, t5, t6, t7, t8, t9, t10⟩ := h.1
    unfold TH
    rw [b3, b3, b3, b3, b3, b3, b1 36 (by decide) (by decide) (by decide), b1 37 (by decide) (by decide) (by decide), b1 38 (by decide) (by decide) (by decide), b1 39 (by decide) (by decide) (by decide), b1 40 (by decide) (by decide) (by decide), b1 41 (by decide) (by decide) (by decide), b1 42 (by decide) (by decide) (by decide), b1 43 (by decide) (by decide) (by decide), b1 44 (by decide) (by decide) (by decide)]
    refine ⟨t1, t2, t3, ⟨rfl, rfl, by omega⟩, t5, t6, t7, t8, t9, fun k hk => ?_⟩
    have e1 : k_aN A nn p 12 k = if k = nn then p else A 12 k := rfl
    rw [e1, b4]
    by_cases q : k = nn
    · rw [if_pos q, if_pos q]
    · rw [if_neg q, if_neg q]
      exact t10 k (by omega)
  · have e : pt (m_aN B nn p 34) (11 + k) c = pt (B 34) (11 + k) c := by
      show m_aN B nn p 34 _ = _
      rw [b2, if_neg (by omega)]
    rw [e]
    exact h.2.2.2.2.2.2.2.2.1 c hc k hk
  · obtain ⟨q1, q2⟩ := h.2.2.2.1 i hi
    have e : k_aN A nn p 31 i = A 31 i := rfl
    rw [b2, e]
    refine ⟨?_, fun w => q2 (by omega)⟩
    by_cases w : 6 + 3 * nn ≤ 6 + i ∧ 6 + i < 6 + 3 * nn + 3
    · rw [if_pos w, q2 (by omega)]
    · rw [if_neg w, q1]
