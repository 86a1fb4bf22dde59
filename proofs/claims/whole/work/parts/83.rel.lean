/-! pure: how class and reference stand to each other -/
theorem wr_at (I : Nat → Nat → Int32) (a k : Nat) (v : Int32) (b j : Nat) : wr I a k v b j = if b = a ∧ j = k then v else I b j := by
  unfold wr
  rw [up_if]
  by_cases h : b = a
  · subst h
    rw [if_pos rfl, up_if]
    by_cases h2 : j = k
    · rw [if_pos h2, if_pos ⟨rfl, h2⟩]
    · rw [if_neg h2, if_neg (fun q => h2 q.2)]
  · rw [if_neg h, if_neg (fun q => h q.1)]
def RQ (A : Nat → Nat → Int32) (b : Nat → Int32) (c : Nat) : Prop := pt b 0 c = A 15 c ∧ pt b 4 c = A 22 c ∧ pt b 5 c = A 23 c ∧ pt b 6 c = A 24 c ∧ (¬ A 20 c = 0 → pt b 7 c = A 25 c) ∧ pt b 9 c = A 17 c ∧ pt b 10 c = A 18 c
def RS (A : Nat → Nat → Int32) (b : Nat → Int32) (ns c : Nat) : Prop := ∀ k, k < 4 → 0 ≤ (A 26 (c * 4 + k)).toInt ∧ (A 26 (c * 4 + k)).toInt ≤ (A 13 4).toInt ∧ (k < ns → pt b (11 + k) c = lsr (A 26 (c * 4 + k)) (A 11 k)) ∧ (ns ≤ k → A 26 (c * 4 + k) = 0 ∧ pt b (11 + k) c = 0)
def RL (A : Nat → Nat → Int32) (L c : Nat) : Prop := (A 20 c = 0 ∨ A 20 c = 1 ∨ A 20 c = 2) ∧ (A 19 c = nI (lnI A c) ∧ lnI A c < L) ∧ (A 20 c = 1 → (A 16 c).toInt ≤ (A 21 c).toInt ∧ (A 21 c).toInt - (A 16 c).toInt ≤ (A 1 5).toInt)
def RW (A : Nat → Nat → Int32) (N l : Nat) : Prop := A 29 l = nI (szI A l) ∧ szI A l ≤ 60 ∧ (∀ j, j < szI A l → A 28 (l * 60 + j) = nI (rw_ A l j)) ∧ LaneOK A N l (szI A l)
def RN (A : Nat → Nat → Int32) (N l : Nat) : Prop := A 30 l = nI (k0I A l) ∧ k0I A l ≤ N ∧ ∀ c, c < k0I A l → ¬ (A 20 c = 0 ∧ A 19 c = nI l)
def tmF (A : Nat → Nat → Int32) (i : Nat) : Int32 := if A 20 i = 2 then A 24 i - A 23 i else 0
def Rel (A B : Nat → Nat → Int32) (N nl nc ns nn L : Nat) (M : Int) : Prop :=
  TH A B nl nc ns nn L ∧ (A 14 12 = nI N ∧ B 34 0 = nI N ∧ N ≤ 60) ∧
  (B 34 1 = A 13 4 ∧ B 34 3 = A 13 5 ∧ B 34 4 = A 13 6 ∧ B 34 5 = A 13 7 ∧ 0 ≤ (A 13 4).toInt ∧ (A 13 4).toInt ≤ M) ∧
  (∀ i, i < 12 → B 34 (6 + i) = A 31 i ∧ (3 * nn ≤ i → A 31 i = 0)) ∧ B 34 2 = sm (tmF A) N ∧
  (∀ c, c < N → CB A c) ∧ (∀ c, c < N → RP A (B 34) c) ∧ (∀ c, c < N → RQ A (B 34) c) ∧ (∀ c, c < N → RS A (B 34) ns c) ∧ (∀ c, c < N → RL A L c) ∧
  (∀ i, N * 4 ≤ i → i < 240 → A 26 i = 0) ∧ (∀ l, l < 3 → RW A N l) ∧ (∀ l, l < 3 → RN A N l)
theorem Rel.cw {A B : Nat → Nat → Int32} {N nl nc ns nn L : Nat} {M : Int} (h : Rel A B N nl nc ns nn L M) : CW A N nl nc ns nn L (szI A) := by
  obtain ⟨⟨t1, t2, t3, t4, t5, -⟩, h2, -, -, -, -, -, -, -, -, -, hw, -⟩ := h
  refine ⟨⟨h2.1, h2.2.2⟩, ⟨t1.1, t1.2.2⟩, ⟨t2.1, t2.2.2⟩, ⟨t3.1, t3.2.2⟩, ⟨t4.1, t4.2.2⟩, ⟨t5.1, t5.2.2.2⟩, fun l hl => ?_⟩
  obtain ⟨w1, w2, w3, w4⟩ := hw l hl
  exact ⟨w1, w2, fun j hj => ⟨rw_ A l j, by have := (w4.1 j hj).1; omega, w3 j hj⟩⟩
theorem Rel.mok {A B : Nat → Nat → Int32} {N nl nc ns nn L : Nat} {M : Int} (h : Rel A B N nl nc ns nn L M) : MOK B N nl nc ns nn L := by
  obtain ⟨⟨t1, t2, t3, t4, t5, -, t7, -⟩, h2, -, -, -, hb, hp, hq, -, hl, -, -, -⟩ := h
  refine ⟨⟨⟨h2.2.1, h2.2.2⟩, t1.2, t2.2, t3.2, t4.2, fun k hk e => ?_⟩, t5.2.2, fun i hi => ⟨fun e => ?_, ?_⟩⟩
  · obtain ⟨-, -, q3, q4, -⟩ := t7 k hk
    rw [← q3, e, t0] at q4
    omega
  · have b3 := (hb i hi).2.2.1
    rw [← (hq i hi).2.2.2.2.2.2, e, t0] at b3
    omega
  · obtain ⟨-, ⟨q2, q3⟩, -⟩ := hl i hi
    have q4 := t5.2.2.2.2
    exact ⟨lnI A i, by omega, by rw [(hp i hi).2.1]; exact q2⟩
theorem TH.congr {A B A' B' : Nat → Nat → Int32} {nl nc ns nn L : Nat} (hA : ∀ k, k ≤ 12 → A' k = A k) (hB : ∀ k, k ≠ 34 → k ≠ 46 → B' k = B k) (h : TH A B nl nc ns nn L) : TH A' B' nl nc ns nn L := by
  unfold TH at h ⊢
  rw [hA 0 (by decide), hA 1 (by decide), hA 2 (by decide), hA 3 (by decide), hA 4 (by decide), hA 5 (by decide), hA 6 (by decide), hA 7 (by decide), hA 8 (by decide), hA 9 (by decide), hA 10 (by decide), hA 11 (by decide), hA 12 (by decide), hB 33 (by decide) (by decide), hB 36 (by decide) (by decide), hB 37 (by decide) (by decide), hB 38 (by decide) (by decide), hB 39 (by decide) (by decide), hB 40 (by decide) (by decide), hB 41 (by decide) (by decide), hB 42 (by decide) (by decide), hB 43 (by decide) (by decide), hB 44 (by decide) (by decide), hB 45 (by decide) (by decide)]
  exact h
theorem LaneOK.congr {A A' : Nat → Nat → Int32} {N l s : Nat} (hr : ∀ j, j < s → rw_ A' l j = rw_ A l j) (hc : ∀ c, c < N → (A' 20 c = 1 ∧ A' 19 c = nI l ↔ A 20 c = 1 ∧ A 19 c = nI l)) (hf : ∀ c, c < N → A 20 c = 1 → A 19 c = nI l → A' 21 c = A 21 c ∧ A' 16 c = A 16 c) (h : LaneOK A N l s) : LaneOK A' N l s := by
  refine ⟨fun j hj => ?_, fun c h1 h2 h3 => ?_, fun j hj => ?_⟩
  · rw [hr j hj]
    obtain ⟨q1, q2⟩ := h.1 j hj
    exact ⟨q1, (hc _ q1).mpr q2⟩
  · obtain ⟨q1, q2⟩ := (hc c h1).mp ⟨h2, h3⟩
    obtain ⟨j, hj, e⟩ := h.2.1 c h1 q1 q2
    exact ⟨j, hj, by rw [hr j hj]; exact e⟩
  · rw [hr j (by omega), hr (j + 1) hj]
    obtain ⟨q1, q2, q3⟩ := h.1 j (by omega)
    obtain ⟨p1, p2, p3⟩ := h.1 (j + 1) hj
    rw [(hf _ q1 q2 q3).1, (hf _ q1 q2 q3).2, (hf _ p1 p2 p3).1]
    exact h.2.2 j hj
theorem pig : ∀ (N s : Nat) (f : Nat → Nat), (∀ j, j < s → f j < N) → (∀ i j, i < s → j < s → f i = f j → i = j) → s ≤ N
  | 0, s, f, h1, _ => by
    rcases Nat.eq_zero_or_pos s with q | q
    · omega
    · exact absurd (h1 0 q) (by omega)
  | N + 1, s, f, h1, h2 => by
    by_cases h : ∃ j, j < s ∧ f j = N
    · obtain ⟨j0, hj0, e0⟩ := h
      have := pig N (s - 1) (fun j => if j < j0 then f j else f (j + 1)) (fun j hj => by
        have hne : ∀ i, i < s → i ≠ j0 → f i < N := fun i hi hni => by
          have q1 := h1 i hi
          have q2 : f i ≠ N := fun e => hni (h2 i j0 hi hj0 (e.trans e0.symm))
          omega
        by_cases q : j < j0
        · simp only [if_pos q]; exact hne j (by omega) (by omega)
        · simp only [if_neg q]; exact hne (j + 1) (by omega) (by omega)) (fun i j hi hj e => by
        by_cases q : i < j0 <;> by_cases q2 : j < j0 <;> simp only [q, q2, if_true, if_false] at e
        · exact h2 i j (by omega) (by omega) e
        · have := h2 i (j + 1) (by omega) (by omega) e
          omega
        · have := h2 (i + 1) j (by omega) (by omega) e
          omega
        · have := h2 (i + 1) (j + 1) (by omega) (by omega) e
          omega)
      omega
    · have := pig N s f (fun j hj => by
        have q1 := h1 j hj
        have q2 : f j ≠ N := fun e => h ⟨j, hj, e⟩
        omega) h2
      omega
theorem pig1 {N s w : Nat} {f : Nat → Nat} (h1 : ∀ j, j < s → f j < N) (h2 : ∀ i j, i < s → j < s → f i = f j → i = j) (hw : w < N) (h3 : ∀ j, j < s → f j ≠ w) : s < N := by
  have := pig N (s + 1) (fun j => if j < s then f j else w) (fun j hj => by
    by_cases q : j < s
    · simp only [if_pos q]; exact h1 j q
    · simp only [if_neg q]; exact hw) (fun i j hi hj e => by
    by_cases q : i < s <;> by_cases q2 : j < s <;> simp only [q, q2, if_true, if_false] at e
    · exact h2 i j q q2 e
    · exact absurd e (h3 i q)
    · exact absurd e.symm (h3 j q2)
    · omega)
  omega
/-- a lane that a car is not in has room in its row -/
theorem LaneOK.lt {A : Nat → Nat → Int32} {N l s w : Nat} (h : LaneOK A N l s) (hb : ∀ c, c < N → CB A c) (hw : w < N) (hn : ¬ (A 20 w = 1 ∧ A 19 w = nI l)) : s < N :=
  pig1 (f := rw_ A l) (fun j hj => (h.1 j hj).1) (fun i j hi hj e => h.inj hb hi hj e) hw (fun j hj e => hn (by
    have := h.1 j hj
    rw [e] at this
    exact this.2))
theorem rw_ins {X : Nat → Nat → Int32} {l s r c : Nat} (hs : s < 60) (hr : r ≤ s) (hc : c < 60) {j : Nat} (hj : j ≤ s) : rw_ (kIns X l s r (nI c)) l j = if j < r then rw_ X l j else if j = r then c else rw_ X l (j - 1) := by
  unfold rw_
  rw [kIns_28, ins_at]
  by_cases h1 : j = r
  · rw [if_pos (by omega), if_neg (by omega), if_pos h1, cl_nI (by omega)]
  · rw [if_neg (by omega)]
    by_cases h2 : j < r
    · rw [if_neg (by omega), if_pos h2]
    · rw [if_pos (by omega), if_neg h2, if_neg h1, show l * 60 + j - 1 = l * 60 + (j - 1) by omega]
theorem rw_ins_o {X : Nat → Nat → Int32} {l s r c l2 : Nat} (hs : s < 60) (hr : r ≤ s) (hl : l2 ≠ l) {j : Nat} (hj : j < 60) : rw_ (kIns X l s r (nI c)) l2 j = rw_ X l2 j := by
  unfold rw_
  rw [kIns_28, ins_at, if_neg (by omega), if_neg (by omega)]
theorem rw_rem {X : Nat → Nat → Int32} {l s r : Nat} {j : Nat} (hj : j < s) : rw_ (kRem X l s r) l j = if j < r then rw_ X l j else rw_ X l (j + 1) := by
  unfold rw_
  rw [kRem_28, rmv]
  by_cases h : j < r
  · rw [if_neg (by omega), if_pos h]
  · rw [if_pos (by omega), if_neg h, show l * 60 + j + 1 = l * 60 + (j + 1) by omega]
theorem rw_rem_o {X : Nat → Nat → Int32} {l s r l2 : Nat} (hs : s < 60) (hl : l2 ≠ l) {j : Nat} (hj : j < 60) : rw_ (kRem X l s r) l2 j = rw_ X l2 j := by
  unfold rw_
  rw [kRem_28, rmv, if_neg (by omega)]
theorem szI_ins {X : Nat → Nat → Int32} {l s r : Nat} {v : Int32} (hs : s < 60) (l2 : Nat) : szI (kIns X l s r v) l2 = if l2 = l then s + 1 else szI X l2 := by
  unfold szI
  rw [kIns_29, up_if]
  split
  · rw [cl_nI (by omega)]
  · rfl
theorem szI_rem {X : Nat → Nat → Int32} {l s r : Nat} (hs : s < 60) (l2 : Nat) : szI (kRem X l s r) l2 = if l2 = l then s else szI X l2 := by
  unfold szI
  rw [kRem_29, up_if]
  split
  · rw [cl_nI (by omega)]
  · rfl
