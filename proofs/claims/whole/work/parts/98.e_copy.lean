/-! pure: what a copied state reads like -/
theorem cp1_o (I : Nat → Nat → Int32) (d s : Nat) (v : Int32) {k : Nat} (h : k ≠ d) : cp1 I d s v k = I k := va_up_ne _ _ h
theorem cp1_i (I : Nat → Nat → Int32) (d s n : Nat) {v : Int32} {j : Nat} (hv : v = nI n) (hn : n < 2147483648) (h : j < n) : cp1 I d s v d j = I s j := by
  unfold cp1
  rw [va_up_self, hv, cl_nI hn]
  show (if 0 ≤ j ∧ j < 0 + n then I s (0 + (j - 0)) else I d j) = I s j
  rw [if_pos (by omega), show 0 + (j - 0) = j by omega]
theorem cps1_18 {I : Nat → Nat → Int32} {a b : Nat} (hab : a + 19 ≤ b ∨ b + 19 ≤ a) {c : Nat} (hc : c < 12) : (cp1 (cp1 (k_cpR (k_cpC I a b) a b) (a + 17) (b + 17) 3) (a + 18) (b + 18) 12) (a + 18) c = I (b + 18) c := by
  rw [cp1_i _ _ _ 12 (by decide) (by decide) hc, cp1_o _ _ _ _ (by omega)]
  unfold k_cpR
  rw [cp1_o _ _ _ _ (by omega), cp1_o _ _ _ _ (by omega)]
  unfold k_cpC
  rw [wr_ne _ _ _ (by omega)]
  unfold k_cpC0
  rw [cp1_o _ _ _ _ (by omega), cp1_o _ _ _ _ (by omega), cp1_o _ _ _ _ (by omega), cp1_o _ _ _ _ (by omega), cp1_o _ _ _ _ (by omega), cp1_o _ _ _ _ (by omega), cp1_o _ _ _ _ (by omega), cp1_o _ _ _ _ (by omega), cp1_o _ _ _ _ (by omega), cp1_o _ _ _ _ (by omega), cp1_o _ _ _ _ (by omega), cp1_o _ _ _ _ (by omega)]
theorem cps1_17 {I : Nat → Nat → Int32} {a b : Nat} (hab : a + 19 ≤ b ∨ b + 19 ≤ a) {c : Nat} (hc : c < 3) : (cp1 (cp1 (k_cpR (k_cpC I a b) a b) (a + 17) (b + 17) 3) (a + 18) (b + 18) 12) (a + 17) c = I (b + 17) c := by
  rw [cp1_o _ _ _ _ (by omega), cp1_i _ _ _ 3 (by decide) (by decide) hc]
  unfold k_cpR
  rw [cp1_o _ _ _ _ (by omega), cp1_o _ _ _ _ (by omega)]
  unfold k_cpC
  rw [wr_ne _ _ _ (by omega)]
  unfold k_cpC0
  rw [cp1_o _ _ _ _ (by omega), cp1_o _ _ _ _ (by omega), cp1_o _ _ _ _ (by omega), cp1_o _ _ _ _ (by omega), cp1_o _ _ _ _ (by omega), cp1_o _ _ _ _ (by omega), cp1_o _ _ _ _ (by omega), cp1_o _ _ _ _ (by omega), cp1_o _ _ _ _ (by omega), cp1_o _ _ _ _ (by omega), cp1_o _ _ _ _ (by omega), cp1_o _ _ _ _ (by omega)]
theorem cps1_16 {I : Nat → Nat → Int32} {a b : Nat} (hab : a + 19 ≤ b ∨ b + 19 ≤ a) {c : Nat} (hc : c < 3) : (cp1 (cp1 (k_cpR (k_cpC I a b) a b) (a + 17) (b + 17) 3) (a + 18) (b + 18) 12) (a + 16) c = I (b + 16) c := by
  rw [cp1_o _ _ _ _ (by omega), cp1_o _ _ _ _ (by omega)]
  unfold k_cpR
  rw [cp1_i _ _ _ 3 (by decide) (by decide) hc, cp1_o _ _ _ _ (by omega)]
  unfold k_cpC
  rw [wr_ne _ _ _ (by omega)]
  unfold k_cpC0
  rw [cp1_o _ _ _ _ (by omega), cp1_o _ _ _ _ (by omega), cp1_o _ _ _ _ (by omega), cp1_o _ _ _ _ (by omega), cp1_o _ _ _ _ (by omega), cp1_o _ _ _ _ (by omega), cp1_o _ _ _ _ (by omega), cp1_o _ _ _ _ (by omega), cp1_o _ _ _ _ (by omega), cp1_o _ _ _ _ (by omega), cp1_o _ _ _ _ (by omega), cp1_o _ _ _ _ (by omega)]
theorem cps1_15 {I : Nat → Nat → Int32} {a b : Nat} (hab : a + 19 ≤ b ∨ b + 19 ≤ a) {c : Nat} (hc : c < 180) : (cp1 (cp1 (k_cpR (k_cpC I a b) a b) (a + 17) (b + 17) 3) (a + 18) (b + 18) 12) (a + 15) c = I (b + 15) c := by
  rw [cp1_o _ _ _ _ (by omega), cp1_o _ _ _ _ (by omega)]
  unfold k_cpR
  rw [cp1_o _ _ _ _ (by omega), cp1_i _ _ _ 180 (by decide) (by decide) hc]
  unfold k_cpC
  rw [wr_ne _ _ _ (by omega)]
  unfold k_cpC0
  rw [cp1_o _ _ _ _ (by omega), cp1_o _ _ _ _ (by omega), cp1_o _ _ _ _ (by omega), cp1_o _ _ _ _ (by omega), cp1_o _ _ _ _ (by omega), cp1_o _ _ _ _ (by omega), cp1_o _ _ _ _ (by omega), cp1_o _ _ _ _ (by omega), cp1_o _ _ _ _ (by omega), cp1_o _ _ _ _ (by omega), cp1_o _ _ _ _ (by omega), cp1_o _ _ _ _ (by omega)]
theorem cps1_13 {I : Nat → Nat → Int32} {a b : Nat} (hab : a + 19 ≤ b ∨ b + 19 ≤ a) {c : Nat} (hc : c < 240) : (cp1 (cp1 (k_cpR (k_cpC I a b) a b) (a + 17) (b + 17) 3) (a + 18) (b + 18) 12) (a + 13) c = I (b + 13) c := by
  rw [cp1_o _ _ _ _ (by omega), cp1_o _ _ _ _ (by omega)]
  unfold k_cpR
  rw [cp1_o _ _ _ _ (by omega), cp1_o _ _ _ _ (by omega)]
  unfold k_cpC
  rw [wr_ne _ _ _ (by omega)]
  unfold k_cpC0
  rw [cp1_i _ _ _ 240 (by decide) (by decide) hc, cp1_o _ _ _ _ (by omega), cp1_o _ _ _ _ (by omega), cp1_o _ _ _ _ (by omega), cp1_o _ _ _ _ (by omega), cp1_o _ _ _ _ (by omega), cp1_o _ _ _ _ (by omega), cp1_o _ _ _ _ (by omega), cp1_o _ _ _ _ (by omega), cp1_o _ _ _ _ (by omega), cp1_o _ _ _ _ (by omega), cp1_o _ _ _ _ (by omega)]
theorem cps1_12 {I : Nat → Nat → Int32} {a b : Nat} (hab : a + 19 ≤ b ∨ b + 19 ≤ a) {c : Nat} (hc : c < 60) : (cp1 (cp1 (k_cpR (k_cpC I a b) a b) (a + 17) (b + 17) 3) (a + 18) (b + 18) 12) (a + 12) c = I (b + 12) c := by
  rw [cp1_o _ _ _ _ (by omega), cp1_o _ _ _ _ (by omega)]
  unfold k_cpR
  rw [cp1_o _ _ _ _ (by omega), cp1_o _ _ _ _ (by omega)]
  unfold k_cpC
  rw [wr_ne _ _ _ (by omega)]
  unfold k_cpC0
  rw [cp1_o _ _ _ _ (by omega), cp1_i _ _ _ 60 (by decide) (by decide) hc, cp1_o _ _ _ _ (by omega), cp1_o _ _ _ _ (by omega), cp1_o _ _ _ _ (by omega), cp1_o _ _ _ _ (by omega), cp1_o _ _ _ _ (by omega), cp1_o _ _ _ _ (by omega), cp1_o _ _ _ _ (by omega), cp1_o _ _ _ _ (by omega), cp1_o _ _ _ _ (by omega), cp1_o _ _ _ _ (by omega)]
theorem cps1_11 {I : Nat → Nat → Int32} {a b : Nat} (hab : a + 19 ≤ b ∨ b + 19 ≤ a) {c : Nat} (hc : c < 60) : (cp1 (cp1 (k_cpR (k_cpC I a b) a b) (a + 17) (b + 17) 3) (a + 18) (b + 18) 12) (a + 11) c = I (b + 11) c := by
  rw [cp1_o _ _ _ _ (by omega), cp1_o _ _ _ _ (by omega)]
  unfold k_cpR
  rw [cp1_o _ _ _ _ (by omega), cp1_o _ _ _ _ (by omega)]
  unfold k_cpC
  rw [wr_ne _ _ _ (by omega)]
  unfold k_cpC0
  rw [cp1_o _ _ _ _ (by omega), cp1_o _ _ _ _ (by omega), cp1_i _ _ _ 60 (by decide) (by decide) hc, cp1_o _ _ _ _ (by omega), cp1_o _ _ _ _ (by omega), cp1_o _ _ _ _ (by omega), cp1_o _ _ _ _ (by omega), cp1_o _ _ _ _ (by omega), cp1_o _ _ _ _ (by omega), cp1_o _ _ _ _ (by omega), cp1_o _ _ _ _ (by omega), cp1_o _ _ _ _ (by omega)]
theorem cps1_10 {I : Nat → Nat → Int32} {a b : Nat} (hab : a + 19 ≤ b ∨ b + 19 ≤ a) {c : Nat} (hc : c < 60) : (cp1 (cp1 (k_cpR (k_cpC I a b) a b) (a + 17) (b + 17) 3) (a + 18) (b + 18) 12) (a + 10) c = I (b + 10) c := by
  rw [cp1_o _ _ _ _ (by omega), cp1_o _ _ _ _ (by omega)]
  unfold k_cpR
  rw [cp1_o _ _ _ _ (by omega), cp1_o _ _ _ _ (by omega)]
  unfold k_cpC
  rw [wr_ne _ _ _ (by omega)]
  unfold k_cpC0
  rw [cp1_o _ _ _ _ (by omega), cp1_o _ _ _ _ (by omega), cp1_o _ _ _ _ (by omega), cp1_i _ _ _ 60 (by decide) (by decide) hc, cp1_o _ _ _ _ (by omega), cp1_o _ _ _ _ (by omega), cp1_o _ _ _ _ (by omega), cp1_o _ _ _ _ (by omega), cp1_o _ _ _ _ (by omega), cp1_o _ _ _ _ (by omega), cp1_o _ _ _ _ (by omega), cp1_o _ _ _ _ (by omega)]
theorem cps1_9 {I : Nat → Nat → Int32} {a b : Nat} (hab : a + 19 ≤ b ∨ b + 19 ≤ a) {c : Nat} (hc : c < 60) : (cp1 (cp1 (k_cpR (k_cpC I a b) a b) (a + 17) (b + 17) 3) (a + 18) (b + 18) 12) (a + 9) c = I (b + 9) c := by
  rw [cp1_o _ _ _ _ (by omega), cp1_o _ _ _ _ (by omega)]
  unfold k_cpR
  rw [cp1_o _ _ _ _ (by omega), cp1_o _ _ _ _ (by omega)]
  unfold k_cpC
  rw [wr_ne _ _ _ (by omega)]
  unfold k_cpC0
  rw [cp1_o _ _ _ _ (by omega), cp1_o _ _ _ _ (by omega), cp1_o _ _ _ _ (by omega), cp1_o _ _ _ _ (by omega), cp1_i _ _ _ 60 (by decide) (by decide) hc, cp1_o _ _ _ _ (by omega), cp1_o _ _ _ _ (by omega), cp1_o _ _ _ _ (by omega), cp1_o _ _ _ _ (by omega), cp1_o _ _ _ _ (by omega), cp1_o _ _ _ _ (by omega), cp1_o _ _ _ _ (by omega)]
theorem cps1_8 {I : Nat → Nat → Int32} {a b : Nat} (hab : a + 19 ≤ b ∨ b + 19 ≤ a) {c : Nat} (hc : c < 60) : (cp1 (cp1 (k_cpR (k_cpC I a b) a b) (a + 17) (b + 17) 3) (a + 18) (b + 18) 12) (a + 8) c = I (b + 8) c := by
  rw [cp1_o _ _ _ _ (by omega), cp1_o _ _ _ _ (by omega)]
  unfold k_cpR
  rw [cp1_o _ _ _ _ (by omega), cp1_o _ _ _ _ (by omega)]
  unfold k_cpC
  rw [wr_ne _ _ _ (by omega)]
  unfold k_cpC0
  rw [cp1_o _ _ _ _ (by omega), cp1_o _ _ _ _ (by omega), cp1_o _ _ _ _ (by omega), cp1_o _ _ _ _ (by omega), cp1_o _ _ _ _ (by omega), cp1_i _ _ _ 60 (by decide) (by decide) hc, cp1_o _ _ _ _ (by omega), cp1_o _ _ _ _ (by omega), cp1_o _ _ _ _ (by omega), cp1_o _ _ _ _ (by omega), cp1_o _ _ _ _ (by omega), cp1_o _ _ _ _ (by omega)]
theorem cps1_7 {I : Nat → Nat → Int32} {a b : Nat} (hab : a + 19 ≤ b ∨ b + 19 ≤ a) {c : Nat} (hc : c < 60) : (cp1 (cp1 (k_cpR (k_cpC I a b) a b) (a + 17) (b + 17) 3) (a + 18) (b + 18) 12) (a + 7) c = I (b + 7) c := by
  rw [cp1_o _ _ _ _ (by omega), cp1_o _ _ _ _ (by omega)]
  unfold k_cpR
  rw [cp1_o _ _ _ _ (by omega), cp1_o _ _ _ _ (by omega)]
  unfold k_cpC
  rw [wr_ne _ _ _ (by omega)]
  unfold k_cpC0
  rw [cp1_o _ _ _ _ (by omega), cp1_o _ _ _ _ (by omega), cp1_o _ _ _ _ (by omega), cp1_o _ _ _ _ (by omega), cp1_o _ _ _ _ (by omega), cp1_o _ _ _ _ (by omega), cp1_i _ _ _ 60 (by decide) (by decide) hc, cp1_o _ _ _ _ (by omega), cp1_o _ _ _ _ (by omega), cp1_o _ _ _ _ (by omega), cp1_o _ _ _ _ (by omega), cp1_o _ _ _ _ (by omega)]
theorem cps1_6 {I : Nat → Nat → Int32} {a b : Nat} (hab : a + 19 ≤ b ∨ b + 19 ≤ a) {c : Nat} (hc : c < 60) : (cp1 (cp1 (k_cpR (k_cpC I a b) a b) (a + 17) (b + 17) 3) (a + 18) (b + 18) 12) (a + 6) c = I (b + 6) c := by
  rw [cp1_o _ _ _ _ (by omega), cp1_o _ _ _ _ (by omega)]
  unfold k_cpR
  rw [cp1_o _ _ _ _ (by omega), cp1_o _ _ _ _ (by omega)]
  unfold k_cpC
  rw [wr_ne _ _ _ (by omega)]
  unfold k_cpC0
  rw [cp1_o _ _ _ _ (by omega), cp1_o _ _ _ _ (by omega), cp1_o _ _ _ _ (by omega), cp1_o _ _ _ _ (by omega), cp1_o _ _ _ _ (by omega), cp1_o _ _ _ _ (by omega), cp1_o _ _ _ _ (by omega), cp1_i _ _ _ 60 (by decide) (by decide) hc, cp1_o _ _ _ _ (by omega), cp1_o _ _ _ _ (by omega), cp1_o _ _ _ _ (by omega), cp1_o _ _ _ _ (by omega)]
theorem cps1_5 {I : Nat → Nat → Int32} {a b : Nat} (hab : a + 19 ≤ b ∨ b + 19 ≤ a) {c : Nat} (hc : c < 60) : (cp1 (cp1 (k_cpR (k_cpC I a b) a b) (a + 17) (b + 17) 3) (a + 18) (b + 18) 12) (a + 5) c = I (b + 5) c := by
  rw [cp1_o _ _ _ _ (by omega), cp1_o _ _ _ _ (by omega)]
  unfold k_cpR
  rw [cp1_o _ _ _ _ (by omega), cp1_o _ _ _ _ (by omega)]
  unfold k_cpC
  rw [wr_ne _ _ _ (by omega)]
  unfold k_cpC0
  rw [cp1_o _ _ _ _ (by omega), cp1_o _ _ _ _ (by omega), cp1_o _ _ _ _ (by omega), cp1_o _ _ _ _ (by omega), cp1_o _ _ _ _ (by omega), cp1_o _ _ _ _ (by omega), cp1_o _ _ _ _ (by omega), cp1_o _ _ _ _ (by omega), cp1_i _ _ _ 60 (by decide) (by decide) hc, cp1_o _ _ _ _ (by omega), cp1_o _ _ _ _ (by omega), cp1_o _ _ _ _ (by omega)]
theorem cps1_4 {I : Nat → Nat → Int32} {a b : Nat} (hab : a + 19 ≤ b ∨ b + 19 ≤ a) {c : Nat} (hc : c < 60) : (cp1 (cp1 (k_cpR (k_cpC I a b) a b) (a + 17) (b + 17) 3) (a + 18) (b + 18) 12) (a + 4) c = I (b + 4) c := by
  rw [cp1_o _ _ _ _ (by omega), cp1_o _ _ _ _ (by omega)]
  unfold k_cpR
  rw [cp1_o _ _ _ _ (by omega), cp1_o _ _ _ _ (by omega)]
  unfold k_cpC
  rw [wr_ne _ _ _ (by omega)]
  unfold k_cpC0
  rw [cp1_o _ _ _ _ (by omega), cp1_o _ _ _ _ (by omega), cp1_o _ _ _ _ (by omega), cp1_o _ _ _ _ (by omega), cp1_o _ _ _ _ (by omega), cp1_o _ _ _ _ (by omega), cp1_o _ _ _ _ (by omega), cp1_o _ _ _ _ (by omega), cp1_o _ _ _ _ (by omega), cp1_i _ _ _ 60 (by decide) (by decide) hc, cp1_o _ _ _ _ (by omega), cp1_o _ _ _ _ (by omega)]
theorem cps1_3 {I : Nat → Nat → Int32} {a b : Nat} (hab : a + 19 ≤ b ∨ b + 19 ≤ a) {c : Nat} (hc : c < 60) : (cp1 (cp1 (k_cpR (k_cpC I a b) a b) (a + 17) (b + 17) 3) (a + 18) (b + 18) 12) (a + 3) c = I (b + 3) c := by
  rw [cp1_o _ _ _ _ (by omega), cp1_o _ _ _ _ (by omega)]
  unfold k_cpR
  rw [cp1_o _ _ _ _ (by omega), cp1_o _ _ _ _ (by omega)]
  unfold k_cpC
  rw [wr_ne _ _ _ (by omega)]
  unfold k_cpC0
  rw [cp1_o _ _ _ _ (by omega), cp1_o _ _ _ _ (by omega), cp1_o _ _ _ _ (by omega), cp1_o _ _ _ _ (by omega), cp1_o _ _ _ _ (by omega), cp1_o _ _ _ _ (by omega), cp1_o _ _ _ _ (by omega), cp1_o _ _ _ _ (by omega), cp1_o _ _ _ _ (by omega), cp1_o _ _ _ _ (by omega), cp1_i _ _ _ 60 (by decide) (by decide) hc, cp1_o _ _ _ _ (by omega)]
theorem cps1_2 {I : Nat → Nat → Int32} {a b : Nat} (hab : a + 19 ≤ b ∨ b + 19 ≤ a) {c : Nat} (hc : c < 60) : (cp1 (cp1 (k_cpR (k_cpC I a b) a b) (a + 17) (b + 17) 3) (a + 18) (b + 18) 12) (a + 2) c = I (b + 2) c := by
  rw [cp1_o _ _ _ _ (by omega), cp1_o _ _ _ _ (by omega)]
  unfold k_cpR
  rw [cp1_o _ _ _ _ (by omega), cp1_o _ _ _ _ (by omega)]
  unfold k_cpC
  rw [wr_ne _ _ _ (by omega)]
  unfold k_cpC0
  rw [cp1_o _ _ _ _ (by omega), cp1_o _ _ _ _ (by omega), cp1_o _ _ _ _ (by omega), cp1_o _ _ _ _ (by omega), cp1_o _ _ _ _ (by omega), cp1_o _ _ _ _ (by omega), cp1_o _ _ _ _ (by omega), cp1_o _ _ _ _ (by omega), cp1_o _ _ _ _ (by omega), cp1_o _ _ _ _ (by omega), cp1_o _ _ _ _ (by omega), cp1_i _ _ _ 60 (by decide) (by decide) hc]
theorem cps1_o {I : Nat → Nat → Int32} {a b : Nat} {k : Nat} (hk : k < a + 1 ∨ a + 19 ≤ k) : (cp1 (cp1 (k_cpR (k_cpC I a b) a b) (a + 17) (b + 17) 3) (a + 18) (b + 18) 12) k = I k := by
  rw [cp1_o _ _ _ _ (by omega), cp1_o _ _ _ _ (by omega)]
  unfold k_cpR
  rw [cp1_o _ _ _ _ (by omega), cp1_o _ _ _ _ (by omega)]
  unfold k_cpC
  rw [wr_ne _ _ _ (by omega)]
  unfold k_cpC0
  rw [cp1_o _ _ _ _ (by omega), cp1_o _ _ _ _ (by omega), cp1_o _ _ _ _ (by omega), cp1_o _ _ _ _ (by omega), cp1_o _ _ _ _ (by omega), cp1_o _ _ _ _ (by omega), cp1_o _ _ _ _ (by omega), cp1_o _ _ _ _ (by omega), cp1_o _ _ _ _ (by omega), cp1_o _ _ _ _ (by omega), cp1_o _ _ _ _ (by omega), cp1_o _ _ _ _ (by omega)]
theorem cps1_1 {I : Nat → Nat → Int32} {a b : Nat} (hab : a + 19 ≤ b ∨ b + 19 ≤ a) : (cp1 (cp1 (k_cpR (k_cpC I a b) a b) (a + 17) (b + 17) 3) (a + 18) (b + 18) 12) (a + 1) 12 = I (b + 1) 12 := by
  rw [cp1_o _ _ _ _ (by omega), cp1_o _ _ _ _ (by omega)]
  unfold k_cpR
  rw [cp1_o _ _ _ _ (by omega), cp1_o _ _ _ _ (by omega)]
  unfold k_cpC
  rw [wr_at, if_pos ⟨rfl, rfl⟩]
  unfold k_cpC0
  rw [cp1_o _ _ _ _ (by omega), cp1_o _ _ _ _ (by omega), cp1_o _ _ _ _ (by omega), cp1_o _ _ _ _ (by omega), cp1_o _ _ _ _ (by omega), cp1_o _ _ _ _ (by omega), cp1_o _ _ _ _ (by omega), cp1_o _ _ _ _ (by omega), cp1_o _ _ _ _ (by omega), cp1_o _ _ _ _ (by omega), cp1_o _ _ _ _ (by omega), cp1_o _ _ _ _ (by omega)]
theorem cps_k {I : Nat → Nat → Int32} {a b : Nat} {k : Nat} (hk : k ≠ a) : k_cpS I a b k = (cp1 (cp1 (k_cpR (k_cpC I a b) a b) (a + 17) (b + 17) 3) (a + 18) (b + 18) 12) k := by
  unfold k_cpS
  rw [wr_ne _ _ _ hk, wr_ne _ _ _ hk, wr_ne _ _ _ hk, wr_ne _ _ _ hk]
theorem cps_a {I : Nat → Nat → Int32} {a b : Nat} (hab : a + 19 ≤ b ∨ b + 19 ≤ a) : ∀ j, 4 ≤ j → j ≤ 7 → k_cpS I a b a j = I b j := by
  intro j h1 h2
  have hb : (cp1 (cp1 (k_cpR (k_cpC I a b) a b) (a + 17) (b + 17) 3) (a + 18) (b + 18) 12) b = I b := cps1_o (by omega)
  unfold k_cpS
  generalize cp1 (cp1 (k_cpR (k_cpC I a b) a b) (a + 17) (b + 17) 3) (a + 18) (b + 18) 12 = X at hb ⊢
  rw [← hb]
  have hba : b ≠ a := by omega
  rcases (show j = 4 ∨ j = 5 ∨ j = 6 ∨ j = 7 by omega) with rfl | rfl | rfl | rfl
  · rw [wr_at, if_neg (by omega), wr_at, if_neg (by omega), wr_at, if_neg (by omega), wr_at, if_pos ⟨rfl, rfl⟩]
  · rw [wr_at, if_neg (by omega), wr_at, if_neg (by omega), wr_at, if_pos ⟨rfl, rfl⟩, wr_ne _ _ _ hba]
  · rw [wr_at, if_neg (by omega), wr_at, if_pos ⟨rfl, rfl⟩, wr_ne _ _ _ hba, wr_ne _ _ _ hba]
  · rw [wr_at, if_pos ⟨rfl, rfl⟩, wr_ne _ _ _ hba, wr_ne _ _ _ hba, wr_ne _ _ _ hba]
/-- a state copied from b to a: what is read at a is what stood at b -/
theorem cps_at {I : Nat → Nat → Int32} {a b : Nat} (hab : a + 19 ≤ b ∨ b + 19 ≤ a) : (∀ k, (k < a ∨ a + 19 ≤ k) → k_cpS I a b k = I k) ∧ (∀ j, 4 ≤ j → j ≤ 7 → k_cpS I a b a j = I b j) ∧ k_cpS I a b (a + 1) 12 = I (b + 1) 12 ∧ (∀ i, 2 ≤ i → i ≤ 12 → ∀ c, c < 60 → k_cpS I a b (a + i) c = I (b + i) c) ∧ (∀ c, c < 240 → k_cpS I a b (a + 13) c = I (b + 13) c) ∧ (∀ c, c < 180 → k_cpS I a b (a + 15) c = I (b + 15) c) ∧ (∀ c, c < 3 → k_cpS I a b (a + 16) c = I (b + 16) c ∧ k_cpS I a b (a + 17) c = I (b + 17) c) ∧ (∀ c, c < 12 → k_cpS I a b (a + 18) c = I (b + 18) c) := by
  refine ⟨fun k hk => ?_, cps_a hab, ?_, fun i h1 h2 c hc => ?_, fun c hc => ?_, fun c hc => ?_, fun c hc => ⟨?_, ?_⟩, fun c hc => ?_⟩
  · rw [cps_k (by omega)]; exact cps1_o (by omega)
  · rw [cps_k (by omega)]; exact cps1_1 hab
  · rw [cps_k (by omega)]
    rcases (show i = 2 ∨ i = 3 ∨ i = 4 ∨ i = 5 ∨ i = 6 ∨ i = 7 ∨ i = 8 ∨ i = 9 ∨ i = 10 ∨ i = 11 ∨ i = 12 by omega) with rfl | rfl | rfl | rfl | rfl | rfl | rfl | rfl | rfl | rfl | rfl
    · exact cps1_2 hab hc
    · exact cps1_3 hab hc
    · exact cps1_4 hab hc
    · exact cps1_5 hab hc
    · exact cps1_6 hab hc
    · exact cps1_7 hab hc
    · exact cps1_8 hab hc
    · exact cps1_9 hab hc
    · exact cps1_10 hab hc
    · exact cps1_11 hab hc
    · exact cps1_12 hab hc
  · rw [cps_k (by omega)]; exact cps1_13 hab hc
  · rw [cps_k (by omega)]; exact cps1_15 hab hc
  · rw [cps_k (by omega)]; exact cps1_16 hab hc
  · rw [cps_k (by omega)]; exact cps1_17 hab hc
  · rw [cps_k (by omega)]; exact cps1_18 hab hc
theorem mb_at (I : Nat → Nat → Int32) (t : Nat) : ∀ n, n ≤ 1300 → (∀ k, k ≠ 34 → m_back I t n k = I k) ∧ ∀ j, m_back I t n 34 j = if j < n then I 34 (1300 * (t + 1) + j) else I 34 j
  | 0, _ => ⟨fun _ _ => rfl, fun j => (if_neg (by omega)).symm⟩
  | n + 1, hn => by
    obtain ⟨i1, i2⟩ := mb_at I t n (by omega)
    rw [m_back]
    refine ⟨fun k hk => (wr_ne _ _ _ hk).trans (i1 k hk), fun j => ?_⟩
    rw [wr_at]
    by_cases q : j = n
    · rw [if_pos ⟨rfl, q⟩, if_pos (by omega), i2, if_neg (by omega), q]
    · rw [if_neg (fun w => q w.2), i2 j]
      exact ite_cg (by omega)
theorem msv_at (I : Nat → Nat → Int32) (t : Nat) : ∀ n, n ≤ 1300 → (∀ k, k ≠ 34 → m_sv I t n k = I k) ∧ ∀ j, m_sv I t n 34 j = if 1300 * (t + 1) ≤ j ∧ j < 1300 * (t + 1) + n then I 34 (j - 1300 * (t + 1)) else I 34 j
  | 0, _ => ⟨fun _ _ => rfl, fun j => (if_neg (by omega)).symm⟩
  | n + 1, hn => by
    obtain ⟨i1, i2⟩ := msv_at I t n (by omega)
    rw [m_sv]
    refine ⟨fun k hk => (wr_ne _ _ _ hk).trans (i1 k hk), fun j => ?_⟩
    rw [wr_at]
    by_cases q : j = 1300 * (t + 1) + n
    · rw [if_pos ⟨rfl, q⟩, if_pos (by omega), i2, if_neg (by omega), show j - 1300 * (t + 1) = n by omega]
    · rw [if_neg (fun w => q w.2), i2 j]
      exact ite_cg (by omega)
theorem msz_at (I : Nat → Nat → Int32) (t k0 : Nat) : ∀ n, (∀ k, k ≠ 34 → m_sz I t k0 n k = I k) ∧ ∀ j, m_sz I t k0 n 34 j = if 1300 * (t + 1) + 6 + k0 ≤ j ∧ j < 1300 * (t + 1) + 6 + k0 + n then 0 else I 34 j
  | 0 => ⟨fun _ _ => rfl, fun j => (if_neg (by omega)).symm⟩
  | n + 1 => by
    obtain ⟨i1, i2⟩ := msz_at I t k0 n
    rw [m_sz]
    refine ⟨fun k hk => (wr_ne _ _ _ hk).trans (i1 k hk), fun j => ?_⟩
    rw [wr_at]
    by_cases q : j = 1300 * (t + 1) + 6 + (k0 + n)
    · rw [if_pos ⟨rfl, q⟩, if_pos (by omega)]
    · rw [if_neg (fun w => q w.2), i2 j]
      exact ite_cg (by omega)
theorem ms_at (I : Nat → Nat → Int32) (t : Nat) {nn : Nat} (hn : nn ≤ 4) : (∀ k, k ≠ 34 → k ≠ 35 → m_save I t nn k = I k) ∧ (∀ j, m_save I t nn 35 j = if j = t then 1 else I 35 j) ∧ ∀ j, m_save I t nn 34 j = if 1300 * (t + 1) ≤ j ∧ j < 1300 * (t + 2) then (if 6 + 3 * nn ≤ j - 1300 * (t + 1) ∧ j - 1300 * (t + 1) < 18 then 0 else I 34 (j - 1300 * (t + 1))) else I 34 j := by
  obtain ⟨i1, i2⟩ := msv_at I t 1300 (Nat.le_refl _)
  obtain ⟨j1, j2⟩ := msz_at (m_sv I t 1300) t (3 * nn) (12 - 3 * nn)
  unfold m_save
  refine ⟨fun k h1 h2 => by rw [wr_ne _ _ _ h2, j1 k h1, i1 k h1], fun j => ?_, fun j => ?_⟩
  · rw [wr_i, j1 35 (by decide), i1 35 (by decide)]
  · rw [wr_ne _ _ _ (by decide), j2, i2]
    by_cases q : 1300 * (t + 1) ≤ j ∧ j < 1300 * (t + 2)
    · rw [if_pos q, if_pos (show 1300 * (t + 1) ≤ j ∧ j < 1300 * (t + 1) + 1300 by omega)]
      exact ite_cg (by omega)
    · rw [if_neg q, if_neg (by omega), if_neg (by omega)]
