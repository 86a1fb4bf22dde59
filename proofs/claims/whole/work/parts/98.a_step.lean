/-! pure: a step, an idle step, a run -/
theorem rel_s1 {A B : Nat → Nat → Int32} {N nl nc ns nn L : Nat} {M : Int} (h : Rel A B N nl nc ns nn L M) : ∀ l, l ≤ L → Rel (k_s1 A N nl nc ns l) (m_en B N nl nc ns l) N nl nc ns nn L M
  | 0, _ => h
  | l + 1, hl => (s1 (rel_s1 h l (by omega)) (by omega)).1
theorem rel_s2 {A B : Nat → Nat → Int32} {N nl nc ns nn L : Nat} {M : Int} (h : Rel A B N nl nc ns nn L M) : ∀ c, c ≤ N → Rel (k_s2 A nl nc ns L c) (m_ch B N nl nc ns c) N nl nc ns nn L M
  | 0, _ => h
  | c + 1, hc => (s2 (rel_s2 h c (by omega)) (by omega)).1
theorem rel_step {A B : Nat → Nat → Int32} {N nl nc ns nn L : Nat} {M : Int} (h : Rel A B N nl nc ns nn L M) (hM : M < 2147483647) : Rel (k_step A N nl nc ns nn L) (m_step B N nl nc ns nn L) N nl nc ns nn L (M + 1) := by
  obtain ⟨h3, hsp⟩ := s3 (rel_s2 (rel_s1 h L (Nat.le_refl _)) N (Nat.le_refl _))
  exact s4 h3 hsp hM
theorem Rel.mono {A B : Nat → Nat → Int32} {N nl nc ns nn L : Nat} {M M' : Int} (h : Rel A B N nl nc ns nn L M) (hM : M ≤ M') : Rel A B N nl nc ns nn L M' := by
  obtain ⟨ht, hN, ⟨s1, s2, s3, s4, s5, s6⟩, hr⟩ := h
  exact ⟨ht, hN, ⟨s1, s2, s3, s4, s5, by omega⟩, hr⟩
def PP (N nl nc ns nn L : Nat) (i : Nat) (X : Nat → Nat → Int32) : Prop := ∃ (B : Nat → Nat → Int32) (M : Int), Rel X B N nl nc ns nn L M ∧ M + i < 2147483647
theorem pp_kp (N nl nc ns nn L i : Nat) : KP (PP N nl nc ns nn L i) N nl nc ns nn L := by
  refine ⟨?_, ?_, ?_, ?_, ?_⟩
  · rintro X ⟨B, M, h, -⟩
    exact h.cw
  · rintro X l ⟨B, M, h, -⟩ hl
    have hL3 := h.1.2.2.2.2.1.2.2.2.2
    obtain ⟨q1, q2, -⟩ := h.2.2.2.2.2.2.2.2.2.2.2.2 l (by omega)
    exact ⟨q1, q2, (s1 h hl).2⟩
  · rintro X l ⟨B, M, h, hM⟩ hl
    have hL3 := h.1.2.2.2.2.1.2.2.2.2
    exact ⟨B, M, rel_wt h (by omega), hM⟩
  · rintro X l ⟨B, M, h, hM⟩ hl
    exact ⟨_, M, (s1 h hl).1, hM⟩
  · rintro X c ⟨B, M, h, hM⟩ hc e
    obtain ⟨q1, q2⟩ := s2 h hc
    refine ⟨q2 e, fun w => ?_⟩
    rw [if_pos ⟨e, w⟩] at q1
    exact ⟨_, M, q1, hM⟩
theorem pp_st (N nl nc ns nn L i : Nat) (X : Nat → Nat → Int32) (h : PP N nl nc ns nn L (i + 1) X) : PP N nl nc ns nn L i (k_step X N nl nc ns nn L) := by
  obtain ⟨B, M, h, hM⟩ := h
  exact ⟨_, M + 1, rel_step h (by omega), by omega⟩
theorem wr_self (I : Nat → Nat → Int32) {a k : Nat} {v : Int32} (h : I a k = v) : wr I a k v = I := by
  funext b j
  rw [wr_at]
  by_cases e : b = a ∧ j = k
  · rw [if_pos e, e.1, e.2, h]
  · rw [if_neg e]
theorem wr_wr (I : Nat → Nat → Int32) (a k : Nat) (v w : Int32) : wr (wr I a k v) a k w = wr I a k w := by
  funext b j
  rw [wr_at, wr_at, wr_at]
  split
  · rfl
  · rfl
/-- nobody waits or drives, and the class knows -/
def Idl (X : Nat → Nat → Int32) (N L : Nat) : Prop := ∀ l, l < L → szI X l = 0 ∧ X 30 l = nI N
theorem idl_step {X B : Nat → Nat → Int32} {N nl nc ns nn L : Nat} {M : Int} (h : Rel X B N nl nc ns nn L M) (hi : Idl X N L) : k_step X N nl nc ns nn L = wr X 13 4 (X 13 4 + 1) := by
  have hL3 := h.1.2.2.2.2.1.2.2.2.2
  have hN60 := h.2.1.2.2
  have h1 : ∀ l, l ≤ L → k_s1 X N nl nc ns l = X := fun l => by
    induction l with
    | zero => intro _; rfl
    | succ l ih =>
      intro hl
      rw [k_s1, ih (by omega)]
      obtain ⟨z1, z2⟩ := hi l (by omega)
      have ek : k0I X l = N := by unfold k0I; rw [z2, cl_nI (by omega)]
      have ew : k_fw X (nI l) (N - N) N = N := by rw [Nat.sub_self]; rfl
      unfold k_letIn
      rw [ek, if_neg (fun w => absurd w.1 (by rw [ew]; omega)), ew, wr_self _ z2]
  have hno : ∀ c, c < N → ¬ X 20 c = 1 := fun c hc e => by
    obtain ⟨-, ⟨l1, l2⟩, -⟩ := h.2.2.2.2.2.2.2.2.2.1 c hc
    obtain ⟨-, -, -, w4⟩ := h.2.2.2.2.2.2.2.2.2.2.2.1 (lnI X c) (by omega)
    obtain ⟨j, hj, -⟩ := w4.2.1 c hc e l1
    rw [(hi _ l2).1] at hj
    omega
  have h2 : ∀ c, c ≤ N → k_s2 X nl nc ns L c = X := fun c => by
    induction c with
    | zero => intro _; rfl
    | succ c ih =>
      intro hc
      rw [k_s2, ih (by omega), if_neg (fun w => hno c (by omega) w.1)]
  have h3 : ∀ l, l ≤ L → k_s3 X nl nc ns l = X := fun l => by
    induction l with
    | zero => intro _; rfl
    | succ l ih =>
      intro hl
      rw [k_s3, ih (by omega), (hi l (by omega)).1]
      rfl
  have h4 : ∀ l, l ≤ L → k_s4 X ns nn l = X := fun l => by
    induction l with
    | zero => intro _; rfl
    | succ l ih =>
      intro hl
      have e : k_out X ns nn l = X := by
        unfold k_out
        rw [(hi l (by omega)).1]
        rfl
      rw [k_s4, ih (by omega), e, (hi l (by omega)).1]
      rfl
  unfold k_step
  rw [h1 L (Nat.le_refl _), h2 N (Nat.le_refl _), h3 L (Nat.le_refl _), h4 L (Nat.le_refl _)]
theorem m_run_front (B : Nat → Nat → Int32) (N nl nc ns nn L : Nat) : ∀ s, m_run B N nl nc ns nn L (s + 1) = m_run (m_step B N nl nc ns nn L) N nl nc ns nn L s
  | 0 => rfl
  | s + 1 => by rw [m_run, m_run_front B N nl nc ns nn L s]; rfl
theorem idl_run {X B : Nat → Nat → Int32} {N nl nc ns nn L : Nat} {M : Int} (h : Rel X B N nl nc ns nn L M) (hi : Idl X N L) : ∀ m : Nat, M + m < 2147483647 → Rel (wr X 13 4 (X 13 4 + nI m)) (m_run B N nl nc ns nn L m) N nl nc ns nn L (M + m)
  | 0, _ => by
    rw [wr_self _ (show X 13 4 = X 13 4 + nI 0 from (Int32.add_zero _).symm)]
    exact h.mono (by omega)
  | m + 1, hm => by
    have q := rel_step (idl_run h hi m (by omega)) (by omega)
    rw [idl_step (idl_run h hi m (by omega)) (fun l hl => hi l hl), wr_wr, wr_at, if_pos ⟨rfl, rfl⟩, Int32.add_assoc, nI_1] at q
    rw [m_run]
    exact q.mono (by omega)
/-- the class's look whether all is idle -/
theorem idle_at {B : Nat → Nat → Int32} {N nl nc ns nn L : Nat} {M : Int} : ∀ (m l : Nat) {I : Nat → Nat → Int32}, l + m = L → Rel I B N nl nc ns nn L M → Idl I N l → Rel (k_idle N m l I).2 B N nl nc ns nn L M ∧ ((k_idle N m l I).1 = true → Idl (k_idle N m l I).2 N L)
  | 0, l, I, hl, h, hi => ⟨h, fun _ => by
    rw [show L = l by omega]; exact hi⟩
  | m + 1, l, I, hl, h, hi => by
    have hL3 := h.1.2.2.2.2.1.2.2.2.2
    have hN60 := h.2.1.2.2
    rw [k_idle]
    by_cases q : 0 < szI I l
    · rw [if_pos q]
      exact ⟨h, fun w => absurd w Bool.false_ne_true⟩
    · rw [if_neg q]
      have hr := rel_wt h (show l < 3 by omega)
      by_cases q2 : k_fw I (nI l) (N - k0I I l) (k0I I l) < N
      · rw [if_pos q2]
        exact ⟨hr, fun w => absurd w Bool.false_ne_true⟩
      · rw [if_neg q2]
        have hk0 := (h.2.2.2.2.2.2.2.2.2.2.2.2 l (by omega)).2.1
        have hw : k_fw I (nI l) (N - k0I I l) (k0I I l) = N := by
          have := k_fw_le (I := I) (l := nI l) (N - k0I I l) (k0I I l)
          omega
        refine idle_at m (l + 1) (by omega) hr (fun l2 h2 => ?_)
        rw [hw, wr_at]
        by_cases e : l2 = l
        · rw [if_pos ⟨rfl, e⟩]
          refine ⟨?_, rfl⟩
          show szI I l2 = 0
          rw [e]; omega
        · rw [if_neg (fun w => e w.2)]
          exact hi l2 (by omega)
theorem rel_run {N nl nc ns nn L : Nat} : ∀ (s : Nat) {I B : Nat → Nat → Int32} {M : Int}, Rel I B N nl nc ns nn L M → M + s < 2147483647 → Rel (k_run I N nl nc ns nn L s) (m_run B N nl nc ns nn L s) N nl nc ns nn L (M + s)
  | 0, I, B, M, h, hM => by
    unfold k_run
    rw [k_rn, wr_self _ (show I 13 4 = I 13 4 + nI 0 from (Int32.add_zero _).symm)]
    exact h.mono (by omega)
  | s + 1, I, B, M, h, hM => by
    obtain ⟨h1, h2⟩ := idle_at L 0 (by omega) h (fun l hl => absurd hl (by omega))
    by_cases q : (k_idle N L 0 I).1 = true
    · have r := idl_run h1 (h2 q) (s + 1) hM
      unfold k_run
      rw [k_rn, if_pos q]
      exact r
    · have r := rel_run s (rel_step h1 (by omega)) (by omega)
      unfold k_run at r ⊢
      rw [k_rn, if_neg q, m_run_front]
      exact r.mono (by omega)
