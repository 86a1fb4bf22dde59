/-! pure: the answers are the same -/
theorem n_lt {a b : Int32} : ¬ a < b ↔ b ≤ a := by
  rw [ti_lt, ti_le]
  omega
theorem isLn_iff {A B : Nat → Nat → Int32} {N nl nc ns nn L : Nat} {M : Int} (h : Rel A B N nl nc ns nn L M) {v : Int32} : (isLn A v ↔ mLn B v) ∧ (isLn A v → ∃ l, l < L ∧ v = nI l) := by
  obtain ⟨-, -, -, -, ⟨-, t1, t2, t3, t4⟩, -⟩ := h.1
  have e1 : (nI L).toInt = L := ti_nI (by omega)
  have e0 : (1 : Int32).toInt = 1 := by decide
  unfold isLn mLn
  rw [t1, t2, n_lt, ti_lt, ti_le, ti_le, t0, ti_sub (by omega) (by omega), e1, e0]
  refine ⟨by omega, fun w => ?_⟩
  obtain ⟨n, -, e, e2⟩ := ti_of (a := v) w.1
  exact ⟨n, by omega, e⟩
theorem isPl_iff {A B : Nat → Nat → Int32} {N nl nc ns nn L : Nat} {M : Int} (h : Rel A B N nl nc ns nn L M) {v : Int32} : (isPl A v ↔ mPl B v) ∧ (isPl A v → 0 ≤ v.toInt ∧ v.toInt ≤ 100000) := by
  obtain ⟨-, -, -, -, -, ⟨t1, t2, t3, t4⟩, -⟩ := h.1
  unfold isPl mPl
  rw [t1, t2, n_lt, n_lt]
  refine ⟨Iff.rfl, fun w => ?_⟩
  rw [ti_le, ti_le, t0] at w
  omega
theorem isCr_iff {A B : Nat → Nat → Int32} {N nl nc ns nn L : Nat} {M : Int} (h : Rel A B N nl nc ns nn L M) {v : Int32} : (isCr A v ↔ mCr B v) ∧ (isCr A v → v.toNatClampNeg < N) := by
  obtain ⟨q1, q2, q3⟩ := h.2.1
  unfold isCr mCr
  rw [q1, q2, n_lt]
  refine ⟨Iff.rfl, fun w => ?_⟩
  rw [ti_le, ti_lt, t0, ti_nI (by omega)] at w
  obtain ⟨n, hn, e, e2⟩ := ti_of (a := v) w.1
  rw [e, cl_nI hn]
  omega
theorem an_told {I : Nat → Nat → Int32} {N nl nc ns nn L : Nat} {M : Int} (h : Rel I I N nl nc ns nn L M) (v w : Int32) : (if isCr I v then k_told I w v.toNatClampNeg else -1) = if mCr I v then m_told (I 34) w v.toNatClampNeg else -1 := by
  obtain ⟨c1, c2⟩ := isCr_iff h (v := v)
  by_cases q : isCr I v
  · rw [if_pos q, if_pos (c1.mp q)]
    obtain ⟨p1, p2, p3, p4⟩ := h.2.2.2.2.2.2.1 _ (c2 q)
    obtain ⟨q1, q2, q3, q4, -⟩ := h.2.2.2.2.2.2.2.1 _ (c2 q)
    unfold k_told m_told
    rw [p1, p2, p3, q2, q3, q4]
  · rw [if_neg q, if_neg (fun z => q (c1.mpr z))]
theorem an_drawn {I : Nat → Nat → Int32} {N nl nc ns nn L : Nat} {M : Int} (h : Rel I I N nl nc ns nn L M) (v w : Int32) : (if isCr I v then k_dra I w v.toNatClampNeg else -1) = if mCr I v ∧ (0 ≤ w ∧ w ≤ 2) then pt (I 34) (8 + w.toNatClampNeg) v.toNatClampNeg else -1 := by
  obtain ⟨c1, c2⟩ := isCr_iff h (v := v)
  by_cases q : isCr I v
  · rw [if_pos q]
    obtain ⟨p1, p2, p3, p4⟩ := h.2.2.2.2.2.2.1 _ (c2 q)
    obtain ⟨q1, q2, q3, q4, q5, q6, q7⟩ := h.2.2.2.2.2.2.2.1 _ (c2 q)
    unfold k_dra
    by_cases z0 : w = 0
    · subst z0
      rw [if_pos rfl, if_pos ⟨c1.mp q, by decide, by decide⟩]
      exact p4.symm
    · rw [if_neg z0]
      by_cases z1 : w = 1
      · subst z1
        rw [if_pos rfl, if_pos ⟨c1.mp q, by decide, by decide⟩]
        exact q6.symm
      · rw [if_neg z1]
        by_cases z2 : w = 2
        · subst z2
          rw [if_pos rfl, if_pos ⟨c1.mp q, by decide, by decide⟩]
          exact q7.symm
        · rw [if_neg z2, if_neg (fun y => ?_)]
          obtain ⟨-, y1, y2⟩ := y
          rw [ti_eq, t0] at z0
          rw [ti_eq, show (1 : Int32).toInt = 1 by decide] at z1
          rw [ti_eq, show (2 : Int32).toInt = 2 by decide] at z2
          rw [ti_le, t0] at y1
          rw [ti_le, show (2 : Int32).toInt = 2 by decide] at y2
          omega
  · rw [if_neg q, if_neg (fun z => q (c1.mpr z.1))]
theorem an_gap {I : Nat → Nat → Int32} {N nl nc ns nn L : Nat} {M : Int} (h : Rel I I N nl nc ns nn L M) (v : Int32) : (if isCr I v ∧ I 20 v.toNatClampNeg = 1 then k_gap I nl nc ns (lnI I v.toNatClampNeg) (k_rk I (lnI I v.toNatClampNeg) (I 21 v.toNatClampNeg) (szI I (lnI I v.toNatClampNeg)) 0) v.toNatClampNeg else -1) = if mCr I v ∧ pt (I 34) 2 v.toNatClampNeg = 1 then m_gap I N nl nc ns v.toNatClampNeg (pt (I 34) 1 v.toNatClampNeg) else -1 := by
  obtain ⟨c1, c2⟩ := isCr_iff h (v := v)
  have hL3 := h.1.2.2.2.2.1.2.2.2.2
  by_cases q : isCr I v
  · have hc := c2 q
    generalize v.toNatClampNeg = c at hc ⊢
    obtain ⟨p1, p2, p3, p4⟩ := h.2.2.2.2.2.2.1 _ hc
    obtain ⟨-, ⟨l1, l2⟩, -⟩ := h.2.2.2.2.2.2.2.2.2.1 _ hc
    rw [p1, p2]
    refine ite_cg2 ⟨fun w => ⟨c1.mp w.1, w.2⟩, fun w => ⟨c1.mpr w.1, w.2⟩⟩ ?_ rfl
    have hl : lnI I c < 3 := by omega
    have := (h.gap hl hc ((h.2.2.2.2.2.2.2.2.2.2.2.1 _ hl).2.2.2.rank h.2.2.2.2.2.1 (I 21 c))).1
    rw [this, ← l1]
  · rw [if_neg (fun z => q z.1), if_neg (fun z => q (c1.mpr z.1))]
theorem an_counted {I : Nat → Nat → Int32} {N nl nc ns nn L : Nat} {M : Int} (h : Rel I I N nl nc ns nn L M) (v w : Int32) : (if (¬ v < 0 ∧ v < nI nn) ∧ isLn I w then I 31 (v.toNatClampNeg * 3 + w.toNatClampNeg) else -1) = if (0 ≤ v ∧ v ≤ nI nn - 1) ∧ mLn I w then I 34 (6 + 3 * v.toNatClampNeg + w.toNatClampNeg) else -1 := by
  obtain ⟨c1, c2⟩ := isLn_iff h (v := w)
  have hL3 := h.1.2.2.2.2.1.2.2.2.2
  have hn := h.1.2.2.2.1.2.2
  have e1 : (nI nn).toInt = nn := ti_nI (by omega)
  have e0 : (1 : Int32).toInt = 1 := by decide
  have e : (¬ v < 0 ∧ v < nI nn) ↔ (0 ≤ v ∧ v ≤ nI nn - 1) := by
    rw [n_lt, ti_lt, ti_le, ti_le, t0, ti_sub (by omega) (by omega), e1, e0]
    omega
  by_cases q : (¬ v < 0 ∧ v < nI nn) ∧ isLn I w
  · rw [if_pos q, if_pos ⟨e.mp q.1, c1.mp q.2⟩]
    obtain ⟨l, hl, rfl⟩ := c2 q.2
    have q1 := q.1
    rw [n_lt, ti_le, ti_lt, t0, e1] at q1
    obtain ⟨k, hk, e3, e4⟩ := ti_of (a := v) q1.1
    rw [e3, cl_nI hk, cl_nI (by omega)]
    rw [show 6 + 3 * k + l = 6 + (k * 3 + l) by omega]
    exact (h.2.2.2.1 (k * 3 + l) (by omega)).1.symm
  · rw [if_neg q, if_neg (fun z => q ⟨e.mpr z.1, c1.mpr z.2⟩)]
theorem an_times {I : Nat → Nat → Int32} {N nl nc ns nn L : Nat} {M : Int} (h : Rel I I N nl nc ns nn L M) : sm (fun i => if I 20 i = 2 then I 24 i - I 23 i else 0) N = I 34 2 := h.2.2.2.2.1.symm
theorem an_many {I : Nat → Nat → Int32} {N nl nc ns nn L : Nat} {M : Int} (h : Rel I I N nl nc ns nn L M) (w : Int32) : k_many I w = if 0 ≤ w ∧ w ≤ 2 then I 34 (3 + w.toNatClampNeg) else -1 := by
  obtain ⟨-, s2, s3, s4, -⟩ := h.2.2.1
  unfold k_many
  by_cases z0 : w = 0
  · subst z0
    rw [if_pos rfl, if_pos ⟨by decide, by decide⟩]
    exact s2.symm
  · rw [if_neg z0]
    by_cases z1 : w = 1
    · subst z1
      rw [if_pos rfl, if_pos ⟨by decide, by decide⟩]
      exact s3.symm
    · rw [if_neg z1]
      by_cases z2 : w = 2
      · subst z2
        rw [if_pos rfl, if_pos ⟨by decide, by decide⟩]
        exact s4.symm
      · rw [if_neg z2, if_neg (fun y => ?_)]
        obtain ⟨y1, y2⟩ := y
        rw [ti_eq, t0] at z0
        rw [ti_eq, show (1 : Int32).toInt = 1 by decide] at z1
        rw [ti_eq, show (2 : Int32).toInt = 2 by decide] at z2
        rw [ti_le, t0] at y1
        rw [ti_le, show (2 : Int32).toInt = 2 by decide] at y2
        omega
theorem an_waiting {I : Nat → Nat → Int32} {N nl nc ns nn L : Nat} {M : Int} (h : Rel I I N nl nc ns nn L M) (v : Int32) : (if isLn I v then sm (fun i => bI (I 20 i = 0 ∧ I 19 i = v)) N else -1) = if mLn I v then sm (fun i => bI (pt (I 34) 2 i = 0 ∧ pt (I 34) 1 i = v)) N else -1 := by
  refine ite_cg2 (isLn_iff h).1 (sm_cg (fun i hi => bI_cg ?_)) rfl
  obtain ⟨p1, p2, -⟩ := h.2.2.2.2.2.2.1 i hi
  rw [p1, p2]
theorem an_ordered {I : Nat → Nat → Int32} {N nl nc ns nn L : Nat} {M : Int} (h : Rel I I N nl nc ns nn L M) : bI (k_ord I N) = bI (m_ord (I 34) N) := by
  refine bI_cg ?_
  have hb := h.2.2.2.2.2.1
  have hp := h.2.2.2.2.2.2.1
  unfold k_ord m_ord k_mt m_ov
  constructor
  · intro w a ha b hb2 z
    obtain ⟨⟨z1, z2, z3, z4⟩, z5, z6⟩ := z
    rw [(hp a ha).1] at z2
    rw [(hp b hb2).1] at z3
    rw [(hp a ha).2.1, (hp b hb2).2.1] at z4
    rw [(hp a ha).2.2.1, (hp b hb2).2.2.1, ti_lt] at z5
    rw [(hp b hb2).rr, (hp a ha).2.2.1, ti_lt, (hb b hb2).re] at z6
    obtain ⟨ba, -⟩ := hb a ha
    have ra := (hb a ha).re
    have rb := (hb b hb2).re
    rcases Nat.lt_or_gt_of_ne z1 with y | y
    · exact w b hb2 a y ⟨z3, z2, z4, by rw [ti_lt]; omega, by rw [ti_lt]; omega⟩
    · exact w a ha b y ⟨z2, z3, z4.symm, by rw [ti_lt]; omega, by rw [ti_lt]; omega⟩
  · intro w a ha b hba z
    have hb2 : b < N := by omega
    obtain ⟨z1, z2, z3, z4, z5⟩ := z
    rw [ti_lt, (hb a ha).re] at z4
    rw [ti_lt, (hb b hb2).re] at z5
    by_cases y : (I 21 b).toInt < (I 21 a).toInt
    · refine w b hb2 a ha ⟨⟨by omega, by rw [(hp b hb2).1]; exact z2, by rw [(hp a ha).1]; exact z1, by rw [(hp a ha).2.1, (hp b hb2).2.1]; exact z3⟩, ?_, ?_⟩
      · rw [(hp a ha).2.2.1, (hp b hb2).2.2.1, ti_lt]; omega
      · rw [(hp a ha).rr, (hp b hb2).2.2.1, ti_lt, (hb a ha).re]; omega
    · refine w a ha b hb2 ⟨⟨by omega, by rw [(hp a ha).1]; exact z1, by rw [(hp b hb2).1]; exact z2, by rw [(hp a ha).2.1, (hp b hb2).2.1]; exact z3.symm⟩, ?_, ?_⟩
      · rw [(hp a ha).2.2.1, (hp b hb2).2.2.1, ti_lt]; omega
      · rw [(hp b hb2).rr, (hp a ha).2.2.1, ti_lt, (hb b hb2).re]; omega
theorem an_count {I : Nat → Nat → Int32} {N nl nc ns nn L : Nat} {M : Int} (h : Rel I I N nl nc ns nn L M) (w : Int32) : k_cnt I N w = m_cnt I N w := by
  obtain ⟨t1, t2, t3, t4, t5, t6, -⟩ := h.1
  obtain ⟨n1, n2, -⟩ := h.2.1
  have hp := h.2.2.2.2.2.2.1
  unfold k_cnt m_cnt
  rw [n1, n2, t1.1, t1.2.1, t2.1, t2.2.1, t3.1, t3.2.1, t4.1, t4.2.1, t5.2.1, t5.2.2.1, t6.1, t6.2.1, h.2.2.1.1]
  refine ite_cg2 Iff.rfl rfl ?_
  by_cases z1 : w = 1
  · rw [if_pos z1, if_pos z1]
    exact sm_cg (fun i hi => bI_cg (by rw [(hp i hi).1, z1]))
  · rw [if_neg z1, if_neg z1]
    by_cases z2 : w = 2
    · rw [if_pos z2, if_pos z2]
      exact sm_cg (fun i hi => bI_cg (by rw [(hp i hi).1, z2]))
    · rw [if_neg z2, if_neg z2]
