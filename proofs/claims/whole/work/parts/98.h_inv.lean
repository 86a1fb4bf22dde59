/-! the invariant behind every call, and the seventeen calls -/
def SlotOk (n : Nat) (S : Nat → Nat × Nat) (I : Nat → Nat → Int32) (R : Nat → Nat → Option Nat) (nl nc ns nn L : Nat) (M : Int) (t : Nat) : Prop := (R 32 t = none ∧ I 35 t = 0) ∨ ∃ q N, R 32 t = some q ∧ ShS S R q ∧ (47 ≤ q ∧ q + 19 ≤ n) ∧ ¬ I 35 t = 0 ∧ SR I t q N nl nc ns nn L M
def kept (R : Nat → Nat → Option Nat) : Nat := (if R 32 0 = none then 0 else 1) + (if R 32 1 = none then 0 else 1)
def InvC (j n z : Nat) (S : Nat → Nat × Nat) (I : Nat → Nat → Int32) (J : Nat → Nat → Int64) (R : Nat → Nat → Option Nat) : Prop :=
  ShC S R ∧ ShM S R ∧ J 0 0 = J 33 0 ∧ (n = 47 + 19 * kept R ∧ z = 5228 + 1121 * kept R) ∧ (∀ q0 q1, R 32 0 = some q0 → R 32 1 = some q1 → q0 + 19 ≤ q1 ∨ q1 + 19 ≤ q0) ∧
  ∃ N nl nc ns nn L, Rel I I N nl nc ns nn L ((1000 * j : Nat) : Int) ∧ ∀ t, t < 2 → SlotOk n S I R nl nc ns nn L ((1000 * j : Nat) : Int) t
def Inv0 (j : Nat) (h : AH) : Prop := InvC j h.1 h.2.1 h.2.2.1 h.2.2.2.1 h.2.2.2.2.1 h.2.2.2.2.2
theorem kept_le (R : Nat → Nat → Option Nat) : kept R ≤ 2 := by
  unfold kept
  split <;> split <;> decide
theorem SR.mono {I : Nat → Nat → Int32} {t q N nl nc ns nn L : Nat} {M M' : Int} (h : SR I t q N nl nc ns nn L M) (hM : M ≤ M') : SR I t q N nl nc ns nn L M' := Rel.mono h hM
theorem slot_same {n : Nat} {S : Nat → Nat × Nat} {I I2 : Nat → Nat → Int32} {R : Nat → Nat → Option Nat} {nl nc ns nn L nl' nc' ns' nn' t : Nat} {M M' : Int} (h : SlotOk n S I R nl nc ns nn L M t) (h35 : I2 35 t = I 35 t) (hS : ∀ q N, 47 ≤ q → SR I t q N nl nc ns nn L M → SR I2 t q N nl' nc' ns' nn' L M') : SlotOk n S I2 R nl' nc' ns' nn' L M' t := by
  rcases h with ⟨h1, h2⟩ | ⟨q, N, h1, h2, h3, h4, h5⟩
  · exact .inl ⟨h1, by rw [h35]; exact h2⟩
  · exact .inr ⟨q, N, h1, h2, h3, by rw [h35]; exact h4, hS q N h3.1 h5⟩
theorem aL_34 (X : Nat → Nat → Int32) (k : Nat) (p r c : Int32) (j : Nat) : m_aL X k p r c 34 j = X 34 j := rfl
theorem aC_34 (X : Nat → Nat → Int32) (k : Nat) (l p f t : Int32) (j : Nat) : m_aC X k l p f t 34 j = X 34 j := rfl
theorem aS_34 (X : Nat → Nat → Int32) (k : Nat) (p d : Int32) (j : Nat) : m_aS X k p d 34 j = X 34 j := rfl
section
variable {g : GT} {n z : Nat} {S : Nat → Nat × Nat} {I : Nat → Nat → Int32} {J : Nat → Nat → Int64} {R : Nat → Nat → Option Nat}
theorem inv_same {I2 : Nat → Nat → Int32} {j N' nl nc ns nn L nl' nc' ns' nn' : Nat} (h : InvC j n z S I J R) (hsl : ∀ t, t < 2 → SlotOk n S I R nl nc ns nn L ((1000 * j : Nat) : Int) t) (hr : Rel I2 I2 N' nl' nc' ns' nn' L ((1000 * (j + 1) : Nat) : Int)) (h35 : I2 35 = I 35) (hS : ∀ t q N, t < 2 → 47 ≤ q → SR I t q N nl nc ns nn L ((1000 * j : Nat) : Int) → SR I2 t q N nl' nc' ns' nn' L ((1000 * (j + 1) : Nat) : Int)) : InvC (j + 1) n z S I2 J R := by
  obtain ⟨hC, hM, hJ, hn, hap, -⟩ := h
  exact ⟨hC, hM, hJ, hn, hap, N', nl', nc', ns', nn', L, hr, fun t ht => slot_same (hsl t ht) (by rw [h35]) (fun q N hq hs => hS t q N ht hq hs)⟩
theorem inv_id {j : Nat} (h : InvC j n z S I J R) : InvC (j + 1) n z S I J R := by
  have h0 := h
  obtain ⟨-, -, -, -, -, N, nl, nc, ns, nn, L, hr, hsl⟩ := h
  exact inv_same h0 hsl (hr.mono (by omega)) rfl (fun t q N _ _ hs => hs.mono (by omega))
theorem ol_of {mk mm : MI} {as : List Value} (H : ∀ j n z S I J R, j < 600 → InvC j n z S I J R → ∃ (d1 d2 : Nat) (v : Int32) (I1 I2 : Nat → Nat → Int32), d1 < 8 ∧ d2 < 8 ∧ Cn g mk d1 0 0 (.ref (gB g + 0) :: as) (n, z, S, I, J, R) (Is (some (.int v)) (n, z, S, I1, J, R)) ∧ Cn g mm d2 0 0 (.ref (gB g + 33) :: as) (n, z, S, I1, J, R) (Is (some (.int v)) (n, z, S, I2, J, R)) ∧ InvC (j + 1) n z S I2 J R) : OpL g Inv0 mk mm as := by
  intro j h hj hI
  obtain ⟨n, z, S, I, J, R⟩ := h
  have hI' : InvC j n z S I J R := hI
  obtain ⟨d1, d2, v, I1, I2, a1, a2, a3, a4, a5⟩ := H j n z S I J R hj hI'
  exact ⟨d1, d2, 0, 0, v, (n, z, S, I1, J, R), (n, z, S, I2, J, R), a1, a2, a3, rfl, rfl, hI'.2.1.1.1, a4, rfl, rfl, a5⟩
theorem o_told (a0 a1 : Int32) : OpL g Inv0 M_C_told M_M_told [.int a0, .int a1] := ol_of (fun j n z S I J R hj h => by
  have h0 := h
  obtain ⟨hC, hM, hJ, hn, hap, N, nl, nc, ns, nn, L, hr, hsl⟩ := h
  refine ⟨1, 2, _, I, I, by decide, by decide, k_toldC hC hr.2.1.1 hr.2.1.2.2, ?_, inv_id h0⟩
  rw [an_told hr]
  exact c_told hM hr.2.1.2.1 hr.2.1.2.2)
theorem o_drawn (a0 a1 : Int32) : OpL g Inv0 M_C_drawn M_M_drawn [.int a0, .int a1] := ol_of (fun j n z S I J R hj h => by
  have h0 := h
  obtain ⟨hC, hM, hJ, hn, hap, N, nl, nc, ns, nn, L, hr, hsl⟩ := h
  refine ⟨1, 2, _, I, I, by decide, by decide, k_drawnC hC hr.2.1.1 hr.2.1.2.2, ?_, inv_id h0⟩
  rw [an_drawn hr]
  exact c_drawn hM hr.2.1.2.1 hr.2.1.2.2)
theorem o_gap (a0 : Int32) : OpL g Inv0 M_C_gap M_M_gap [.int a0] := ol_of (fun j n z S I J R hj h => by
  have h0 := h
  obtain ⟨hC, hM, hJ, hn, hap, N, nl, nc, ns, nn, L, hr, hsl⟩ := h
  have hL3 := hr.1.2.2.2.2.1.2.2.2.2
  refine ⟨3, 4, _, I, I, by decide, by decide, k_gapC hC hr.cw (fun c hc _ => ⟨(hr.2.2.2.2.2.2.2.2.2.1 c hc).2.1.1, by have := (hr.2.2.2.2.2.2.2.2.2.1 c hc).2.1.2; omega⟩), ?_, inv_id h0⟩
  rw [an_gap hr]
  exact c_gap hM hr.mok.1)
theorem o_counted (a0 a1 : Int32) : OpL g Inv0 M_C_counted M_M_counted [.int a0, .int a1] := ol_of (fun j n z S I J R hj h => by
  have h0 := h
  obtain ⟨hC, hM, hJ, hn, hap, N, nl, nc, ns, nn, L, hr, hsl⟩ := h
  have t5 := hr.1.2.2.2.2.1
  have t4 := hr.1.2.2.2.1
  refine ⟨1, 1, _, I, I, by decide, by decide, k_countedC hC t4.1 t4.2.2 t5.2.1 t5.2.2.2.2, ?_, inv_id h0⟩
  rw [an_counted hr]
  exact c_counted hM t4.2.1 t4.2.2 t5.2.2.1 t5.2.2.2.2)
theorem o_times : OpL g Inv0 M_C_times M_M_times [] := ol_of (fun j n z S I J R hj h => by
  have h0 := h
  obtain ⟨hC, hM, hJ, hn, hap, N, nl, nc, ns, nn, L, hr, hsl⟩ := h
  refine ⟨1, 0, _, I, I, by decide, by decide, k_timesC hC hr.2.1.1 hr.2.1.2.2, ?_, inv_id h0⟩
  rw [an_times hr]
  exact c_times hM)
theorem o_many (a0 : Int32) : OpL g Inv0 M_C_many M_M_many [.int a0] := ol_of (fun j n z S I J R hj h => by
  have h0 := h
  obtain ⟨hC, hM, hJ, hn, hap, N, nl, nc, ns, nn, L, hr, hsl⟩ := h
  refine ⟨0, 1, _, I, I, by decide, by decide, k_manyC hC, ?_, inv_id h0⟩
  rw [an_many hr]
  exact c_many hM)
theorem o_waiting (a0 : Int32) : OpL g Inv0 M_C_waiting M_M_waiting [.int a0] := ol_of (fun j n z S I J R hj h => by
  have h0 := h
  obtain ⟨hC, hM, hJ, hn, hap, N, nl, nc, ns, nn, L, hr, hsl⟩ := h
  refine ⟨2, 1, _, I, I, by decide, by decide, k_waitingC hC hr.2.1.1 hr.2.1.2.2, ?_, inv_id h0⟩
  rw [an_waiting hr]
  exact c_waiting hM hr.2.1.2.1 hr.2.1.2.2)
theorem o_ordered : OpL g Inv0 M_C_ordered M_M_ordered [] := ol_of (fun j n z S I J R hj h => by
  have h0 := h
  obtain ⟨hC, hM, hJ, hn, hap, N, nl, nc, ns, nn, L, hr, hsl⟩ := h
  refine ⟨3, 2, _, I, I, by decide, by decide, k_orderedC hC hr.2.1.1 hr.2.1.2.2, ?_, inv_id h0⟩
  rw [an_ordered hr]
  exact c_ordered hM hr.2.1.2.1 hr.2.1.2.2)
theorem o_count (a0 : Int32) : OpL g Inv0 M_C_count M_M_count [.int a0] := ol_of (fun j n z S I J R hj h => by
  have h0 := h
  obtain ⟨hC, hM, hJ, hn, hap, N, nl, nc, ns, nn, L, hr, hsl⟩ := h
  refine ⟨1, 1, _, I, I, by decide, by decide, k_countC hC hr.2.1.1 hr.2.1.2.2, ?_, inv_id h0⟩
  rw [an_count hr]
  exact c_count hM hr.2.1.2.1 hr.2.1.2.2)
theorem o_run (a0 : Int32) : OpL g Inv0 M_C_run M_M_run [.int a0] := ol_of (fun j n z S I J R hj h => by
  have h0 := h
  obtain ⟨hC, hM, hJ, hn, hap, N, nl, nc, ns, nn, L, hr, hsl⟩ := h
  have k := k_runC (g := g) (n := n) (z := z) (J := J) (v := a0) hC (pp_kp N nl nc ns nn L) (pp_st N nl nc ns nn L) (fun s hs => ⟨I, _, hr, by omega⟩)
  have e : isSt a0 ↔ 1 ≤ a0 ∧ a0 ≤ 1000 := by unfold isSt; rw [n_lt, n_lt]
  by_cases q : isSt a0
  · obtain ⟨s, ⟨s1, s2⟩, e2⟩ := isSt_of q
    rw [if_pos q, if_pos q, e2, cl_nI (by omega)] at k
    obtain ⟨r1, r2, r3, r4⟩ := op_run (s := s) hr (by omega)
    have m := c_run (g := g) (n := n) (z := z) (J := J) (k := a0) hM r1.mok
    rw [if_pos (e.mp q), if_pos (e.mp q), e2, cl_nI (by omega), ← r3] at m
    rw [e2]
    refine ⟨6, 7, _, _, _, by decide, by decide, k, m, inv_same h0 hsl (r4.mono (by omega)) ?_ (fun t q N _ hq hs => (hs.cg hq (ek_of hq (fr_run _ _ _ _ _ _ _ _) r2)).mono (by omega))⟩
    rw [r2.1 35 (by decide) (by decide), fr_run I N nl nc ns nn L s 35 (by decide)]
  · rw [if_neg q, if_neg q] at k
    have m := c_run (g := g) (n := n) (z := z) (J := J) (k := a0) hM hr.mok
    rw [if_neg (fun w => q (e.mpr w)), if_neg (fun w => q (e.mpr w))] at m
    exact ⟨6, 7, _, _, _, by decide, by decide, k, m, inv_id h0⟩)
theorem o_come (a0 a1 : Int32) : OpL g Inv0 M_C_come M_M_come [.int a0, .int a1] := ol_of (fun j n z S I J R hj h => by
  have h0 := h
  obtain ⟨hC, hM, hJ, hn, hap, N, nl, nc, ns, nn, L, hr, hsl⟩ := h
  have k := k_come (g := g) (n := n) (z := z) (J := J) (v := a0) (kd := a1) hC hr.2.1.1 hr.2.1.2.2
  have e : (a1 = 0 ∨ a1 = 1) ↔ (0 ≤ a1 ∧ a1 ≤ 1) := by
    rw [ti_eq, ti_eq, ti_le, ti_le, t0, show (1 : Int32).toInt = 1 by decide]
    omega
  obtain ⟨c1, c2⟩ := isLn_iff hr (v := a0)
  by_cases q : isLn I a0 ∧ (a1 = 0 ∨ a1 = 1) ∧ N < 60
  · rw [if_pos q, if_pos q] at k
    obtain ⟨l, hl, e2⟩ := c2 q.1
    have f1 := fr_add I (J 0 0) N (nI l) a1
    have f2 := fm_come (k_add I (J 0 0) N (nI l) a1) (J 0 0) (nI l) a1 q.2.2
    have m := c_come (g := g) (n := n) (z := z) (I := k_add I (J 0 0) N (nI l) a1) (J := J) (v := a0) (kd := a1) hM (N := N) (by rw [f1 34 (by decide)]; exact hr.2.1.2.1) hr.2.1.2.2
    have mc : mLn (k_add I (J 0 0) N (nI l) a1) a0 ∧ (0 ≤ a1 ∧ a1 ≤ 1) ∧ N < 60 := ⟨by unfold mLn; rw [f1 33 (by decide)]; exact c1.mp q.1, e.mp q.2.1, q.2.2⟩
    rw [if_pos mc, if_pos mc, ← hJ, e2] at m
    rw [e2] at k
    rw [e2]
    refine ⟨3, 1, _, _, _, by decide, by decide, k, m, inv_same h0 hsl ((op_come hr q.2.2 hl).mono (by omega)) ?_ (fun t q N _ hq hs => (hs.cg hq (ek_of hq f1 f2)).mono (by omega))⟩
    rw [f2.1 35 (by decide) (by decide), f1 35 (by decide)]
  · rw [if_neg q, if_neg q] at k
    have m := c_come (g := g) (n := n) (z := z) (J := J) (v := a0) (kd := a1) hM hr.2.1.2.1 hr.2.1.2.2
    have mc : ¬ (mLn I a0 ∧ (0 ≤ a1 ∧ a1 ≤ 1) ∧ N < 60) := fun w => q ⟨c1.mpr w.1, e.mpr w.2.1, w.2.2⟩
    rw [if_neg mc, if_neg mc] at m
    exact ⟨3, 1, _, _, _, by decide, by decide, k, m, inv_id h0⟩)
theorem o_light (a0 a1 a2 : Int32) : OpL g Inv0 M_C_light M_M_light [.int a0, .int a1, .int a2] := ol_of (fun j n z S I J R hj h => by
  have h0 := h
  obtain ⟨hC, hM, hJ, hn, hap, N, nl, nc, ns, nn, L, hr, hsl⟩ := h
  have t1 := hr.1.1
  obtain ⟨c1, c2⟩ := isPl_iff hr (v := a0)
  have k := k_lightC (g := g) (n := n) (z := z) (J := J) (p := a0) (r := a1) (c := a2) hC t1.1 t1.2.2
  have e : (isPl I a0 ∧ (¬ a2 < 1 ∧ ¬ 2000 < a2) ∧ (¬ a1 < 0 ∧ ¬ a2 < a1) ∧ nl < 4) ↔ ((mPl I a0 ∧ (1 ≤ a2 ∧ a2 ≤ 2000) ∧ (0 ≤ a1 ∧ a1 ≤ a2)) ∧ nl < 4) := by
    rw [c1, n_lt, n_lt, n_lt, n_lt]
    exact ⟨fun w => ⟨⟨w.1, w.2.1, w.2.2.1⟩, w.2.2.2⟩, fun w => ⟨w.1.1, w.1.2.1, w.1.2.2, w.2⟩⟩
  by_cases q : isPl I a0 ∧ (¬ a2 < 1 ∧ ¬ 2000 < a2) ∧ (¬ a1 < 0 ∧ ¬ a2 < a1) ∧ nl < 4
  · rw [bI_t q, if_pos q] at k
    have m := c_light (g := g) (n := n) (z := z) (I := k_aL I nl a0 a1 a2) (J := J) (p := a0) (r := a1) (c := a2) hM (k := nl) t1.2.1 t1.2.2
    have mc : (mPl (k_aL I nl a0 a1 a2) a0 ∧ (1 ≤ a2 ∧ a2 ≤ 2000) ∧ (0 ≤ a1 ∧ a1 ≤ a2)) ∧ nl < 4 := e.mp q
    rw [bI_t mc, if_pos mc] at m
    have hc : 0 < a2.toInt := by
      have := q.2.1.1
      rw [ti_lt, show (1 : Int32).toInt = 1 by decide] at this
      omega
    have hop : ∀ N' M A B, Rel A B N' nl nc ns nn L M → Rel (k_aL A nl a0 a1 a2) (m_aL B nl a0 a1 a2) N' (nl + 1) nc ns nn L M := fun N' M A B hx => rel_aL hx q.2.2.2 (c2 q.1) hc
    exact ⟨1, 2, _, _, _, by decide, by decide, k, m, inv_same h0 hsl ((ad_cur (adk_L nl a0 a1 a2) (adm_L nl a0 a1 a2) hr (hop _ _)).mono (by omega)) rfl (fun t q N _ hq hs => (ad_slot (adk_L nl a0 a1 a2) (adm_L nl a0 a1 a2) hq hs (hop _ _) (fun j _ => aL_34 _ nl a0 a1 a2 j)).mono (by omega))⟩
  · rw [bI_f q, if_neg q] at k
    have m := c_light (g := g) (n := n) (z := z) (J := J) (p := a0) (r := a1) (c := a2) hM t1.2.1 t1.2.2
    rw [bI_f (fun w => q (e.mpr w)), if_neg (fun w => q (e.mpr w))] at m
    exact ⟨1, 2, _, _, _, by decide, by decide, k, m, inv_id h0⟩)
theorem o_close (a0 a1 a2 a3 : Int32) : OpL g Inv0 M_C_close M_M_close [.int a0, .int a1, .int a2, .int a3] := ol_of (fun j n z S I J R hj h => by
  have h0 := h
  obtain ⟨hC, hM, hJ, hn, hap, N, nl, nc, ns, nn, L, hr, hsl⟩ := h
  have t2 := hr.1.2.1
  obtain ⟨c1, c2⟩ := isPl_iff hr (v := a1)
  have cl := (isLn_iff hr (v := a0)).1
  have k := k_closeC (g := g) (n := n) (z := z) (J := J) (l := a0) (p := a1) (f := a2) (t := a3) hC t2.1 t2.2.2
  have e : (isLn I a0 ∧ isPl I a1 ∧ (¬ a2 < 0 ∧ ¬ a3 < a2) ∧ nc < 6) ↔ ((mLn I a0 ∧ mPl I a1 ∧ ¬ a2 < 0 ∧ ¬ a3 < a2) ∧ nc < 6) := by
    rw [c1, cl]
    exact ⟨fun w => ⟨⟨w.1, w.2.1, w.2.2.1⟩, w.2.2.2⟩, fun w => ⟨w.1.1, w.1.2.1, w.1.2.2, w.2⟩⟩
  by_cases q : isLn I a0 ∧ isPl I a1 ∧ (¬ a2 < 0 ∧ ¬ a3 < a2) ∧ nc < 6
  · rw [bI_t q, if_pos q] at k
    have m := c_close (g := g) (n := n) (z := z) (I := k_aC I nc a0 a1 a2 a3) (J := J) (l := a0) (p := a1) (f := a2) (t := a3) hM (k := nc) t2.2.1 t2.2.2
    have mc : (mLn (k_aC I nc a0 a1 a2 a3) a0 ∧ mPl (k_aC I nc a0 a1 a2 a3) a1 ∧ ¬ a2 < 0 ∧ ¬ a3 < a2) ∧ nc < 6 := e.mp q
    rw [bI_t mc, if_pos mc] at m
    have hop : ∀ N' M A B, Rel A B N' nl nc ns nn L M → Rel (k_aC A nc a0 a1 a2 a3) (m_aC B nc a0 a1 a2 a3) N' nl (nc + 1) ns nn L M := fun N' M A B hx => rel_aC hx q.2.2.2 (c2 q.2.1)
    exact ⟨1, 2, _, _, _, by decide, by decide, k, m, inv_same h0 hsl ((ad_cur (adk_C nc a0 a1 a2 a3) (adm_C nc a0 a1 a2 a3) hr (hop _ _)).mono (by omega)) rfl (fun t q N _ hq hs => (ad_slot (adk_C nc a0 a1 a2 a3) (adm_C nc a0 a1 a2 a3) hq hs (hop _ _) (fun j _ => aC_34 _ nc a0 a1 a2 a3 j)).mono (by omega))⟩
  · rw [bI_f q, if_neg q] at k
    have m := c_close (g := g) (n := n) (z := z) (J := J) (l := a0) (p := a1) (f := a2) (t := a3) hM t2.2.1 t2.2.2
    rw [bI_f (fun w => q (e.mpr w)), if_neg (fun w => q (e.mpr w))] at m
    exact ⟨1, 2, _, _, _, by decide, by decide, k, m, inv_id h0⟩)
theorem o_stop (a0 a1 : Int32) : OpL g Inv0 M_C_stop M_M_stop [.int a0, .int a1] := ol_of (fun j n z S I J R hj h => by
  have h0 := h
  obtain ⟨hC, hM, hJ, hn, hap, N, nl, nc, ns, nn, L, hr, hsl⟩ := h
  have t3 := hr.1.2.2.1
  obtain ⟨c1, c2⟩ := isPl_iff hr (v := a0)
  have k := k_stopC (g := g) (n := n) (z := z) (J := J) (p := a0) (c := a1) hC t3.1 t3.2.2
  have e : (isPl I a0 ∧ (¬ a1 < 1 ∧ ¬ 500 < a1) ∧ ns < 4) ↔ ((mPl I a0 ∧ (1 ≤ a1 ∧ a1 ≤ 500)) ∧ ns < 4) := by
    rw [c1, n_lt, n_lt]
    exact ⟨fun w => ⟨⟨w.1, w.2.1⟩, w.2.2⟩, fun w => ⟨w.1.1, w.1.2, w.2⟩⟩
  by_cases q : isPl I a0 ∧ (¬ a1 < 1 ∧ ¬ 500 < a1) ∧ ns < 4
  · rw [bI_t q, if_pos q] at k
    have m := c_stop (g := g) (n := n) (z := z) (I := k_aS I ns a0 a1) (J := J) (p := a0) (c := a1) hM (k := ns) t3.2.1 t3.2.2
    have mc : (mPl (k_aS I ns a0 a1) a0 ∧ (1 ≤ a1 ∧ a1 ≤ 500)) ∧ ns < 4 := e.mp q
    rw [bI_t mc, if_pos mc] at m
    have hc : 1 ≤ a1.toInt := by
      have := q.2.1.1
      rw [ti_lt, show (1 : Int32).toInt = 1 by decide] at this
      omega
    have hop : ∀ N' M A B, Rel A B N' nl nc ns nn L M → Rel (k_aS A ns a0 a1) (m_aS B ns a0 a1) N' nl nc (ns + 1) nn L M := fun N' M A B hx => rel_aS hx q.2.2 (c2 q.1) hc
    exact ⟨1, 2, _, _, _, by decide, by decide, k, m, inv_same h0 hsl ((ad_cur (adk_S ns a0 a1) (adm_S ns a0 a1) hr (hop _ _)).mono (by omega)) rfl (fun t q N _ hq hs => (ad_slot (adk_S ns a0 a1) (adm_S ns a0 a1) hq hs (hop _ _) (fun j _ => aS_34 _ ns a0 a1 j)).mono (by omega))⟩
  · rw [bI_f q, if_neg q] at k
    have m := c_stop (g := g) (n := n) (z := z) (J := J) (p := a0) (c := a1) hM t3.2.1 t3.2.2
    rw [bI_f (fun w => q (e.mpr w)), if_neg (fun w => q (e.mpr w))] at m
    exact ⟨1, 2, _, _, _, by decide, by decide, k, m, inv_id h0⟩)
theorem o_line (a0 : Int32) : OpL g Inv0 M_C_line M_M_line [.int a0] := ol_of (fun j n z S I J R hj h => by
  have h0 := h
  obtain ⟨hC, hM, hJ, hn, hap, N, nl, nc, ns, nn, L, hr, hsl⟩ := h
  have t4 := hr.1.2.2.2.1
  obtain ⟨c1, c2⟩ := isPl_iff hr (v := a0)
  have k := k_lineC (g := g) (n := n) (z := z) (J := J) (p := a0) hC t4.1 t4.2.2
  have e : (isPl I a0 ∧ nn < 4) ↔ (mPl I a0 ∧ nn < 4) := by rw [c1]
  by_cases q : isPl I a0 ∧ nn < 4
  · rw [if_pos q, if_pos q] at k
    have m := c_line (g := g) (n := n) (z := z) (I := k_aN I nn a0) (J := J) (p := a0) hM (k := nn) t4.2.1 t4.2.2
    have mc : mPl (k_aN I nn a0) a0 ∧ nn < 4 := e.mp q
    rw [if_pos mc, if_pos mc] at m
    have hop : ∀ N' M A B, Rel A B N' nl nc ns nn L M → Rel (k_aN A nn a0) (m_aN B nn a0) N' nl nc ns (nn + 1) L M := fun N' M A B hx => rel_aN hx q.2
    exact ⟨1, 2, _, _, _, by decide, by decide, k, m, inv_same h0 hsl ((ad_cur (adk_N nn a0) (adm_N q.2 a0) hr (hop _ _)).mono (by omega)) ((adm_N q.2 a0).2.1 _ 35 (by decide)) (fun t q2 N _ hq hs => (ad_slot (adk_N nn a0) (adm_N q.2 a0) hq hs (hop _ _) (fun j _ => aN_34 hs q.2 a0 j)).mono (by omega))⟩
  · rw [if_neg q, if_neg q] at k
    have m := c_line (g := g) (n := n) (z := z) (J := J) (p := a0) hM t4.2.1 t4.2.2
    rw [if_neg (fun w => q (e.mpr w)), if_neg (fun w => q (e.mpr w))] at m
    exact ⟨1, 2, _, _, _, by decide, by decide, k, m, inv_id h0⟩)
theorem sl_iff {v : Int32} : isSl v ↔ 0 ≤ v ∧ v ≤ 1 := by
  unfold isSl
  rw [n_lt, ti_lt, ti_le, ti_le, show (2 : Int32).toInt = 2 by decide, show (1 : Int32).toInt = 1 by decide]
  omega
theorem o_back (a0 : Int32) : OpL g Inv0 M_C_back M_M_back [.int a0] := ol_of (fun j n z S I J R hj h => by
  have h0 := h
  obtain ⟨hC, hM, hJ, hn, hap, N, nl, nc, ns, nn, L, hr, hsl⟩ := h
  by_cases q : isSl a0
  · obtain ⟨t, ht, e⟩ := isSl_of q
    have et : a0.toNatClampNeg = t := by rw [e, cl_nI (by omega)]
    rcases hsl t ht with ⟨s1, s2⟩ | ⟨p, N', s1, s2, s3, s4, s5⟩
    · have k := k_backBad (g := g) (n := n) (z := z) (I := I) (J := J) (v := a0) hC (.inr (by rw [et]; exact s1))
      have m := c_back (g := g) (n := n) (z := z) (I := I) (J := J) (v := a0) hM
      rw [if_neg (fun w => w.2 (by rw [et]; exact s2)), if_neg (fun w => w.2 (by rw [et]; exact s2))] at m
      exact ⟨4, 1, _, _, _, by decide, by decide, k, m, inv_id h0⟩
    · have k := k_backOk (g := g) (n := n) (z := z) (I := I) (J := J) hC ht s1 s2
      obtain ⟨r1, r2⟩ := op_back s3.1 s5
      have c0 := (cps_at (I := I) (a := 13) (b := p) (by omega)).1
      have m := c_back (g := g) (n := n) (z := z) (I := k_cpS I 13 p) (J := J) (v := a0) hM
      have mc : (0 ≤ a0 ∧ a0 ≤ 1) ∧ ¬ k_cpS I 13 p 35 a0.toNatClampNeg = 0 := ⟨sl_iff.mp q, by rw [et, c0 35 (by decide)]; exact s4⟩
      rw [if_pos mc, if_pos mc, et, ← r1, e] at m
      rw [e]
      refine ⟨4, 1, _, _, _, by decide, by decide, k, m, inv_same h0 hsl (r2.mono (by omega)) ?_ (fun t2 q2 N2 _ hq hs => (hs.cg hq (ek_back s3.1 hq)).mono (by omega))⟩
      rw [(mb_at (k_cpS I 13 p) t 1300 (Nat.le_refl _)).1 35 (by decide), c0 35 (by decide)]
  · have k := k_backBad (g := g) (n := n) (z := z) (I := I) (J := J) (v := a0) hC (.inl q)
    have m := c_back (g := g) (n := n) (z := z) (I := I) (J := J) (v := a0) hM
    rw [if_neg (fun w => q (sl_iff.mpr w.1)), if_neg (fun w => q (sl_iff.mpr w.1))] at m
    exact ⟨4, 1, _, _, _, by decide, by decide, k, m, inv_id h0⟩)
theorem nIS_at (I : Nat → Nat → Int32) (b : Nat) {k : Nat} (h : k < b + 1 ∨ b + 19 ≤ k) : nIS I b k = I k := by
  unfold nIS nIR nIC
  simp only [up_if]
  repeat rw [if_neg (by omega)]
theorem nJS_at (J : Nat → Nat → Int64) (b : Nat) {k : Nat} (h : k < b + 1 ∨ b + 19 ≤ k) : nJS J b k = J k := by
  unfold nJS
  simp only [up_if]
  repeat rw [if_neg (by omega)]
theorem o_save (a0 : Int32) : OpL g Inv0 M_C_save M_M_save [.int a0] := by
  intro j h hj hI
  obtain ⟨n, z, S, I, J, R⟩ := h
  have h0 : InvC j n z S I J R := hI
  clear hI
  have h := h0
  obtain ⟨hC, hM, hJ, hn, hap, N, nl, nc, ns, nn, L, hr, hsl⟩ := h
  have t4 := hr.1.2.2.2.1
  by_cases q : isSl a0
  · obtain ⟨t, ht, e⟩ := isSl_of q
    have et : a0.toNatClampNeg = t := by rw [e, cl_nI (by omega)]
    have hother : ∀ (S' : Nat → Nat × Nat) (I2 : Nat → Nat → Int32) (R' : Nat → Nat → Option Nat) (n' : Nat), n ≤ n' → (∀ t2, t2 ≠ t → R' 32 t2 = R 32 t2 ∧ I2 35 t2 = I 35 t2) → (∀ q2, 47 ≤ q2 → q2 + 19 ≤ n → ShS S R q2 → ShS S' R' q2) → (∀ t2 q2, t2 < 2 → t2 ≠ t → R 32 t2 = some q2 → 47 ≤ q2 → q2 + 19 ≤ n → EK I I2 t2 q2) → ∀ t2, t2 < 2 → t2 ≠ t → SlotOk n' S' I2 R' nl nc ns nn L ((1000 * (j + 1) : Nat) : Int) t2 := by
      intro S' I2 R' n' hnn h32 hsh hek t2 ht2 hne
      rcases hsl t2 ht2 with ⟨s1, s2⟩ | ⟨p, N', s1, s2, s3, s4, s5⟩
      · exact .inl ⟨by rw [(h32 t2 hne).1]; exact s1, by rw [(h32 t2 hne).2]; exact s2⟩
      · exact .inr ⟨p, N', by rw [(h32 t2 hne).1]; exact s1, hsh p s3.1 s3.2 s2, ⟨s3.1, by omega⟩, by rw [(h32 t2 hne).2]; exact s4, (s5.cg s3.1 (hek t2 p ht2 hne s1 s3.1 s3.2)).mono (by omega)⟩
    rcases hsl t ht with ⟨s1, s2⟩ | ⟨p, N', s1, s2, s3, s4, s5⟩
    · have hn47 : 47 ≤ n := by omega
      have k := k_saveNew (g := g) (n := n) (z := z) (S := S) (I := I) (J := J) (R := R) hC ht hn47 s1
      have hI0 : ∀ k, k < n → nIS (va_up I n (fun _ => 0)) n k = I k := fun k hk => by rw [nIS_at _ _ (by omega), va_up_ne _ _ (by omega)]
      have hJ0 : ∀ k, k < n → nJS (va_up J n (fun _ => 0)) n k = J k := fun k hk => by rw [nJS_at _ _ (by omega), va_up_ne _ _ (by omega)]
      have hS0 : ∀ k, k < n → nSS (va_up S n (0, 4)) n k = S k := fun k hk => by rw [nSS_at _ _ (by omega), va_up_ne _ _ (by omega)]
      have hR0 : ∀ k, k < n → k ≠ 32 → wrR (nRS (va_up R n (fun _ => none)) n) 32 t n k = R k := fun k hk h2 => by rw [wrR_ne _ h2, nRS_at _ _ (by omega), va_up_ne _ _ (by omega)]
      have hR32 : ∀ t2, wrR (nRS (va_up R n (fun _ => none)) n) 32 t n 32 t2 = if t2 = t then some n else R 32 t2 := fun t2 => by
        rw [wrR_at, nRS_at _ _ (by omega), va_up_ne _ _ (by omega)]
        exact ite_cg ⟨fun w => w.2, fun w => ⟨rfl, w⟩⟩
      have hSn : ShS (nSS (va_up S n (0, 4)) n) (wrR (nRS (va_up R n (fun _ => none)) n) 32 t n) n := (ShS.new (va_up S n (0, 4)) (va_up R n (fun _ => none)) n (va_up_self _ _ _)).mono (fun _ _ _ => rfl) (fun k a b => wrR_ne _ (by omega))
      generalize nIS (va_up I n (fun _ => 0)) n = I0 at k hI0
      generalize nJS (va_up J n (fun _ => 0)) n = J' at k hJ0
      generalize nSS (va_up S n (0, 4)) n = S' at k hS0 hSn
      generalize wrR (nRS (va_up R n (fun _ => none)) n) 32 t n = R' at k hR0 hR32 hSn
      have hC' : ShC S' R' := hC.mono (fun k hk => hS0 k (by omega)) (fun k hk => hR0 k (by omega) (by omega))
      have hM' : ShM S' R' := hM.mono (fun k _ hk => hS0 k (by omega)) (hR0 33 (by omega) (by decide))
      have c0 := (cps_at (I := I0) (a := n) (b := 13) (by omega)).1
      have m := c_save (g := g) (n := n + 19) (z := z + 1121) (I := k_cpS I0 n 13) (J := J') (v := a0) hM' (nn := nn) (by rw [c0 33 (by omega), hI0 33 (by omega)]; exact t4.2.1) t4.2.2
      obtain ⟨r1, r2, r3⟩ := op_save (t := t) hn47 (fun k hk => hI0 k (by omega)) hr
      have mc := sl_iff.mp q
      rw [if_pos mc, if_pos mc, et, ← r1, e] at m
      rw [e]
      obtain ⟨m1, m2, -⟩ := ms_at (k_cpS I0 n 13) t t4.2.2
      have h32n : ∀ t2, t2 ≠ t → R' 32 t2 = R 32 t2 := fun t2 w => by rw [hR32, if_neg w]
      have hkept : kept R' = kept R + 1 := by
        unfold kept
        rcases (show t = 0 ∨ t = 1 by omega) with w | w
        · subst w
          rw [hR32 0, if_pos rfl, h32n 1 (by decide), s1, if_neg (by simp), if_pos rfl]
          omega
        · subst w
          rw [hR32 1, if_pos rfl, h32n 0 (by decide), s1]
          simp
      refine ⟨4, 1, 19, 1121, _, _, _, by decide, by decide, k, rfl, rfl, hM'.1.1, m, rfl, rfl, hC', hM', ?_, ⟨?_, ?_⟩, ?_, N, nl, nc, ns, nn, L, r2.mono (by omega), fun t2 ht2 => ?_⟩
      · show J' 0 0 = J' 33 0
        rw [hJ0 0 (by omega), hJ0 33 (by omega)]; exact hJ
      · show n + 19 = _
        rw [hkept]; omega
      · show z + 1121 = _
        rw [hkept]; omega
      · intro q0 q1 h1 h2
        have hlt : ∀ t2 q2, t2 < 2 → R 32 t2 = some q2 → q2 + 19 ≤ n := fun t2 q2 w1 w2 => by
          rcases hsl t2 w1 with ⟨z1, -⟩ | ⟨p, -, z1, -, z3, -⟩
          · rw [z1] at w2; exact absurd w2 (by simp)
          · rw [z1] at w2
            injection w2 with w2
            omega
        have h1' : R' 32 0 = some q0 := h1
        have h2' : R' 32 1 = some q1 := h2
        rcases (show t = 0 ∨ t = 1 by omega) with w | w
        · subst w
          rw [hR32 0, if_pos rfl] at h1'
          rw [h32n 1 (by decide)] at h2'
          have := hlt 1 q1 (by decide) h2'
          injection h1' with h1'
          omega
        · subst w
          rw [hR32 1, if_pos rfl] at h2'
          rw [h32n 0 (by decide)] at h1'
          have := hlt 0 q0 (by decide) h1'
          injection h2' with h2'
          omega
      · by_cases w : t2 = t
        · rw [w]
          refine .inr ⟨n, N, by show R' 32 t = some n; rw [hR32, if_pos rfl], hSn, ⟨hn47, Nat.le_refl _⟩, ?_, r3.mono (by omega)⟩
          show ¬ m_save (k_cpS I0 n 13) t nn 35 t = 0
          rw [m2, if_pos rfl]; decide
        · refine hother S' _ R' (n + 19) (by omega) (fun t3 h3 => ⟨h32n t3 h3, ?_⟩) (fun q2 a b hs => hs.mono (fun k a2 b2 => hS0 k (by omega)) (fun k a2 b2 => hR0 k (by omega) (by omega))) (fun t3 q2 h3 h4 h5 a b => ek_save t4.2.2 hn47 a (by omega) h4 (fun k hk => hI0 k (by omega))) t2 ht2 w
          show m_save (k_cpS I0 n 13) t nn 35 t3 = I 35 t3
          rw [m2, if_neg h3, c0 35 (by omega), hI0 35 (by omega)]
    · have k := k_saveOld (g := g) (n := n) (z := z) (I := I) (J := J) hC ht s1 s2
      have c0 := (cps_at (I := I) (a := p) (b := 13) (by omega)).1
      have m := c_save (g := g) (n := n) (z := z) (I := k_cpS I p 13) (J := J) (v := a0) hM (nn := nn) (by rw [c0 33 (by omega)]; exact t4.2.1) t4.2.2
      obtain ⟨r1, r2, r3⟩ := op_save (t := t) s3.1 (fun _ _ => rfl) hr
      have mc := sl_iff.mp q
      rw [if_pos mc, if_pos mc, et, ← r1, e] at m
      rw [e]
      obtain ⟨m1, m2, -⟩ := ms_at (k_cpS I p 13) t t4.2.2
      refine ⟨4, 1, 0, 0, _, _, _, by decide, by decide, k, rfl, rfl, hM.1.1, m, rfl, rfl, hC, hM, hJ, hn, hap, N, nl, nc, ns, nn, L, r2.mono (by omega), fun t2 ht2 => ?_⟩
      by_cases w : t2 = t
      · rw [w]
        refine .inr ⟨p, N, s1, s2, s3, ?_, r3.mono (by omega)⟩
        show ¬ m_save (k_cpS I p 13) t nn 35 t = 0
        rw [m2, if_pos rfl]; decide
      · refine hother S _ R n (Nat.le_refl _) (fun t3 h3 => ⟨rfl, ?_⟩) (fun q2 a b hs => hs) (fun t3 q2 h3 h4 h5 a b => ek_save t4.2.2 s3.1 a ?_ h4 (fun _ _ => rfl)) t2 ht2 w
        · show m_save (k_cpS I p 13) t nn 35 t3 = I 35 t3
          rw [m2, if_neg h3, c0 35 (by omega)]
        · rcases (show (t = 0 ∧ t3 = 1) ∨ (t = 1 ∧ t3 = 0) by omega) with w2 | w2
          · exact hap p q2 (by rw [← w2.1]; exact s1) (by rw [← w2.2]; exact h5)
          · exact (hap q2 p (by rw [← w2.2]; exact h5) (by rw [← w2.1]; exact s1)).symm
  · have k := k_saveBad (g := g) (n := n) (z := z) (I := I) (J := J) hC q
    have m := c_save (g := g) (n := n) (z := z) (I := I) (J := J) (v := a0) hM t4.2.1 t4.2.2
    rw [if_neg (fun w => q (sl_iff.mpr w)), if_neg (fun w => q (sl_iff.mpr w))] at m
    exact ⟨4, 1, 0, 0, _, _, _, by decide, by decide, k, rfl, rfl, hM.1.1, m, rfl, rfl, inv_id h0⟩
theorem o_all : OpA g Inv0 := ⟨o_come, o_light, o_close, o_stop, o_line, o_run, o_told, o_drawn, o_gap, o_counted, o_times, o_many, o_waiting, o_ordered, o_save, o_back, o_count⟩
end
