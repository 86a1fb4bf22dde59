/-! pure: the states that are kept -/
theorem ea_cps {A I : Nat → Nat → Int32} {q : Nat} (hq : 32 ≤ q) (h0 : ∀ k, k ≤ 12 → I k = A k) (h1 : ∀ j, 4 ≤ j → j ≤ 7 → I q j = A 13 j) (h2 : I (q + 1) 12 = A 14 12) (h3 : ∀ i, 2 ≤ i → i ≤ 12 → ∀ c, c < 60 → I (q + i) c = A (13 + i) c) (h4 : ∀ c, c < 240 → I (q + 13) c = A 26 c) (h5 : ∀ c, c < 180 → I (q + 15) c = A 28 c) (h6 : ∀ c, c < 3 → I (q + 16) c = A 29 c ∧ I (q + 17) c = A 30 c) (h7 : ∀ c, c < 12 → I (q + 18) c = A 31 c) : EA A (k_cpS I 13 q) := by
  obtain ⟨c0, c1, c2, c3, c4, c5, c6, c7⟩ := cps_at (I := I) (a := 13) (b := q) (by omega)
  refine ⟨fun k hk => (c0 k (by omega)).trans (h0 k hk), fun j a b => (c1 j a b).trans (h1 j a b), c2.trans h2, fun k a b c hc => ?_, fun i hi => (c4 i hi).trans (h4 i hi), fun i hi => (c5 i hi).trans (h5 i hi), fun l hl => ⟨(c6 l hl).1.trans (h6 l hl).1, (c6 l hl).2.trans (h6 l hl).2⟩, fun i hi => (c7 i hi).trans (h7 i hi)⟩
  obtain ⟨i, rfl⟩ : ∃ i, k = 13 + i := ⟨k - 13, by omega⟩
  exact (c3 i (by omega) (by omega) c hc).trans (h3 i (by omega) (by omega) c hc)
theorem eb_mb {B I : Nat → Nat → Int32} {t : Nat} (h1 : ∀ k, 33 ≤ k → k ≤ 45 → k ≠ 34 → k ≠ 35 → I k = B k) (h2 : ∀ j, j < 1220 → I 34 (1300 * (t + 1) + j) = B 34 j) : EB B (m_back I t 1300) := by
  obtain ⟨b1, b2⟩ := mb_at I t 1300 (Nat.le_refl _)
  refine ⟨fun k a b c d => (b1 k c).trans (h1 k a b c d), fun j hj => ?_⟩
  rw [b2, if_pos (by omega)]
  exact h2 j hj
/-- what 'back' would bring -/
def SR (I : Nat → Nat → Int32) (t q N nl nc ns nn L : Nat) (M : Int) : Prop := Rel (k_cpS I 13 q) (m_back I t 1300) N nl nc ns nn L M
/-- the parts of the heap that a kept state and the fixed things lie in -/
def EK (I I' : Nat → Nat → Int32) (t q : Nat) : Prop := (∀ k, k ≤ 12 → I' k = I k) ∧ (∀ k, q ≤ k → k < q + 19 → I' k = I k) ∧ (∀ k, 33 ≤ k → k ≤ 45 → k ≠ 34 → k ≠ 35 → I' k = I k) ∧ (∀ j, 1300 * (t + 1) ≤ j → j < 1300 * (t + 2) → I' 34 j = I 34 j)
theorem ea_self {I I' : Nat → Nat → Int32} {q : Nat} (hq : 32 ≤ q) (h1 : ∀ k, k ≤ 12 → I' k = I k) (h2 : ∀ k, q ≤ k → k < q + 19 → I' k = I k) : EA (k_cpS I 13 q) (k_cpS I' 13 q) := by
  obtain ⟨c0, c1, c2, c3, c4, c5, c6, c7⟩ := cps_at (I := I) (a := 13) (b := q) (by omega)
  refine ea_cps hq (fun k hk => (h1 k hk).trans (c0 k (by omega)).symm) (fun j a b => by rw [h2 q (by omega) (by omega)]; exact (c1 j a b).symm) (by rw [h2 (q + 1) (by omega) (by omega)]; exact c2.symm) (fun i a b c hc => by rw [h2 (q + i) (by omega) (by omega)]; exact (c3 i a b c hc).symm) (fun c hc => by rw [h2 (q + 13) (by omega) (by omega)]; exact (c4 c hc).symm) (fun c hc => by rw [h2 (q + 15) (by omega) (by omega)]; exact (c5 c hc).symm) (fun c hc => by rw [h2 (q + 16) (by omega) (by omega), h2 (q + 17) (by omega) (by omega)]; exact ⟨(c6 c hc).1.symm, (c6 c hc).2.symm⟩) (fun c hc => by rw [h2 (q + 18) (by omega) (by omega)]; exact (c7 c hc).symm)
theorem SR.cg {I I' : Nat → Nat → Int32} {t q N nl nc ns nn L : Nat} {M : Int} (hq : 47 ≤ q) (e : EK I I' t q) (h : SR I t q N nl nc ns nn L M) : SR I' t q N nl nc ns nn L M := by
  obtain ⟨e1, e2, e3, e4⟩ := e
  obtain ⟨b1, b2⟩ := mb_at I t 1300 (Nat.le_refl _)
  refine Rel.cg (ea_self (by omega) e1 e2) (eb_mb (fun k a b c d => (e3 k a b c d).trans (b1 k c).symm) (fun j hj => ?_)) h
  rw [e4 _ (by omega) (by omega), b2, if_pos (by omega)]
theorem Rel.cur {I I1 I2 : Nat → Nat → Int32} {N nl nc ns nn L : Nat} {M : Int} (h : Rel I1 I2 N nl nc ns nn L M) (h2 : ∀ k, k < 32 → I2 k = I1 k) : Rel I2 I2 N nl nc ns nn L M := h.cg (EA.of h2) (EB.of (fun _ _ _ => rfl))
theorem Rel.nxt {I I1 : Nat → Nat → Int32} {N nl nc ns nn L : Nat} {M : Int} (h : Rel I I N nl nc ns nn L M) (h2 : ∀ k, 33 ≤ k → I1 k = I k) : Rel I I1 N nl nc ns nn L M := h.cg (EA.of (fun _ _ => rfl)) (EB.of (fun k a _ => h2 k a))
theorem ek_of {I I1 I2 : Nat → Nat → Int32} {t q : Nat} (hq : 47 ≤ q) (h1 : Fr I1 I) (h2 : Fm I2 I1) : EK I I2 t q := by
  refine ⟨fun k hk => (h2.1 k (by omega) (by omega)).trans (h1 k (by omega)), fun k a b => (h2.1 k (by omega) (by omega)).trans (h1 k (by omega)), fun k a b c d => (h2.1 k c (by omega)).trans (h1 k (by omega)), fun j a b => ?_⟩
  rw [h2.2 j (by omega), h1 34 (by omega)]
/-- a run -/
theorem op_run {I : Nat → Nat → Int32} {N nl nc ns nn L s : Nat} {M : Int} (h : Rel I I N nl nc ns nn L M) (hM : M + s < 2147483647) : Rel I (k_run I N nl nc ns nn L s) N nl nc ns nn L M ∧ Fm (m_run (k_run I N nl nc ns nn L s) N nl nc ns nn L s) (k_run I N nl nc ns nn L s) ∧ k_run I N nl nc ns nn L s 13 4 = m_run (k_run I N nl nc ns nn L s) N nl nc ns nn L s 34 1 ∧ Rel (m_run (k_run I N nl nc ns nn L s) N nl nc ns nn L s) (m_run (k_run I N nl nc ns nn L s) N nl nc ns nn L s) N nl nc ns nn L (M + s) := by
  have f1 := fr_run I N nl nc ns nn L s
  have h1 : Rel I (k_run I N nl nc ns nn L s) N nl nc ns nn L M := h.nxt (fun k hk => f1 k (by omega))
  have h2 := rel_run s h1 hM
  have f2 := fm_run h1 s hM
  exact ⟨h1, f2, h2.2.2.1.1.symm, Rel.cur (I := I) h2 (fun k hk => f2.1 k (by omega) (by omega))⟩
theorem fr_add (I : Nat → Nat → Int32) (seed : Int64) (N : Nat) (ln kd : Int32) : Fr (k_add I seed N ln kd) I := by
  unfold k_add k_drw k_ad0
  have h : Fr I I := fun _ _ => rfl
  exact ((((((((((((h.wr (by decide)).wr (by decide)).wr (by decide)).wr (by decide)).wr (by decide)).wr (by decide)).wr (by decide)).wr (by decide)).wr (by decide)).wr (by decide)).wr (by decide)).wr (by decide))
theorem fm_z {X I : Nat → Nat → Int32} (h : Fm X I) {i : Nat} (hi : i < 60) : ∀ n, n ≤ 20 → Fm (m_z X i n) I
  | 0, _ => h
  | n + 1, hn => (fm_z h hi n (by omega)).mp hi (by omega)
theorem fm_come (I : Nat → Nat → Int32) (seed : Int64) {N : Nat} (ln kd : Int32) (hN : N < 60) : Fm (m_come I seed N ln kd) I := by
  unfold m_come m_c4 m_c3
  exact ((((((((fm_z ⟨fun _ _ _ => rfl, fun _ _ => rfl⟩ hN 20 (by decide)).mp hN (by decide)).mp hN (by decide)).mp hN (by decide)).mp hN (by decide)).mp hN (by decide)).mp hN (by decide)).mp hN (by decide)).mci (by decide)
theorem op_come {I : Nat → Nat → Int32} {N nl nc ns nn L l : Nat} {M : Int} {kd : Int32} {seed : Int64} (h : Rel I I N nl nc ns nn L M) (hN : N < 60) (hl : l < L) : Rel (m_come (k_add I seed N (nI l) kd) seed N (nI l) kd) (m_come (k_add I seed N (nI l) kd) seed N (nI l) kd) (N + 1) nl nc ns nn L M := by
  have f1 := fr_add I seed N (nI l) kd
  have f2 := fm_come (k_add I seed N (nI l) kd) seed (nI l) kd hN
  exact Rel.cur (I := I) (rel_come (h.nxt (fun k hk => f1 k (by omega))) hN hl) (fun k hk => f2.1 k (by omega) (by omega))
theorem wr_cg {X Y : Nat → Nat → Int32} {k a i : Nat} {v : Int32} (h : X k = Y k) : wr X a i v k = wr Y a i v k := by
  funext j
  rw [wr_at, wr_at, h]
/-- adders: class and reference, now and in a kept state -/
def AdK (f : (Nat → Nat → Int32) → Nat → Nat → Int32) : Prop := (∀ X Y k, X k = Y k → f X k = f Y k) ∧ ∀ X k, 13 ≤ k → f X k = X k
def AdM (f : (Nat → Nat → Int32) → Nat → Nat → Int32) : Prop := (∀ X Y k, X k = Y k → f X k = f Y k) ∧ (∀ X k, k < 33 ∨ 46 ≤ k ∨ k = 35 → f X k = X k) ∧ ∀ X j, 1300 ≤ j → f X 34 j = X 34 j
theorem adk_L (k : Nat) (p r c : Int32) : AdK (fun X => k_aL X k p r c) := ⟨fun X Y a h => wr_cg (wr_cg (wr_cg (wr_cg h))), fun X a h => by
  show wr _ _ _ _ a = _
  rw [wr_ne _ _ _ (by omega), wr_ne _ _ _ (by omega), wr_ne _ _ _ (by omega), wr_ne _ _ _ (by omega)]⟩
theorem adk_C (k : Nat) (l p f t : Int32) : AdK (fun X => k_aC X k l p f t) := ⟨fun X Y a h => wr_cg (wr_cg (wr_cg (wr_cg (wr_cg h)))), fun X a h => by
  show wr _ _ _ _ a = _
  rw [wr_ne _ _ _ (by omega), wr_ne _ _ _ (by omega), wr_ne _ _ _ (by omega), wr_ne _ _ _ (by omega), wr_ne _ _ _ (by omega)]⟩
theorem adk_S (k : Nat) (p d : Int32) : AdK (fun X => k_aS X k p d) := ⟨fun X Y a h => wr_cg (wr_cg (wr_cg h)), fun X a h => by
  show wr _ _ _ _ a = _
  rw [wr_ne _ _ _ (by omega), wr_ne _ _ _ (by omega), wr_ne _ _ _ (by omega)]⟩
theorem adk_N (k : Nat) (p : Int32) : AdK (fun X => k_aN X k p) := ⟨fun X Y a h => wr_cg (wr_cg h), fun X a h => by
  show wr _ _ _ _ a = _
  rw [wr_ne _ _ _ (by omega), wr_ne _ _ _ (by omega)]⟩
theorem adm_L (k : Nat) (p r c : Int32) : AdM (fun X => m_aL X k p r c) := ⟨fun X Y a h => wr_cg (wr_cg (wr_cg (wr_cg h))), fun X a h => by
  show wr _ _ _ _ a = _
  rw [wr_ne _ _ _ (by omega), wr_ne _ _ _ (by omega), wr_ne _ _ _ (by omega), wr_ne _ _ _ (by omega)], fun _ _ _ => rfl⟩
theorem adm_C (k : Nat) (l p f t : Int32) : AdM (fun X => m_aC X k l p f t) := ⟨fun X Y a h => wr_cg (wr_cg (wr_cg (wr_cg (wr_cg h)))), fun X a h => by
  show wr _ _ _ _ a = _
  rw [wr_ne _ _ _ (by omega), wr_ne _ _ _ (by omega), wr_ne _ _ _ (by omega), wr_ne _ _ _ (by omega), wr_ne _ _ _ (by omega)], fun _ _ _ => rfl⟩
theorem adm_S (k : Nat) (p d : Int32) : AdM (fun X => m_aS X k p d) := ⟨fun X Y a h => wr_cg (wr_cg (wr_cg h)), fun X a h => by
  show wr _ _ _ _ a = _
  rw [wr_ne _ _ _ (by omega), wr_ne _ _ _ (by omega), wr_ne _ _ _ (by omega)], fun _ _ _ => rfl⟩
theorem adm_N {k : Nat} (hk : k < 4) (p : Int32) : AdM (fun X => m_aN X k p) := ⟨fun X Y a h => wr_cg (wr_cg (wr_cg (wr_cg (wr_cg h)))), fun X a h => by
  obtain ⟨b1, -⟩ := m_aN_at X k p
  exact b1 a (by omega) (by omega) (by omega), fun X j hj => by
  obtain ⟨-, b2, -⟩ := m_aN_at X k p
  show m_aN X k p 34 j = _
  rw [b2, if_neg (by omega)]⟩
theorem ad_cur {fk fm : (Nat → Nat → Int32) → Nat → Nat → Int32} (hk : AdK fk) (hm : AdM fm) {I : Nat → Nat → Int32} {N nl nc ns nn L nl' nc' ns' nn' : Nat} {M : Int} (h : Rel I I N nl nc ns nn L M) (hop : ∀ A B, Rel A B N nl nc ns nn L M → Rel (fk A) (fm B) N nl' nc' ns' nn' L M) : Rel (fm (fk I)) (fm (fk I)) N nl' nc' ns' nn' L M :=
  Rel.cur (I := I) (hop I (fk I) (h.nxt (fun k hq => hk.2 I k (by omega)))) (fun k hq => hm.2.1 _ k (by omega))
theorem ad_slot {fk fm : (Nat → Nat → Int32) → Nat → Nat → Int32} (hk : AdK fk) (hm : AdM fm) {I : Nat → Nat → Int32} {t q N nl nc ns nn L nl' nc' ns' nn' : Nat} {M : Int} (hq : 47 ≤ q) (h : SR I t q N nl nc ns nn L M) (hop : ∀ A B, Rel A B N nl nc ns nn L M → Rel (fk A) (fm B) N nl' nc' ns' nn' L M) (h34 : ∀ j, j < 1220 → fm (m_back I t 1300) 34 j = m_back I t 1300 34 j) : SR (fm (fk I)) t q N nl' nc' ns' nn' L M := by
  have h1 := hop _ _ h
  obtain ⟨c0, c1, c2, c3, c4, c5, c6, c7⟩ := cps_at (I := I) (a := 13) (b := q) (by omega)
  obtain ⟨b1, b2⟩ := mb_at I t 1300 (Nat.le_refl _)
  have hi : ∀ k, 47 ≤ k → fm (fk I) k = I k := fun k h => (hm.2.1 _ k (by omega)).trans (hk.2 _ k (by omega))
  have hx : ∀ k, 13 ≤ k → fk (k_cpS I 13 q) k = k_cpS I 13 q k := fun k h => hk.2 _ k h
  refine Rel.cg (ea_cps (by omega) (fun k h => ?_) (fun j a b => ?_) ?_ (fun i a b c hc => ?_) (fun c hc => ?_) (fun c hc => ?_) (fun c hc => ?_) (fun c hc => ?_)) (eb_mb (fun k a b c d => ?_) (fun j hj => ?_)) h1
  · rw [hm.2.1 _ k (by omega)]
    exact hk.1 _ _ k (c0 k (by omega)).symm
  · rw [hi q (by omega), hx 13 (by decide)]; exact (c1 j a b).symm
  · rw [hi (q + 1) (by omega), hx 14 (by decide)]; exact c2.symm
  · rw [hi (q + i) (by omega), hx (13 + i) (by omega)]; exact (c3 i a b c hc).symm
  · rw [hi (q + 13) (by omega), hx 26 (by decide)]; exact (c4 c hc).symm
  · rw [hi (q + 15) (by omega), hx 28 (by decide)]; exact (c5 c hc).symm
  · rw [hi (q + 16) (by omega), hi (q + 17) (by omega), hx 29 (by decide), hx 30 (by decide)]; exact ⟨(c6 c hc).1.symm, (c6 c hc).2.symm⟩
  · rw [hi (q + 18) (by omega), hx 31 (by decide)]; exact (c7 c hc).symm
  · exact hm.1 _ _ k ((hk.2 I k (by omega)).trans (b1 k c).symm)
  · rw [hm.2.2 _ _ (by omega), hk.2 I 34 (by decide), h34 j hj, b2, if_pos (by omega)]
/-- a line's cells in a kept state were 0 -/
theorem aN_34 {A B : Nat → Nat → Int32} {N nl nc ns nn L : Nat} {M : Int} (h : Rel A B N nl nc ns nn L M) (hn : nn < 4) (p : Int32) (j : Nat) : m_aN B nn p 34 j = B 34 j := by
  obtain ⟨-, b2, -⟩ := m_aN_at B nn p
  rw [b2]
  by_cases w : 6 + 3 * nn ≤ j ∧ j < 6 + 3 * nn + 3
  · obtain ⟨q1, q2⟩ := h.2.2.2.1 (j - 6) (by omega)
    rw [if_pos w, show j = 6 + (j - 6) by omega, q1, q2 (by omega)]
  · rw [if_neg w]
/-- back -/
theorem op_back {I : Nat → Nat → Int32} {t q N nl nc ns nn L : Nat} {M : Int} (hq : 47 ≤ q) (h : SR I t q N nl nc ns nn L M) : k_cpS I 13 q 13 4 = m_back (k_cpS I 13 q) t 1300 34 1 ∧ Rel (m_back (k_cpS I 13 q) t 1300) (m_back (k_cpS I 13 q) t 1300) N nl nc ns nn L M := by
  obtain ⟨c0, -⟩ := cps_at (I := I) (a := 13) (b := q) (by omega)
  obtain ⟨b1, b2⟩ := mb_at I t 1300 (Nat.le_refl _)
  obtain ⟨d1, d2⟩ := mb_at (k_cpS I 13 q) t 1300 (Nat.le_refl _)
  have h1 : Rel (k_cpS I 13 q) (m_back (k_cpS I 13 q) t 1300) N nl nc ns nn L M := by
    refine Rel.cg (EA.of (fun _ _ => rfl)) (eb_mb (fun k a b c d => (c0 k (by omega)).trans (b1 k c).symm) (fun j hj => ?_)) h
    rw [c0 34 (by omega), b2, if_pos (by omega)]
  exact ⟨h1.2.2.1.1.symm, Rel.cur (I := I) h1 (fun k hk => d1 k (by omega))⟩
theorem ek_back {I : Nat → Nat → Int32} {t t2 q q2 : Nat} (hq : 47 ≤ q) (hq2 : 47 ≤ q2) : EK I (m_back (k_cpS I 13 q) t 1300) t2 q2 := by
  obtain ⟨c0, -⟩ := cps_at (I := I) (a := 13) (b := q) (by omega)
  obtain ⟨d1, d2⟩ := mb_at (k_cpS I 13 q) t 1300 (Nat.le_refl _)
  refine ⟨fun k hk => (d1 k (by omega)).trans (c0 k (by omega)), fun k a b => (d1 k (by omega)).trans (c0 k (by omega)), fun k a b c d => (d1 k c).trans (c0 k (by omega)), fun j a b => ?_⟩
  rw [d2, if_neg (by omega), c0 34 (by omega)]
/-- save: I0 has the new cells already -/
theorem op_save {I I0 : Nat → Nat → Int32} {t q N nl nc ns nn L : Nat} {M : Int} (hq : 47 ≤ q) (h0 : ∀ k, k < 47 → I0 k = I k) (h : Rel I I N nl nc ns nn L M) : k_cpS I0 q 13 13 4 = m_save (k_cpS I0 q 13) t nn 34 1 ∧ Rel (m_save (k_cpS I0 q 13) t nn) (m_save (k_cpS I0 q 13) t nn) N nl nc ns nn L M ∧ SR (m_save (k_cpS I0 q 13) t nn) t q N nl nc ns nn L M := by
  have hn4 := h.1.2.2.2.1.2.2
  obtain ⟨c0, c1, c2, c3, c4, c5, c6, c7⟩ := cps_at (I := I0) (a := q) (b := 13) (by omega)
  obtain ⟨s1, s2, s3⟩ := ms_at (k_cpS I0 q 13) t hn4
  have k1 : ∀ k, k < 47 → k_cpS I0 q 13 k = I k := fun k hk => (c0 k (by omega)).trans (h0 k hk)
  have k2 : ∀ k, k < 32 → m_save (k_cpS I0 q 13) t nn k = I k := fun k hk => (s1 k (by omega) (by omega)).trans (k1 k (by omega))
  have k3 : ∀ k, 47 ≤ k → m_save (k_cpS I0 q 13) t nn k = k_cpS I0 q 13 k := fun k hk => s1 k (by omega) (by omega)
  have k4 : ∀ k, 33 ≤ k → k ≤ 45 → k ≠ 34 → k ≠ 35 → m_save (k_cpS I0 q 13) t nn k = I k := fun k a b c d => (s1 k c d).trans (k1 k (by omega))
  refine ⟨?_, h.cg (EA.of k2) ⟨k4, fun j hj => ?_⟩, h.cg (ea_cps (by omega) (fun k hk => k2 k (by omega)) (fun j a b => ?_) ?_ (fun i a b c hc => ?_) (fun c hc => ?_) (fun c hc => ?_) (fun c hc => ?_) (fun c hc => ?_)) (eb_mb k4 (fun j hj => ?_))⟩
  · rw [k1 13 (by decide), s3, if_neg (by omega), k1 34 (by decide)]
    exact h.2.2.1.1.symm
  · rw [s3, if_neg (by omega), k1 34 (by decide)]
  · rw [k3 q (by omega), c1 j a b, h0 13 (by decide)]
  · rw [k3 (q + 1) (by omega), c2, h0 (13 + 1) (by decide)]
  · rw [k3 (q + i) (by omega), c3 i a b c hc, h0 (13 + i) (by omega)]
  · rw [k3 (q + 13) (by omega), c4 c hc, h0 (13 + 13) (by decide)]
  · rw [k3 (q + 15) (by omega), c5 c hc, h0 (13 + 15) (by decide)]
  · rw [k3 (q + 16) (by omega), k3 (q + 17) (by omega), (c6 c hc).1, (c6 c hc).2, h0 (13 + 16) (by decide), h0 (13 + 17) (by decide)]
    exact ⟨rfl, rfl⟩
  · rw [k3 (q + 18) (by omega), c7 c hc, h0 (13 + 18) (by decide)]
  · rw [s3, if_pos (by omega), show 1300 * (t + 1) + j - 1300 * (t + 1) = j by omega, k1 34 (by decide)]
    by_cases w : 6 + 3 * nn ≤ j ∧ j < 18
    · obtain ⟨q1, q2⟩ := h.2.2.2.1 (j - 6) (by omega)
      rw [if_pos w, show j = 6 + (j - 6) by omega, q1, q2 (by omega)]
    · rw [if_neg w]
theorem ek_save {I I0 : Nat → Nat → Int32} {t t2 q q2 nn : Nat} (hn : nn ≤ 4) (hq : 47 ≤ q) (hq2 : 47 ≤ q2) (hap : q + 19 ≤ q2 ∨ q2 + 19 ≤ q) (ht : t2 ≠ t) (h0 : ∀ k, k < 47 ∨ (q2 ≤ k ∧ k < q2 + 19) → I0 k = I k) : EK I (m_save (k_cpS I0 q 13) t nn) t2 q2 := by
  obtain ⟨c0, -⟩ := cps_at (I := I0) (a := q) (b := 13) (by omega)
  obtain ⟨s1, s2, s3⟩ := ms_at (k_cpS I0 q 13) t hn
  refine ⟨fun k hk => ((s1 k (by omega) (by omega)).trans (c0 k (by omega))).trans (h0 k (by omega)), fun k a b => ((s1 k (by omega) (by omega)).trans (c0 k (by omega))).trans (h0 k (by omega)), fun k a b c d => ((s1 k c d).trans (c0 k (by omega))).trans (h0 k (by omega)), fun j a b => ?_⟩
  have : ¬ (1300 * (t + 1) ≤ j ∧ j < 1300 * (t + 2)) := fun w => by
    rcases Nat.lt_or_gt_of_ne ht with z | z
    · have := Nat.mul_le_mul_left 1300 (show t2 + 2 ≤ t + 1 by omega)
      omega
    · have := Nat.mul_le_mul_left 1300 (show t + 2 ≤ t2 + 1 by omega)
      omega
  rw [s3, if_neg this, c0 34 (by omega), h0 34 (by omega)]
