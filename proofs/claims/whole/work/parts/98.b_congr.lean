/-! pure: the relation reads only so much -/
def EA (A A' : Nat → Nat → Int32) : Prop := (∀ k, k ≤ 12 → A' k = A k) ∧ (∀ j, 4 ≤ j → j ≤ 7 → A' 13 j = A 13 j) ∧ A' 14 12 = A 14 12 ∧ (∀ k, 15 ≤ k → k ≤ 25 → ∀ c, c < 60 → A' k c = A k c) ∧ (∀ i, i < 240 → A' 26 i = A 26 i) ∧ (∀ i, i < 180 → A' 28 i = A 28 i) ∧ (∀ l, l < 3 → A' 29 l = A 29 l ∧ A' 30 l = A 30 l) ∧ (∀ i, i < 12 → A' 31 i = A 31 i)
def EB (B B' : Nat → Nat → Int32) : Prop := (∀ k, 33 ≤ k → k ≤ 45 → k ≠ 34 → k ≠ 35 → B' k = B k) ∧ ∀ j, j < 1220 → B' 34 j = B 34 j
theorem EA.of {A A' : Nat → Nat → Int32} (h : ∀ k, k < 32 → A' k = A k) : EA A A' := by
  refine ⟨fun k hk => h k (by omega), fun j _ _ => by rw [h 13 (by decide)], by rw [h 14 (by decide)], fun k _ hk c _ => by rw [h k (by omega)], fun i _ => by rw [h 26 (by decide)], fun i _ => by rw [h 28 (by decide)], fun l _ => by rw [h 29 (by decide), h 30 (by decide)]; exact ⟨rfl, rfl⟩, fun i _ => by rw [h 31 (by decide)]⟩
theorem EB.of {B B' : Nat → Nat → Int32} (h : ∀ k, 33 ≤ k → k ≤ 45 → B' k = B k) : EB B B' := ⟨fun k h1 h2 _ _ => h k h1 h2, fun j _ => by rw [h 34 (by decide) (by decide)]⟩
theorem TH.cg {A B A' B' : Nat → Nat → Int32} {nl nc ns nn L : Nat} (hA : ∀ k, k ≤ 12 → A' k = A k) (hB : ∀ k, 33 ≤ k → k ≤ 45 → k ≠ 34 → k ≠ 35 → B' k = B k) (h : TH A B nl nc ns nn L) : TH A' B' nl nc ns nn L := by
  unfold TH at h ⊢
  rw [hA 0 (by decide), hA 1 (by decide), hA 2 (by decide), hA 3 (by decide), hA 4 (by decide), hA 5 (by decide), hA 6 (by decide), hA 7 (by decide), hA 8 (by decide), hA 9 (by decide), hA 10 (by decide), hA 11 (by decide), hA 12 (by decide), hB 33 (by decide) (by decide) (by decide) (by decide), hB 36 (by decide) (by decide) (by decide) (by decide), hB 37 (by decide) (by decide) (by decide) (by decide), hB 38 (by decide) (by decide) (by decide) (by decide), hB 39 (by decide) (by decide) (by decide) (by decide), hB 40 (by decide) (by decide) (by decide) (by decide), hB 41 (by decide) (by decide) (by decide) (by decide), hB 42 (by decide) (by decide) (by decide) (by decide), hB 43 (by decide) (by decide) (by decide) (by decide), hB 44 (by decide) (by decide) (by decide) (by decide), hB 45 (by decide) (by decide) (by decide) (by decide)]
  exact h
theorem Rel.cg0 {A B A' B' : Nat → Nat → Int32} {N nl nc ns nn L nl' nc' ns' nn' : Nat} {M : Int} (x1 : A' 1 = A 1)
    (x2 : ∀ j, 4 ≤ j → j ≤ 7 → A' 13 j = A 13 j) (x3 : A' 14 12 = A 14 12) (x4 : ∀ k, 15 ≤ k → k ≤ 25 → ∀ c, c < 60 → A' k c = A k c) (x5 : ∀ i, i < 240 → A' 26 i = A 26 i) (x6 : ∀ i, i < 180 → A' 28 i = A 28 i) (x7 : ∀ l, l < 3 → A' 29 l = A 29 l ∧ A' 30 l = A 30 l)
    (y2 : ∀ j, j < 1220 → (j < 6 ∨ 18 ≤ j) → B' 34 j = B 34 j) (ht' : TH A' B' nl' nc' ns' nn' L) (hS' : ∀ c, c < N → RS A' (B' 34) ns' c) (hps' : ∀ i, i < 12 → B' 34 (6 + i) = A' 31 i ∧ (3 * nn' ≤ i → A' 31 i = 0)) (h : Rel A B N nl nc ns nn L M) : Rel A' B' N nl' nc' ns' nn' L M := by
  obtain ⟨ht, ⟨hN1, hN2, hN60⟩, ⟨s1, s2, s3, s4, s5, s6⟩, hps, htm, hb, hp, hq, hS, hL, hz, hW, hR⟩ := h
  have xc : ∀ k c, 15 ≤ k → k ≤ 25 → c < N → A' k c = A k c := fun k c h1 h2 h3 => x4 k h1 h2 c (by omega)
  have yp : ∀ p c, p < 20 → c < N → pt (B' 34) p c = pt (B 34) p c := fun p c h1 h2 => y2 _ (by omega) (by omega)
  have hL3 := ht.2.2.2.2.1.2.2.2.2
  have eL : ∀ c, c < N → lnI A' c = lnI A c := fun c hc => by unfold lnI; rw [xc 19 c (by decide) (by decide) hc]
  have eZ : ∀ l, l < 3 → szI A' l = szI A l := fun l hl => by unfold szI; rw [(x7 l hl).1]
  have eK : ∀ l, l < 3 → k0I A' l = k0I A l := fun l hl => by unfold k0I; rw [(x7 l hl).2]
  have eR : ∀ l j, l < 3 → j < 60 → rw_ A' l j = rw_ A l j := fun l j hl hj => by unfold rw_; rw [x6 _ (by omega)]
  refine ⟨ht', ⟨by rw [x3]; exact hN1, by rw [y2 0 (by decide) (by decide)]; exact hN2, hN60⟩, ?_, hps', ?_, ?_, ?_, ?_, hS', ?_, ?_, ?_, ?_⟩
  · rw [y2 1 (by decide) (by decide), y2 3 (by decide) (by decide), y2 4 (by decide) (by decide), y2 5 (by decide) (by decide), x2 4 (by decide) (by decide), x2 5 (by decide) (by decide), x2 6 (by decide) (by decide), x2 7 (by decide) (by decide)]
    exact ⟨s1, s2, s3, s4, s5, s6⟩
  · rw [y2 2 (by decide) (by decide), htm]
    refine sm_cg (fun c hc => ?_)
    unfold tmF
    rw [xc 20 c (by decide) (by decide) hc, xc 24 c (by decide) (by decide) hc, xc 23 c (by decide) (by decide) hc]
  · intro c hc
    unfold CB
    rw [xc 16 c (by decide) (by decide) hc, xc 17 c (by decide) (by decide) hc, xc 18 c (by decide) (by decide) hc, xc 22 c (by decide) (by decide) hc, xc 21 c (by decide) (by decide) hc]
    exact hb c hc
  · intro c hc
    unfold RP
    rw [yp 2 c (by decide) hc, yp 1 c (by decide) hc, yp 3 c (by decide) hc, yp 8 c (by decide) hc, xc 20 c (by decide) (by decide) hc, xc 19 c (by decide) (by decide) hc, xc 21 c (by decide) (by decide) hc, xc 16 c (by decide) (by decide) hc]
    exact hp c hc
  · intro c hc
    unfold RQ
    rw [yp 0 c (by decide) hc, yp 4 c (by decide) hc, yp 5 c (by decide) hc, yp 6 c (by decide) hc, yp 7 c (by decide) hc, yp 9 c (by decide) hc, yp 10 c (by decide) hc, xc 15 c (by decide) (by decide) hc, xc 22 c (by decide) (by decide) hc, xc 23 c (by decide) (by decide) hc, xc 24 c (by decide) (by decide) hc, xc 25 c (by decide) (by decide) hc, xc 17 c (by decide) (by decide) hc, xc 18 c (by decide) (by decide) hc, xc 20 c (by decide) (by decide) hc]
    exact hq c hc
  · intro c hc
    unfold RL
    rw [eL c hc, xc 20 c (by decide) (by decide) hc, xc 19 c (by decide) (by decide) hc, xc 21 c (by decide) (by decide) hc, xc 16 c (by decide) (by decide) hc, x1]
    exact hL c hc
  · intro i h1 h2
    rw [x5 i h2]
    exact hz i h1 h2
  · intro l hl
    obtain ⟨w1, w2, w3, w4⟩ := hW l hl
    unfold RW
    rw [eZ l hl, (x7 l hl).1]
    refine ⟨w1, w2, fun j hj => by rw [eR l j hl (by omega), x6 _ (by omega)]; exact w3 j hj, w4.congr (fun j hj => eR l j hl (by omega)) (fun c hc => by rw [xc 20 c (by decide) (by decide) hc, xc 19 c (by decide) (by decide) hc]) (fun c hc _ _ => by rw [xc 21 c (by decide) (by decide) hc, xc 16 c (by decide) (by decide) hc]; exact ⟨rfl, rfl⟩)⟩
  · intro l hl
    obtain ⟨w1, w2, w3⟩ := hR l hl
    unfold RN
    rw [eK l hl, (x7 l hl).2]
    refine ⟨w1, w2, fun c hc => ?_⟩
    rw [xc 20 c (by decide) (by decide) (by omega), xc 19 c (by decide) (by decide) (by omega)]
    exact w3 c hc
theorem Rel.cg {A B A' B' : Nat → Nat → Int32} {N nl nc ns nn L : Nat} {M : Int} (hA : EA A A') (hB : EB B B') (h : Rel A B N nl nc ns nn L M) : Rel A' B' N nl nc ns nn L M := by
  obtain ⟨x1, x2, x3, x4, x5, x6, x7, x8⟩ := hA
  obtain ⟨y1, y2⟩ := hB
  have hN60 := h.2.1.2.2
  refine Rel.cg0 (x1 1 (by decide)) x2 x3 x4 x5 x6 x7 (fun j hj _ => y2 j hj) (h.1.cg x1 y1) (fun c hc k hk => ?_) (fun i hi => ?_) h
  · rw [x5 _ (by omega), x2 4 (by decide) (by decide), show pt (B' 34) (11 + k) c = pt (B 34) (11 + k) c from y2 _ (by omega), x1 11 (by decide)]
    exact h.2.2.2.2.2.2.2.2.1 c hc k hk
  · rw [y2 _ (by omega), x8 i hi]
    exact h.2.2.2.1 i hi
/-! frames -/
def Fr (X I : Nat → Nat → Int32) : Prop := ∀ k, (k ≤ 12 ∨ 32 ≤ k) → X k = I k
theorem Fr.wr {X I : Nat → Nat → Int32} (h : Fr X I) {a i : Nat} {v : Int32} (ha : 13 ≤ a ∧ a < 32) : Fr (wr X a i v) I := fun k hk => (wr_ne _ _ _ (by omega)).trans (h k hk)
theorem Fr.ins {X I : Nat → Nat → Int32} (h : Fr X I) {l s r : Nat} {v : Int32} : Fr (kIns X l s r v) I := fun k hk => (kIns_ne _ _ _ _ _ (by omega) (by omega)).trans (h k hk)
theorem Fr.rem {X I : Nat → Nat → Int32} (h : Fr X I) {l s r : Nat} : Fr (kRem X l s r) I := fun k hk => (kRem_ne _ _ _ _ (by omega) (by omega)).trans (h k hk)
theorem fr_letIn {X I : Nat → Nat → Int32} (h : Fr X I) (N nl nc ns l s k0 : Nat) : Fr (k_letIn X N nl nc ns l s k0) I := by
  unfold k_letIn
  dsimp only
  split
  · unfold k_in
    exact ((((((h.wr (by decide)).wr (by decide)).wr (by decide)).wr (by decide)).wr (by decide)).ins).wr (by decide)
  · exact h.wr (by decide)
theorem fr_s1 {X I : Nat → Nat → Int32} (h : Fr X I) (N nl nc ns : Nat) : ∀ l, Fr (k_s1 X N nl nc ns l) I
  | 0 => h
  | l + 1 => fr_letIn (fr_s1 h N nl nc ns l) _ _ _ _ _ _ _
theorem fr_chTo {X I : Nat → Nat → Int32} (h : Fr X I) (l s l2 s2 r c : Nat) : Fr (k_chTo X l s l2 s2 r c) I := by
  unfold k_chTo
  exact ((((h.rem).ins).wr (by decide)).wr (by decide)).wr (by decide)
theorem fr_look {X I : Nat → Nat → Int32} (h : Fr X I) (nl nc ns L : Nat) (sz : Nat → Nat) (c l : Nat) : Fr (k_look X nl nc ns L sz c l) I := by
  unfold k_look
  dsimp only
  split
  · split
    · exact fr_chTo h _ _ _ _ _ _
    · split
      · exact fr_chTo h _ _ _ _ _ _
      · exact h
  · exact h
theorem fr_s2 {X I : Nat → Nat → Int32} (h : Fr X I) (nl nc ns L : Nat) : ∀ c, Fr (k_s2 X nl nc ns L c) I
  | 0 => h
  | c + 1 => by
    rw [k_s2]
    split
    · exact fr_look (fr_s2 h nl nc ns L c) _ _ _ _ _ _ _
    · exact fr_s2 h nl nc ns L c
theorem fr_ms {X I : Nat → Nat → Int32} (h : Fr X I) (nl nc ns l : Nat) : ∀ r, Fr (k_ms X nl nc ns l r) I
  | 0 => h
  | r + 1 => by
    rw [k_ms]
    unfold k_ms1
    split
    · exact (fr_ms h nl nc ns l r).wr (by decide)
    · exact ((fr_ms h nl nc ns l r).wr (by decide)).wr (by decide)
theorem fr_s3 {X I : Nat → Nat → Int32} (h : Fr X I) (nl nc ns : Nat) : ∀ l, Fr (k_s3 X nl nc ns l) I
  | 0 => h
  | l + 1 => fr_ms (fr_s3 h nl nc ns l) _ _ _ _ _
theorem fr_pl {X I : Nat → Nat → Int32} (h : Fr X I) (l : Nat) (b a : Int32) : ∀ n, Fr (k_pl X l b a n) I
  | 0 => h
  | n + 1 => by
    rw [k_pl]
    split
    · exact (fr_pl h l b a n).wr (by decide)
    · exact fr_pl h l b a n
theorem fr_sa {X I : Nat → Nat → Int32} (h : Fr X I) (c : Nat) : ∀ n, Fr (k_sa X c n) I
  | 0 => h
  | n + 1 => by
    rw [k_sa]
    split
    · exact (fr_sa h c n).wr (by decide)
    · exact fr_sa h c n
theorem fr_mv {X I : Nat → Nat → Int32} (h : Fr X I) (ns nn l : Nat) : ∀ r, Fr (k_mv X ns nn l r) I
  | 0 => h
  | r + 1 => by
    rw [k_mv]
    unfold k_mv1
    dsimp only
    split
    · exact fr_sa (fr_pl ((fr_mv h ns nn l r).wr (by decide)) _ _ _ _) _ _
    · exact fr_pl ((fr_mv h ns nn l r).wr (by decide)) _ _ _ _
theorem fr_lo {I : Nat → Nat → Int32} (l : Nat) : ∀ (m : Nat) {X : Nat → Nat → Int32} (t : Nat), Fr X I → Fr (k_lo l m X t).1 I
  | 0, _, _, h => h
  | m + 1, X, t, h => by
    rw [k_lo]
    split
    · exact fr_lo l m _ ((h.wr (by decide)).wr (by decide)).rem
    · exact fr_lo l m _ h
theorem fr_fn {X I : Nat → Nat → Int32} (h : Fr X I) (l : Nat) : ∀ r, Fr (k_fn X l r) I
  | 0 => h
  | r + 1 => by
    rw [k_fn]
    split
    · exact (fr_fn h l r).wr (by decide)
    · exact fr_fn h l r
theorem fr_s4 {X I : Nat → Nat → Int32} (h : Fr X I) (ns nn : Nat) : ∀ l, Fr (k_s4 X ns nn l) I
  | 0 => h
  | l + 1 => fr_fn (fr_lo _ _ _ (fr_mv (fr_s4 h ns nn l) _ _ _ _)) _ _
theorem fr_step {X I : Nat → Nat → Int32} (h : Fr X I) (N nl nc ns nn L : Nat) : Fr (k_step X N nl nc ns nn L) I := by
  unfold k_step
  exact (fr_s4 (fr_s3 (fr_s2 (fr_s1 h _ _ _ _ _) _ _ _ _ _) _ _ _ _) _ _ _).wr (by decide)
theorem fr_idle {I : Nat → Nat → Int32} (N : Nat) : ∀ (m l : Nat) {X : Nat → Nat → Int32}, Fr X I → Fr (k_idle N m l X).2 I
  | 0, _, _, h => h
  | m + 1, l, X, h => by
    rw [k_idle]
    split
    · exact h
    · split
      · exact h.wr (by decide)
      · exact fr_idle N m (l + 1) (h.wr (by decide))
theorem fr_rn {I : Nat → Nat → Int32} (N nl nc ns nn L : Nat) : ∀ (m : Nat) {X : Nat → Nat → Int32}, Fr X I → Fr (k_rn N nl nc ns nn L m X).2 I
  | 0, _, h => h
  | m + 1, X, h => by
    rw [k_rn]
    split
    · exact fr_idle N L 0 h
    · exact fr_rn N nl nc ns nn L m (fr_step (fr_idle N L 0 h) _ _ _ _ _ _)
theorem fr_run (I : Nat → Nat → Int32) (N nl nc ns nn L s : Nat) : Fr (k_run I N nl nc ns nn L s) I := (fr_rn N nl nc ns nn L s (fun _ _ => rfl)).wr (by decide)
/-- the reference writes cells 34 (below 1300) and 46 -/
def Fm (X I : Nat → Nat → Int32) : Prop := (∀ k, k ≠ 34 → k ≠ 46 → X k = I k) ∧ ∀ j, 1300 ≤ j → X 34 j = I 34 j
theorem Fm.mp {X I : Nat → Nat → Int32} (h : Fm X I) {i p : Nat} {v : Int32} (hi : i < 60) (hp : p < 20) : Fm (mp X i p v) I := ⟨fun k h1 h2 => (mp_ne _ _ _ _ h1).trans (h.1 k h1 h2), fun j hj => by rw [mp_at, if_neg (by omega)]; exact h.2 j hj⟩
theorem Fm.mci {X I : Nat → Nat → Int32} (h : Fm X I) {k : Nat} {d : Int32} (hk : k < 1300) : Fm (mci X k d) I := ⟨fun k h1 h2 => (mci_ne _ _ _ h1).trans (h.1 k h1 h2), fun j hj => by rw [mci_at, if_neg (by omega)]; exact h.2 j hj⟩
theorem fm_enter {X I : Nat → Nat → Int32} (h : Fm X I) {N : Nat} (hN : N ≤ 60) (nl nc ns : Nat) (l : Int32) : Fm (m_enter X N nl nc ns l) I := by
  unfold m_enter
  split
  · next q =>
    unfold m_ent
    exact ((((h.mp (by omega) (by decide)).mp (by omega) (by decide)).mp (by omega) (by decide)).mp (by omega) (by decide)).mp (by omega) (by decide)
  · exact h
theorem fm_en {X I : Nat → Nat → Int32} (h : Fm X I) {N : Nat} (hN : N ≤ 60) (nl nc ns : Nat) : ∀ l, Fm (m_en X N nl nc ns l) I
  | 0 => h
  | l + 1 => fm_enter (fm_en h hN nl nc ns l) hN _ _ _ _
theorem fm_ch {X I : Nat → Nat → Int32} (h : Fm X I) {N : Nat} (hN : N ≤ 60) (nl nc ns : Nat) : ∀ c, c ≤ N → Fm (m_ch X N nl nc ns c) I
  | 0, _ => h
  | c + 1, hc => by
    rw [m_ch]
    unfold m_chg
    dsimp only
    split
    · exact (((fm_ch h hN nl nc ns c (by omega)).mp (by omega) (by decide)).mp (by omega) (by decide)).mci (by decide)
    · exact fm_ch h hN nl nc ns c (by omega)
theorem fm_spd {X I : Nat → Nat → Int32} (h : Fm X I) {N : Nat} (hN : N ≤ 60) (nl nc ns : Nat) : Fm (m_spd X N nl nc ns) I := by
  obtain ⟨d1, -⟩ := m_s1_at (B := X) (N := N) (nl := nl) (nc := nc) (ns := ns) N
  obtain ⟨e1, -, e3, -⟩ := m_s2_at (X := m_s1 X N nl nc ns N) N
  refine ⟨fun k h1 h2 => ((e1 k h1).trans (d1 k h2)).trans (h.1 k h1 h2), fun j hj => ?_⟩
  have := e3 ((j - 20) % 20) ((j - 20) / 20) (by omega)
  rw [if_neg (fun w => absurd w.2.1 (by omega)), d1 34 (by decide)] at this
  have e : 20 + 20 * ((j - 20) / 20) + (j - 20) % 20 = j := by omega
  unfold pt at this
  rw [e] at this
  exact this.trans (h.2 j hj)
theorem fm_step {A B : Nat → Nat → Int32} {N nl nc ns nn L : Nat} {M : Int} (h : Rel A B N nl nc ns nn L M) : Fm (m_step B N nl nc ns nn L) B := by
  have hN := h.2.1.2.2
  have r3 := (s3 (rel_s2 (rel_s1 h L (Nat.le_refl _)) N (Nat.le_refl _))).1
  have f3 : Fm (m_spd (m_ch (m_en B N nl nc ns L) N nl nc ns N) N nl nc ns) B := fm_spd (fm_ch (fm_en ⟨fun _ _ _ => rfl, fun _ _ => rfl⟩ hN _ _ _ _) hN _ _ _ _ (Nat.le_refl _)) hN _ _ _
  unfold m_step
  obtain ⟨ht, -, -, -, -, -, hp, -, -, hL, -, -, -⟩ := r3
  have hL3 := ht.2.2.2.2.1.2.2.2.2
  generalize m_spd (m_ch (m_en B N nl nc ns L) N nl nc ns N) N nl nc ns = Y at f3 hp ht ⊢
  generalize k_s3 (k_s2 (k_s1 A N nl nc ns L) nl nc ns L N) nl nc ns L = Z at hp hL ht
  obtain ⟨j1, -, -, -, j5⟩ := m_mv_at (X := Y) (N := N) ht.2.2.1.2.2 ht.2.2.2.1.2.2 (fun c hc => ⟨lnI Z c, by have := (hL c hc).2.1.2; omega, by rw [(hp c hc).2.1]; exact (hL c hc).2.1.1⟩) N (Nat.le_refl _)
  have f4 : Fm (m_mv Y ns nn N) B := by
    refine ⟨fun k h1 h2 => (j1 k h1).trans (f3.1 k h1 h2), fun j hj => ?_⟩
    have := j5 ((j - 20) % 20) ((j - 20) / 20) (by omega)
    rw [if_neg (fun w => absurd w.1 (by omega))] at this
    have e : 20 + 20 * ((j - 20) / 20) + (j - 20) % 20 = j := by omega
    unfold pt at this
    rw [e] at this
    exact this.trans (f3.2 j hj)
  have f5 : Fm (mci (m_mv Y ns nn N) 1 1) B := f4.mci (by decide)
  obtain ⟨n1, n2, -⟩ := m_nr_at (X := mci (m_mv Y ns nn N) 1 1) (N := N) N
  exact ⟨fun k h1 h2 => (n1 k h1).trans (f5.1 k h1 h2), fun j hj => (n2 j (by omega)).trans (f5.2 j hj)⟩
theorem Fm.trans {X Y Z : Nat → Nat → Int32} (h : Fm X Y) (h2 : Fm Y Z) : Fm X Z := ⟨fun k a b => (h.1 k a b).trans (h2.1 k a b), fun j hj => (h.2 j hj).trans (h2.2 j hj)⟩
theorem fm_run {A B : Nat → Nat → Int32} {N nl nc ns nn L : Nat} {M : Int} (h : Rel A B N nl nc ns nn L M) : ∀ s : Nat, M + s < 2147483647 → Fm (m_run B N nl nc ns nn L s) B
  | 0, _ => ⟨fun _ _ _ => rfl, fun _ _ => rfl⟩
  | s + 1, hs => by
    rw [m_run]
    exact (fm_step (rel_run s h (by omega))).trans (fm_run h s (by omega))
