/-! pure: all lanes move: the class -/
abbrev dn_ (A : Nat → Nat → Int32) (l c : Nat) : Prop := A 20 c = 1 ∧ lnI A c < l
theorem bI_cg {p q : Prop} [Decidable p] [Decidable q] (h : p ↔ q) : bI p = bI q := by
  by_cases w : p
  · rw [bI_t w, bI_t (h.mp w)]
  · rw [bI_f w, bI_f (fun z => w (h.mpr z))]
theorem ite_cg {α : Type} {p q : Prop} [Decidable p] [Decidable q] {a b : α} (h : p ↔ q) : (if p then a else b) = if q then a else b := by
  by_cases w : p
  · rw [if_pos w, if_pos (h.mp w)]
  · rw [if_neg w, if_neg (fun z => w (h.mpr z))]
theorem ite_cg2 {α : Type} {p q : Prop} [Decidable p] [Decidable q] {a b a' b' : α} (h : p ↔ q) (ha : a = a') (hb : b = b') : (if p then a else b) = if q then a' else b' := by
  rw [ha, hb]
  exact ite_cg h
theorem NS_cg {X Y : Nat → Nat → Int32} {N l : Nat} (hr : RW X N l) (h29 : Y 29 l = X 29 l) (h28 : ∀ j, j < 60 → Y 28 (l * 60 + j) = X 28 (l * 60 + j)) (h22 : Y 22 = X 22) (h16 : Y 16 = X 16) (h21 : ∀ c, c < N → inl_ X l c → Y 21 c = X 21 c) : NS Y l = NS X l := by
  obtain ⟨w1, w2, w3, w4⟩ := hr
  have eZ : szI Y l = szI X l := by unfold szI; rw [h29]
  unfold NS
  rw [eZ]
  refine sm_cg (fun r hr => bI_cg ?_)
  have eR : ∀ j, j < 60 → rw_ Y l j = rw_ X l j := fun j hj => by unfold rw_; rw [h28 j hj]
  rw [eR r (by omega), eR (r + 1) (by omega)]
  unfold k_nrP k_re
  obtain ⟨a1, a2⟩ := w4.1 r (by omega)
  obtain ⟨b1, b2⟩ := w4.1 (r + 1) (by omega)
  rw [h22, h16, h21 _ a1 a2, h21 _ b1 b2]
theorem k_s4_at {A : Nat → Nat → Int32} {N ns nn L : Nat} (hns : ns ≤ 4) (hL3 : L ≤ 3) (hb : ∀ c, c < N → CB A c) (hW : ∀ l, l < 3 → RW A N l) (hE : (A 1 5).toInt ≤ 100000) (hL : ∀ c, c < N → RL A L c) (hsp : SPok A) : ∀ l, l ≤ L →
    (∀ k, k ≠ 13 → k ≠ 20 → k ≠ 21 → k ≠ 24 → k ≠ 26 → k ≠ 28 → k ≠ 29 → k ≠ 31 → k_s4 A ns nn l k = A k) ∧ (∀ j, j ≠ 5 → k_s4 A ns nn l 13 j = A 13 j) ∧
    (∀ c, c < N → k_s4 A ns nn l 21 c = if dn_ A l c then nf A c else A 21 c) ∧ (∀ c, c < N → k_s4 A ns nn l 20 c = if dn_ A l c ∧ outP A c then 2 else A 20 c) ∧ (∀ c, c < N → k_s4 A ns nn l 24 c = if dn_ A l c ∧ outP A c then A 13 4 else A 24 c) ∧
    (∀ c k, c < N → k < 4 → k_s4 A ns nn l 26 (c * 4 + k) = if dn_ A l c ∧ k < ns ∧ stP A c k then A 26 (c * 4 + k) + 1 else A 26 (c * 4 + k)) ∧ (∀ c k, N ≤ c → k < 4 → k_s4 A ns nn l 26 (c * 4 + k) = A 26 (c * 4 + k)) ∧
    (∀ k l2, l2 < 3 → k_s4 A ns nn l 31 (k * 3 + l2) = if l2 < l ∧ k < nn then A 31 (k * 3 + l2) + sm (fun c => if inl_ A l2 c then bI (psP A c k) else 0) N else A 31 (k * 3 + l2)) ∧
    (∀ l2, l2 < 3 → RW (k_s4 A ns nn l) N l2) ∧ (∀ l2, l ≤ l2 → l2 < 3 → k_s4 A ns nn l 29 l2 = A 29 l2 ∧ ∀ j, j < 60 → k_s4 A ns nn l 28 (l2 * 60 + j) = A 28 (l2 * 60 + j)) ∧
    k_s4 A ns nn l 13 5 = A 13 5 + sm (fun l2 => NS (k_s4 A ns nn l) l2) l
  | 0, _ => ⟨fun _ _ _ _ _ _ _ _ _ => rfl, fun _ _ => rfl, fun c _ => (if_neg (fun q => absurd q.2 (by omega))).symm, fun c _ => (if_neg (fun q => absurd q.1.2 (by omega))).symm, fun c _ => (if_neg (fun q => absurd q.1.2 (by omega))).symm, fun c k _ _ => (if_neg (fun q => absurd q.1.2 (by omega))).symm, fun _ _ _ _ => rfl, fun k l2 _ => (if_neg (fun q => absurd q.1 (by omega))).symm, hW, fun _ _ _ => ⟨rfl, fun _ _ => rfl⟩, (Int32.add_zero _).symm⟩
  | l + 1, hl => by
    obtain ⟨i1, i2, i3, i4, i5, i6, i7, i8, i9, i10, i11⟩ := k_s4_at (nn := nn) hns hL3 hb hW hE hL hsp l (by omega)
    have hl3 : l < 3 := by omega
    have hY := k_s4.eq_2 A ns nn l
    generalize k_s4 A ns nn (l + 1) = Y at hY ⊢
    generalize k_s4 A ns nn l = X at i1 i2 i3 i4 i5 i6 i7 i8 i9 i10 i11 hY
    have o := fun k (h1 : k ≠ 13) (h2 : k ≠ 20) (h3 : k ≠ 21) (h4 : k ≠ 24) (h5 : k ≠ 26) (h6 : k ≠ 28) (h7 : k ≠ 29) (h8 : k ≠ 31) => i1 k h1 h2 h3 h4 h5 h6 h7 h8
    have o1 := o 1 (by decide) (by decide) (by decide) (by decide) (by decide) (by decide) (by decide) (by decide)
    have o10 := o 10 (by decide) (by decide) (by decide) (by decide) (by decide) (by decide) (by decide) (by decide)
    have o12 := o 12 (by decide) (by decide) (by decide) (by decide) (by decide) (by decide) (by decide) (by decide)
    have o15 := o 15 (by decide) (by decide) (by decide) (by decide) (by decide) (by decide) (by decide) (by decide)
    have o16 := o 16 (by decide) (by decide) (by decide) (by decide) (by decide) (by decide) (by decide) (by decide)
    have o17 := o 17 (by decide) (by decide) (by decide) (by decide) (by decide) (by decide) (by decide) (by decide)
    have o18 := o 18 (by decide) (by decide) (by decide) (by decide) (by decide) (by decide) (by decide) (by decide)
    have o19 := o 19 (by decide) (by decide) (by decide) (by decide) (by decide) (by decide) (by decide) (by decide)
    have o22 := o 22 (by decide) (by decide) (by decide) (by decide) (by decide) (by decide) (by decide) (by decide)
    have key : ∀ c, lnI A c = l → ¬ dn_ A l c := fun c e q => absurd q.2 (by omega)
    have hlane : ∀ c, c < N → A 19 c = nI l → lnI A c = l := fun c hc e => nI_inj (by have := (hL c hc).2.1.2; omega) (by omega) ((hL c hc).2.1.1.symm.trans e)
    have ein : ∀ c, c < N → (inl_ X l c ↔ inl_ A l c) := fun c hc => by
      unfold inl_
      rw [o19, i4 c hc]
      constructor
      · rintro ⟨a1, a2⟩
        rw [if_neg (fun q => key c (hlane c hc a2) q.1)] at a1
        exact ⟨a1, a2⟩
      · rintro ⟨a1, a2⟩
        rw [if_neg (fun q => key c (hlane c hc a2) q.1)]
        exact ⟨a1, a2⟩
    have e21 : ∀ c, c < N → inl_ A l c → X 21 c = A 21 c := fun c hc q => by rw [i3 c hc, if_neg (key c (hlane c hc q.2))]
    have enf : ∀ c, c < N → inl_ A l c → nf X c = nf A c := fun c hc q => by unfold nf; rw [e21 c hc q, o22]
    have eout : ∀ c, c < N → inl_ A l c → (outP X c ↔ outP A c) := fun c hc q => by unfold outP; rw [enf c hc q, o1, o16]
    have est : ∀ c k, c < N → inl_ A l c → (stP X c k ↔ stP A c k) := fun c k hc q => by unfold stP; rw [enf c hc q, o15, o22, o10]
    have eps : ∀ c k, c < N → inl_ A l c → (psP X c k ↔ psP A c k) := fun c k hc q => by unfold psP; rw [enf c hc q, e21 c hc q, o12]
    have cbX : ∀ c, c < N → CB X c := fun c hc => by
      have q := hb c hc
      unfold CB at q ⊢
      rw [o16, o17, o18, o22, i3 c hc]
      refine ⟨q.1, q.2.1, q.2.2.1, q.2.2.2.1, ?_⟩
      by_cases w : dn_ A l c
      · rw [if_pos w, nf, ti_add (by omega) (by omega)]
        have := (hL c hc).2.2 w.1
        omega
      · rw [if_neg w]; exact q.2.2.2.2
    have eZ : szI X l = szI A l := by unfold szI; rw [(i10 l (Nat.le_refl _) hl3).1]
    have eR : ∀ j, j < 60 → rw_ X l j = rw_ A l j := fun j hj => by unfold rw_; rw [(i10 l (Nat.le_refl _) hl3).2 j hj]
    have w4 := (hW l hl3).2.2.2
    have w2 := (hW l hl3).2.1
    obtain ⟨y1, y2, y3, y4, y5, y6, y7, y8, y9, y10, y11⟩ := k_lane (nn := nn) hl3 hns cbX (i9 l hl3) (by rw [o1]; exact hE) (fun c hc q => by
      have q' := (ein c hc).mp q
      rw [e21 c hc q', o16, o1]
      exact ((hL c hc).2.2 q'.1).2) (fun j hj => by
      rw [eZ] at hj
      obtain ⟨a1, a2⟩ := w4.1 j (by omega)
      obtain ⟨b1, b2⟩ := w4.1 (j + 1) hj
      rw [eR j (by omega), eR (j + 1) (by omega), o22, o16, e21 _ a1 a2, e21 _ b1 b2]
      exact hsp l hl3 j hj) hY
    have edn : ∀ c, c < N → (dn_ A (l + 1) c ↔ dn_ A l c ∨ inl_ A l c) := fun c hc => by
      unfold dn_ inl_
      constructor
      · rintro ⟨a1, a2⟩
        by_cases w : lnI A c < l
        · exact .inl ⟨a1, w⟩
        · exact .inr ⟨a1, by rw [(hL c hc).2.1.1, show lnI A c = l by omega]⟩
      · rintro (⟨a1, a2⟩ | ⟨a1, a2⟩)
        · exact ⟨a1, by omega⟩
        · exact ⟨a1, by rw [hlane c hc a2]; omega⟩
    have exc : ∀ c, c < N → inl_ A l c → ¬ dn_ A l c := fun c hc q => key c (hlane c hc q.2)
    refine ⟨fun k k1 k2 k3 k4 k5 k6 k7 k8 => (y1 k k1 k2 k3 k4 k5 k6 k7 k8).trans (o k k1 k2 k3 k4 k5 k6 k7 k8), fun j hj => (y2 j hj).trans (i2 j hj), fun c hc => ?_, fun c hc => ?_, fun c hc => ?_, fun c k hc hk => ?_, fun c k hc hk => (y7 c k hc hk).trans (i7 c k hc hk), fun k l2 hl2 => ?_, fun l2 hl2 => ?_, fun l2 h1 h2 => ?_, ?_⟩
    · rw [y3 c hc]
      by_cases q : inl_ A l c
      · rw [if_pos ((ein c hc).mpr q), if_pos ((edn c hc).mpr (.inr q)), enf c hc q]
      · rw [if_neg (fun w => q ((ein c hc).mp w)), i3 c hc]
        exact ite_cg ⟨fun w => (edn c hc).mpr (.inl w), fun w => ((edn c hc).mp w).resolve_right q⟩
    · rw [y4 c hc]
      by_cases q : inl_ A l c
      · exact ite_cg2 ⟨fun w => ⟨(edn c hc).mpr (.inr q), (eout c hc q).mp w.2⟩, fun w => ⟨(ein c hc).mpr q, (eout c hc q).mpr w.2⟩⟩ rfl (by rw [i4 c hc, if_neg (fun w => exc c hc q w.1)])
      · rw [if_neg (fun w => q ((ein c hc).mp w.1)), i4 c hc]
        exact ite_cg ⟨fun w => ⟨(edn c hc).mpr (.inl w.1), w.2⟩, fun w => ⟨((edn c hc).mp w.1).resolve_right q, w.2⟩⟩
    · rw [y5 c hc, i2 4 (by decide)]
      by_cases q : inl_ A l c
      · exact ite_cg2 ⟨fun w => ⟨(edn c hc).mpr (.inr q), (eout c hc q).mp w.2⟩, fun w => ⟨(ein c hc).mpr q, (eout c hc q).mpr w.2⟩⟩ rfl (by rw [i5 c hc, if_neg (fun w => exc c hc q w.1)])
      · rw [if_neg (fun w => q ((ein c hc).mp w.1)), i5 c hc]
        exact ite_cg ⟨fun w => ⟨(edn c hc).mpr (.inl w.1), w.2⟩, fun w => ⟨((edn c hc).mp w.1).resolve_right q, w.2⟩⟩
    · rw [y6 c k hc hk]
      by_cases q : inl_ A l c
      · have e6 := i6 c k hc hk
        rw [if_neg (fun w => exc c hc q w.1)] at e6
        exact ite_cg2 ⟨fun w => ⟨(edn c hc).mpr (.inr q), w.2.1, (est c k hc q).mp w.2.2⟩, fun w => ⟨(ein c hc).mpr q, w.2.1, (est c k hc q).mpr w.2.2⟩⟩ (by rw [e6]) e6
      · rw [if_neg (fun w => q ((ein c hc).mp w.1)), i6 c k hc hk]
        exact ite_cg ⟨fun w => ⟨(edn c hc).mpr (.inl w.1), w.2⟩, fun w => ⟨((edn c hc).mp w.1).resolve_right q, w.2⟩⟩
    · rw [y8 k l2 hl2, i8 k l2 hl2]
      by_cases q : l2 = l
      · subst q
        rw [if_neg (show ¬ (l2 < l2 ∧ k < nn) from fun w => absurd w.1 (by omega))]
        by_cases w : k < nn
        · rw [if_pos ⟨rfl, w⟩, if_pos ⟨by omega, w⟩]
          congr 1
          refine sm_cg (fun c hc => ?_)
          by_cases z : inl_ A l2 c
          · rw [if_pos ((ein c hc).mpr z), if_pos z]
            exact bI_cg (eps c k hc z)
          · rw [if_neg (fun x => z ((ein c hc).mp x)), if_neg z]
        · rw [if_neg (fun x => w x.2), if_neg (fun x => w x.2)]
      · rw [if_neg (fun w => q w.1)]
        exact ite_cg ⟨fun w => ⟨by omega, w.2⟩, fun w => ⟨by omega, w.2⟩⟩
    · by_cases q : l2 = l
      · rw [q]; exact y9
      · obtain ⟨a1, a2⟩ := y10 l2 hl2 q
        obtain ⟨b1, b2, b3, b4⟩ := i9 l2 hl2
        have eZ2 : szI Y l2 = szI X l2 := by unfold szI; rw [a1]
        have eR2 : ∀ j, j < 60 → rw_ Y l2 j = rw_ X l2 j := fun j hj => by unfold rw_; rw [a2 j hj]
        have hno : ∀ c, c < N → X 19 c = nI l2 → ¬ inl_ X l c := fun c hc e w => q (nI_inj (by omega) (by omega) (e.symm.trans w.2))
        unfold RW
        rw [eZ2, a1]
        refine ⟨b1, b2, fun j hj => by rw [a2 j (by omega), eR2 j (by omega)]; exact b3 j hj, b4.congr (fun j hj => eR2 j (by omega)) (fun c hc => ?_) (fun c hc c1 c2 => ?_)⟩
        · rw [y1 19 (by decide) (by decide) (by decide) (by decide) (by decide) (by decide) (by decide) (by decide), y4 c hc]
          constructor
          · rintro ⟨z1, z2⟩
            rw [if_neg (fun w => hno c hc z2 w.1)] at z1
            exact ⟨z1, z2⟩
          · rintro ⟨z1, z2⟩
            rw [if_neg (fun w => hno c hc z2 w.1)]
            exact ⟨z1, z2⟩
        · rw [y3 c hc, if_neg (hno c hc c2), y1 16 (by decide) (by decide) (by decide) (by decide) (by decide) (by decide) (by decide) (by decide)]
          exact ⟨rfl, rfl⟩
    · obtain ⟨a1, a2⟩ := y10 l2 h2 (by omega)
      obtain ⟨b1, b2⟩ := i10 l2 (by omega) h2
      exact ⟨a1.trans b1, fun j hj => (a2 j hj).trans (b2 j hj)⟩
    · rw [y11, i11, sm, Int32.add_assoc]
      congr 2
      refine sm_cg (fun l2 hl2 => ?_)
      obtain ⟨a1, a2⟩ := y10 l2 (by omega) (by omega)
      refine (NS_cg (i9 l2 (by omega)) a1 a2 (y1 22 (by decide) (by decide) (by decide) (by decide) (by decide) (by decide) (by decide) (by decide)) (y1 16 (by decide) (by decide) (by decide) (by decide) (by decide) (by decide) (by decide) (by decide)) (fun c hc q => ?_)).symm
      rw [y3 c hc, if_neg (fun w => absurd (nI_inj (by omega) (by omega) (q.2.symm.trans w.2)) (by omega))]
