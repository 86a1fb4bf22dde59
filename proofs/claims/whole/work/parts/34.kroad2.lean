/-! the class: Road's letIn, isBetter, changeTo, lookAround -/
/-- one place of a row of numbers is written -/
def wr (I : Nat → Nat → Int32) (a k : Nat) (v : Int32) : Nat → Nat → Int32 := va_up I a (va_up (I a) k v)
theorem f_wr (I : Nat → Nat → Int32) (a k : Nat) (v : Int32) : va_up I a (va_up (I a) k v) = wr I a k v := id rfl
theorem wr_s (I : Nat → Nat → Int32) (a k : Nat) (v : Int32) : wr I a k v a = va_up (I a) k v := va_up_self _ _ _
theorem wr_ne (I : Nat → Nat → Int32) {a b : Nat} (k : Nat) (v : Int32) (h : b ≠ a) : wr I a k v b = I b := va_up_ne _ _ h
def kIns (I : Nat → Nat → Int32) (l s r : Nat) (v : Int32) : Nat → Nat → Int32 := va_up (va_up I 28 (ins (I 28) (l * 60) s r v)) 29 (va_up (I 29) l (nI (s + 1)))
def kRem (I : Nat → Nat → Int32) (l s r : Nat) : Nat → Nat → Int32 := va_up (va_up I 29 (va_up (I 29) l (nI s))) 28 (rmv (I 28) (l * 60) r s)
theorem kIns_ne (I : Nat → Nat → Int32) (l s r : Nat) (v : Int32) {a : Nat} (h : a ≠ 28) (h2 : a ≠ 29) : kIns I l s r v a = I a := by rw [kIns, va_up_ne _ _ h2, va_up_ne _ _ h]
theorem kIns_28 (I : Nat → Nat → Int32) (l s r : Nat) (v : Int32) : kIns I l s r v 28 = ins (I 28) (l * 60) s r v := by rw [kIns, va_up_ne _ _ (by decide), va_up_self]
theorem kIns_29 (I : Nat → Nat → Int32) (l s r : Nat) (v : Int32) : kIns I l s r v 29 = va_up (I 29) l (nI (s + 1)) := by rw [kIns, va_up_self]
theorem kRem_ne (I : Nat → Nat → Int32) (l s r : Nat) {a : Nat} (h : a ≠ 28) (h2 : a ≠ 29) : kRem I l s r a = I a := by rw [kRem, va_up_ne _ _ h, va_up_ne _ _ h2]
theorem kRem_28 (I : Nat → Nat → Int32) (l s r : Nat) : kRem I l s r 28 = rmv (I 28) (l * 60) r s := by rw [kRem, va_up_self]
theorem kRem_29 (I : Nat → Nat → Int32) (l s r : Nat) : kRem I l s r 29 = va_up (I 29) l (nI s) := by rw [kRem, va_up_ne _ _ (by decide), va_up_self]
theorem ins_at (f : Nat → Int32) (b s r : Nat) (v : Int32) (j : Nat) : ins f b s r v j = if j = b + r then v else if b + r < j ∧ j ≤ b + s then f (j - 1) else f j := rfl
theorem CW.wr {I : Nat → Nat → Int32} {N nl nc ns nn L a k : Nat} {v : Int32} {sz : Nat → Nat} (h1 : a ≠ 14) (h2 : a ≠ 2) (h3 : a ≠ 1) (h4 : a ≠ 28) (h5 : a ≠ 29) (h : CW I N nl nc ns nn L sz) : CW (wr I a k v) N nl nc ns nn L sz := by
  obtain ⟨q1, q2, q3, q4, q5, q6, q7⟩ := h
  refine ⟨by rw [wr_ne _ _ _ (Ne.symm h1)]; exact q1, by rw [wr_ne _ _ _ (Ne.symm h2)]; exact q2, by rw [wr_ne _ _ _ (Ne.symm h2)]; exact q3, by rw [wr_ne _ _ _ (Ne.symm h2)]; exact q4, by rw [wr_ne _ _ _ (Ne.symm h2)]; exact q5, by rw [wr_ne _ _ _ (Ne.symm h3)]; exact q6, fun l hl => ?_⟩
  unfold RowI
  rw [wr_ne _ _ _ (Ne.symm h4), wr_ne _ _ _ (Ne.symm h5)]
  exact q7 l hl
theorem CW.ins {I : Nat → Nat → Int32} {N nl nc ns nn L l r c : Nat} {sz : Nat → Nat} (hl : l < 3) (hc : c < 60) (hr : r ≤ sz l) (hs : sz l < 60) (h : CW I N nl nc ns nn L sz) : CW (kIns I l (sz l) r (nI c)) N nl nc ns nn L (va_up sz l (sz l + 1)) := by
  obtain ⟨q1, q2, q3, q4, q5, q6, q7⟩ := h
  refine ⟨by rw [kIns_ne _ _ _ _ _ (by decide) (by decide)]; exact q1, by rw [kIns_ne _ _ _ _ _ (by decide) (by decide)]; exact q2, by rw [kIns_ne _ _ _ _ _ (by decide) (by decide)]; exact q3, by rw [kIns_ne _ _ _ _ _ (by decide) (by decide)]; exact q4, by rw [kIns_ne _ _ _ _ _ (by decide) (by decide)]; exact q5, by rw [kIns_ne _ _ _ _ _ (by decide) (by decide)]; exact q6, fun l2 hl2 => ?_⟩
  obtain ⟨w1, w2, w3⟩ := q7 l2 hl2
  unfold RowI
  rw [kIns_28, kIns_29, up_if, up_if]
  by_cases hll : l2 = l
  · subst hll
    rw [if_pos rfl, if_pos rfl]
    refine ⟨rfl, by omega, fun j hj => ?_⟩
    rw [ins_at]
    split
    · exact ⟨c, hc, rfl⟩
    · split
      · next e1 e2 =>
        obtain ⟨c2, e3, e4⟩ := w3 (j - 1) (by omega)
        refine ⟨c2, e3, ?_⟩
        rw [show l2 * 60 + j - 1 = l2 * 60 + (j - 1) by omega]
        exact e4
      · exact w3 j (by omega)
  · rw [if_neg hll, if_neg hll]
    refine ⟨w1, w2, fun j hj => ?_⟩
    rw [ins_at, if_neg (by omega), if_neg (by omega)]
    exact w3 j hj
theorem CW.rem {I : Nat → Nat → Int32} {N nl nc ns nn L l s r : Nat} {sz : Nat → Nat} (hl : l < 3) (hs : sz l = s + 1) (hr : r ≤ s) (h : CW I N nl nc ns nn L sz) : CW (kRem I l s r) N nl nc ns nn L (va_up sz l s) := by
  obtain ⟨q1, q2, q3, q4, q5, q6, q7⟩ := h
  refine ⟨by rw [kRem_ne _ _ _ _ (by decide) (by decide)]; exact q1, by rw [kRem_ne _ _ _ _ (by decide) (by decide)]; exact q2, by rw [kRem_ne _ _ _ _ (by decide) (by decide)]; exact q3, by rw [kRem_ne _ _ _ _ (by decide) (by decide)]; exact q4, by rw [kRem_ne _ _ _ _ (by decide) (by decide)]; exact q5, by rw [kRem_ne _ _ _ _ (by decide) (by decide)]; exact q6, fun l2 hl2 => ?_⟩
  obtain ⟨w1, w2, w3⟩ := q7 l2 hl2
  unfold RowI
  rw [kRem_28, kRem_29, up_if, up_if]
  by_cases hll : l2 = l
  · subst hll
    rw [if_pos rfl, if_pos rfl]
    refine ⟨rfl, by omega, fun j hj => ?_⟩
    rw [rmv]
    split
    · exact w3 (j + 1) (by omega)
    · exact w3 j (by omega)
  · rw [if_neg hll, if_neg hll]
    refine ⟨w1, w2, fun j hj => ?_⟩
    have hs60 := (q7 l hl).2.1
    rw [rmv, if_neg (by omega)]
    exact w3 j hj
def k_in (I : Nat → Nat → Int32) (nl nc ns l s w : Nat) : Nat → Nat → Int32 :=
  let I1 := wr I 20 w 1
  let I2 := wr I1 21 w (I1 16 w)
  let I3 := wr I2 23 w (I2 13 4)
  let I4 := wr I3 25 w (I3 13 4)
  let I5 := kIns I4 l s s (nI w)
  wr I5 22 w (if k_alw (k_gap I5 nl nc ns l s w) < I5 17 w then k_alw (k_gap I5 nl nc ns l s w) else I5 17 w)
def k_letIn (I : Nat → Nat → Int32) (N nl nc ns l s k0 : Nat) : Nat → Nat → Int32 :=
  let w := k_fw I (nI l) (N - k0) k0
  let I0 := wr I 30 l (nI w)
  if w < N ∧ k_room I0 (I0 16 w) (k_ld I0 l s) = true then k_in I0 nl nc ns l s w else I0
abbrev k_bet (I : Nat → Nat → Int32) (nl nc ns L : Nat) (sz : Nat → Nat) (c : Nat) (gp v : Int32) : Prop :=
  (0 ≤ v.toInt ∧ v.toInt < L) ∧ (¬ k_gap I nl nc ns v.toNatClampNeg (k_rk I v.toNatClampNeg (I 21 c) (sz v.toNatClampNeg) 0) c - gp < 500 ∧ k_fb I c (k_ld I v.toNatClampNeg (k_rk I v.toNatClampNeg (I 21 c) (sz v.toNatClampNeg) 0)) = true ∧ ∀ i, i < sz v.toNatClampNeg → k_rk I v.toNatClampNeg (I 21 c) (sz v.toNatClampNeg) 0 ≤ i → ¬ k_cl I c (rw_ I v.toNatClampNeg i))
def k_chTo (I : Nat → Nat → Int32) (l s l2 s2 r c : Nat) : Nat → Nat → Int32 :=
  let I1 := kRem I l s r
  let I2 := kIns I1 l2 s2 (k_rk I1 l2 (I1 21 c) s2 0) (nI c)
  let I3 := wr I2 19 c (nI l2)
  let I4 := wr I3 25 c (I3 13 4)
  wr I4 13 7 (I4 13 7 + 1)
theorem k_bet_N {I : Nat → Nat → Int32} {nl nc ns L l2 : Nat} {sz : Nat → Nat} {c : Nat} {gp : Int32} (h : l2 < 2147483648) : k_bet I nl nc ns L sz c gp (nI l2) ↔ l2 < L ∧ (¬ k_gap I nl nc ns l2 (k_rk I l2 (I 21 c) (sz l2) 0) c - gp < 500 ∧ k_fb I c (k_ld I l2 (k_rk I l2 (I 21 c) (sz l2) 0)) = true ∧ ∀ i, i < sz l2 → k_rk I l2 (I 21 c) (sz l2) 0 ≤ i → ¬ k_cl I c (rw_ I l2 i)) := by
  unfold k_bet
  rw [ti_nI h, cl_nI h]
  constructor
  · rintro ⟨h1, h2⟩
    exact ⟨by omega, h2⟩
  · rintro ⟨h1, h2⟩
    exact ⟨by omega, h2⟩
section
variable {g : GT} {n z : Nat} {S : Nat → Nat × Nat} {I : Nat → Nat → Int32} {J : Nat → Nat → Int64} {R : Nat → Nat → Option Nat}
set_option maxRecDepth 100000 in set_option maxHeartbeats 4000000 in
theorem k_letInC (hs : ShC S R) {N nl nc ns nn L l k0 : Nat} {sz : Nat → Nat} (hw : CW I N nl nc ns nn L sz) (hl : l < 3) (hk : I 30 l = nI k0) (hk0 : k0 ≤ N) (hroom : k_fw I (nI l) (N - k0) k0 < N → sz l < 60) : Cn g M_Road_letIn 3 0 0 [.ref (gB g + 1), .int (nI l)] (n, z, S, I, J, R) (Is none (n, z, S, k_letIn I N nl nc ns l (sz l) k0, J, R)) := by
  have hs' := hs; obtain ⟨⟨s0, s1, s2, s3, s4, s5, s6, s7, s8, s9, s10, s11, s12, s13, s14, s15, s16, s17, s18, s19, s20, s21, s22, s23, s24, s25, s26, s27, s28, s29, s30, s31, s32⟩, r0_3, r0_4, r0_5, r0_6, r1_0, r1_1, r1_2, r1_3, r2_0, r2_1, r2_2, r2_3, r2_4, r2_5, r2_6, r2_7, r2_8, r2_9, r13_0, r13_1, r13_2, r13_3, r14_0, r14_1, r14_2, r14_3, r14_4, r14_5, r14_6, r14_7, r14_8, r14_9, r14_10, r14_11, r27_0, r27_1⟩ := hs'
  obtain ⟨hN, hN60⟩ := hw.1
  refine cn_go (ls := [some (.ref (gB g + 1)), some (.int (nI l)), none, none]) kc_Road_letIn (by decide) rfl rfl ?_
  generalize hQ : Is none (n, z, S, k_letIn I N nl nc ns l (sz l) k0, J, R) = Q
  rw [k_letIn] at hQ
  refine go_wp B_Road_letIn_0_ok ?_; simp only [B_Road_letIn_0, ↓q_nil, ↓q_iconst, ↓q_bipush, ↓q_sipush, ↓q_ldc, ↓q_lconst, ↓q_ldc2, ↓q_null, ↓q_iload, ↓q_iload_n, ↓q_lload, ↓q_lload_n, ↓q_aload, ↓q_aload_n, ↓q_istore, ↓q_istore_n, ↓q_lstore, ↓q_lstore_n, ↓q_astore, ↓q_astore_n, ↓q_iinc, ↓q_iadd, ↓q_isub, ↓q_imul, ↓q_iand, ↓q_idiv, ↓q_irem, ↓q_ineg, ↓q_ladd, ↓q_lsub, ↓q_lmul, ↓q_land, ↓q_ldiv, ↓q_lrem, ↓q_i2l, ↓q_l2i, ↓q_dup, ↓q_pop, ↓q_dup2, ↓q_dup_x1, ↓q_goto, ↓q_if_eq, ↓q_if_ne, ↓q_if_lt, ↓q_if_ge, ↓q_if_gt, ↓q_if_le, ↓q_icmp_eq, ↓q_icmp_ne, ↓q_icmp_lt, ↓q_icmp_ge, ↓q_icmp_gt, ↓q_icmp_le, ↓q_ifnullN, ↓q_ifnull, ↓q_ifnonnullN, ↓q_ifnonnull, ↓q_table, ↓q_lookup, ↓q_getf, ↓q_putI, ↓q_putJ, ↓q_putR, ↓q_iald, ↓q_sld, ↓q_slen, ↓q_alen, ↓q_iast, ↓q_bald, ↓q_bast, ↓q_aald, ↓q_aast, ↓q_newa, ↓q_newq, ↓q_new, ↓q_objInit, ↓q_max, ↓q_min, ↓q_copy, ↓q_callS0, ↓q_callV0, ↓q_callI0, ↓q_callS1, ↓q_callV1, ↓q_callI1, ↓q_callS2, ↓q_callV2, ↓q_callI2, ↓q_callS3, ↓q_callV3, ↓q_callI3, ↓q_callS4, ↓q_callV4, ↓q_callI4, ↓q_callS5, ↓q_callV5, ↓q_callI5, ↓q_callS6, ↓q_callV6, ↓q_callI6, ↓q_callS7, ↓q_callV7, ↓q_callI7, ↓q_callS8, ↓q_callV8, ↓q_callI8, ↓q_iret, ↓q_lret, ↓q_vret, q_e_i_int, q_e_l_long, q_e_a_ref, q_e_a_null, q_cat_int, q_cat_ref, q_cat_null, q_cat_long, q_na_int, q_lgt_z, q_lgt_s, q_lst0, q_lst1, q_lstS, q_lst20, q_lst21, q_lst2S, q_clr_i, q_clr_r, q_clr_n, q_clr_0, q_clr_l, q_cv_i, q_cv_l, q_cv_r, q_rv_s, q_rv_n, q_toL_s, q_toL_n, true_and, and_true, Nat.reduceAdd, s0, s1, s2, s3, s4, s5, s6, s7, s8, s9, s10, s11, s12, s13, s14, s15, s16, s17, s18, s19, s20, s21, s22, s23, s24, s25, s26, s27, s28, s29, s30, s31, s32, r0_3, r0_4, r0_5, r0_6, r1_0, r1_1, r1_2, r1_3, r2_0, r2_1, r2_2, r2_3, r2_4, r2_5, r2_6, r2_7, r2_8, r2_9, r13_0, r13_1, r13_2, r13_3, r14_0, r14_1, r14_2, r14_3, r14_4, r14_5, r14_6, r14_7, r14_8, r14_9, r14_10, r14_11, r27_0, r27_1]
  refine call_ro (k_longest hs hl hN hN60 hk hk0) (by decide) rfl (Nat.le_refl _) (Nat.le_refl _) ?_
  have hwN : k_fw I (nI l) (N - k0) k0 ≤ N := by have := k_fw_le (I := I) (l := nI l) (N - k0) k0; omega
  generalize k_fw I (nI l) (N - k0) k0 = w at hQ hroom hwN ⊢
  have hw0 : CW (wr I 30 l (nI w)) N nl nc ns nn L sz := hw.wr (by decide) (by decide) (by decide) (by decide) (by decide)
  have eW : va_up I 30 (va_up (I 30) l (nI w)) = wr I 30 l (nI w) := rfl
  rw [eW]
  generalize wr I 30 l (nI w) = I0 at hQ hw0 ⊢
  simp only [↓q_nil, ↓q_iconst, ↓q_bipush, ↓q_sipush, ↓q_ldc, ↓q_lconst, ↓q_ldc2, ↓q_null, ↓q_iload, ↓q_iload_n, ↓q_lload, ↓q_lload_n, ↓q_aload, ↓q_aload_n, ↓q_istore, ↓q_istore_n, ↓q_lstore, ↓q_lstore_n, ↓q_astore, ↓q_astore_n, ↓q_iinc, ↓q_iadd, ↓q_isub, ↓q_imul, ↓q_iand, ↓q_idiv, ↓q_irem, ↓q_ineg, ↓q_ladd, ↓q_lsub, ↓q_lmul, ↓q_land, ↓q_ldiv, ↓q_lrem, ↓q_i2l, ↓q_l2i, ↓q_dup, ↓q_pop, ↓q_dup2, ↓q_dup_x1, ↓q_goto, ↓q_if_eq, ↓q_if_ne, ↓q_if_lt, ↓q_if_ge, ↓q_if_gt, ↓q_if_le, ↓q_icmp_eq, ↓q_icmp_ne, ↓q_icmp_lt, ↓q_icmp_ge, ↓q_icmp_gt, ↓q_icmp_le, ↓q_ifnullN, ↓q_ifnull, ↓q_ifnonnullN, ↓q_ifnonnull, ↓q_table, ↓q_lookup, ↓q_getf, ↓q_putI, ↓q_putJ, ↓q_putR, ↓q_iald, ↓q_sld, ↓q_slen, ↓q_alen, ↓q_iast, ↓q_bald, ↓q_bast, ↓q_aald, ↓q_aast, ↓q_newa, ↓q_newq, ↓q_new, ↓q_objInit, ↓q_max, ↓q_min, ↓q_copy, ↓q_callS0, ↓q_callV0, ↓q_callI0, ↓q_callS1, ↓q_callV1, ↓q_callI1, ↓q_callS2, ↓q_callV2, ↓q_callI2, ↓q_callS3, ↓q_callV3, ↓q_callI3, ↓q_callS4, ↓q_callV4, ↓q_callI4, ↓q_callS5, ↓q_callV5, ↓q_callI5, ↓q_callS6, ↓q_callV6, ↓q_callI6, ↓q_callS7, ↓q_callV7, ↓q_callI7, ↓q_callS8, ↓q_callV8, ↓q_callI8, ↓q_iret, ↓q_lret, ↓q_vret, q_e_i_int, q_e_l_long, q_e_a_ref, q_e_a_null, q_cat_int, q_cat_ref, q_cat_null, q_cat_long, q_na_int, q_lgt_z, q_lgt_s, q_lst0, q_lst1, q_lstS, q_lst20, q_lst21, q_lst2S, q_clr_i, q_clr_r, q_clr_n, q_clr_0, q_clr_l, q_cv_i, q_cv_l, q_cv_r, q_rv_s, q_rv_n, q_toL_s, q_toL_n, true_and, and_true, Nat.reduceAdd, s0, s1, s2, s3, s4, s5, s6, s7, s8, s9, s10, s11, s12, s13, s14, s15, s16, s17, s18, s19, s20, s21, s22, s23, s24, s25, s26, s27, s28, s29, s30, s31, s32, r0_3, r0_4, r0_5, r0_6, r1_0, r1_1, r1_2, r1_3, r2_0, r2_1, r2_2, r2_3, r2_4, r2_5, r2_6, r2_7, r2_8, r2_9, r13_0, r13_1, r13_2, r13_3, r14_0, r14_1, r14_2, r14_3, r14_4, r14_5, r14_6, r14_7, r14_8, r14_9, r14_10, r14_11, r27_0, r27_1]
  by_cases hlt : w < N
  · rw [if_pos hlt]
    have hw60 : w < 60 := by omega
    have hvw := vp_nI hw60 (show 60 < 2147483648 by decide)
    refine ⟨fun h => absurd h (oV_m1 hw60), fun _ => ?_⟩
    simp only [cl_nI (show w < 2147483648 by omega)]
    refine ⟨hvw, ?_⟩
    refine call_ro (k_hasRoom hs hl (hw0.2.2.2.2.2.2 l hl)) (by decide) rfl (Nat.le_refl _) (Nat.le_refl _) ?_
    simp only [↓q_nil, ↓q_iconst, ↓q_bipush, ↓q_sipush, ↓q_ldc, ↓q_lconst, ↓q_ldc2, ↓q_null, ↓q_iload, ↓q_iload_n, ↓q_lload, ↓q_lload_n, ↓q_aload, ↓q_aload_n, ↓q_istore, ↓q_istore_n, ↓q_lstore, ↓q_lstore_n, ↓q_astore, ↓q_astore_n, ↓q_iinc, ↓q_iadd, ↓q_isub, ↓q_imul, ↓q_iand, ↓q_idiv, ↓q_irem, ↓q_ineg, ↓q_ladd, ↓q_lsub, ↓q_lmul, ↓q_land, ↓q_ldiv, ↓q_lrem, ↓q_i2l, ↓q_l2i, ↓q_dup, ↓q_pop, ↓q_dup2, ↓q_dup_x1, ↓q_goto, ↓q_if_eq, ↓q_if_ne, ↓q_if_lt, ↓q_if_ge, ↓q_if_gt, ↓q_if_le, ↓q_icmp_eq, ↓q_icmp_ne, ↓q_icmp_lt, ↓q_icmp_ge, ↓q_icmp_gt, ↓q_icmp_le, ↓q_ifnullN, ↓q_ifnull, ↓q_ifnonnullN, ↓q_ifnonnull, ↓q_table, ↓q_lookup, ↓q_getf, ↓q_putI, ↓q_putJ, ↓q_putR, ↓q_iald, ↓q_sld, ↓q_slen, ↓q_alen, ↓q_iast, ↓q_bald, ↓q_bast, ↓q_aald, ↓q_aast, ↓q_newa, ↓q_newq, ↓q_new, ↓q_objInit, ↓q_max, ↓q_min, ↓q_copy, ↓q_callS0, ↓q_callV0, ↓q_callI0, ↓q_callS1, ↓q_callV1, ↓q_callI1, ↓q_callS2, ↓q_callV2, ↓q_callI2, ↓q_callS3, ↓q_callV3, ↓q_callI3, ↓q_callS4, ↓q_callV4, ↓q_callI4, ↓q_callS5, ↓q_callV5, ↓q_callI5, ↓q_callS6, ↓q_callV6, ↓q_callI6, ↓q_callS7, ↓q_callV7, ↓q_callI7, ↓q_callS8, ↓q_callV8, ↓q_callI8, ↓q_iret, ↓q_lret, ↓q_vret, q_e_i_int, q_e_l_long, q_e_a_ref, q_e_a_null, q_cat_int, q_cat_ref, q_cat_null, q_cat_long, q_na_int, q_lgt_z, q_lgt_s, q_lst0, q_lst1, q_lstS, q_lst20, q_lst21, q_lst2S, q_clr_i, q_clr_r, q_clr_n, q_clr_0, q_clr_l, q_cv_i, q_cv_l, q_cv_r, q_rv_s, q_rv_n, q_toL_s, q_toL_n, true_and, and_true, Nat.reduceAdd, s0, s1, s2, s3, s4, s5, s6, s7, s8, s9, s10, s11, s12, s13, s14, s15, s16, s17, s18, s19, s20, s21, s22, s23, s24, s25, s26, s27, s28, s29, s30, s31, s32, r0_3, r0_4, r0_5, r0_6, r1_0, r1_1, r1_2, r1_3, r2_0, r2_1, r2_2, r2_3, r2_4, r2_5, r2_6, r2_7, r2_8, r2_9, r13_0, r13_1, r13_2, r13_3, r14_0, r14_1, r14_2, r14_3, r14_4, r14_5, r14_6, r14_7, r14_8, r14_9, r14_10, r14_11, r27_0, r27_1]
    refine ⟨fun e1 => ?_, fun e1 => ?_⟩
    · rw [if_neg (fun q => bI_eq e1 q.2)] at hQ
      refine go_wp B_Road_letIn_31_ok ?_; simp only [B_Road_letIn_31, ↓q_nil, ↓q_iconst, ↓q_bipush, ↓q_sipush, ↓q_ldc, ↓q_lconst, ↓q_ldc2, ↓q_null, ↓q_iload, ↓q_iload_n, ↓q_lload, ↓q_lload_n, ↓q_aload, ↓q_aload_n, ↓q_istore, ↓q_istore_n, ↓q_lstore, ↓q_lstore_n, ↓q_astore, ↓q_astore_n, ↓q_iinc, ↓q_iadd, ↓q_isub, ↓q_imul, ↓q_iand, ↓q_idiv, ↓q_irem, ↓q_ineg, ↓q_ladd, ↓q_lsub, ↓q_lmul, ↓q_land, ↓q_ldiv, ↓q_lrem, ↓q_i2l, ↓q_l2i, ↓q_dup, ↓q_pop, ↓q_dup2, ↓q_dup_x1, ↓q_goto, ↓q_if_eq, ↓q_if_ne, ↓q_if_lt, ↓q_if_ge, ↓q_if_gt, ↓q_if_le, ↓q_icmp_eq, ↓q_icmp_ne, ↓q_icmp_lt, ↓q_icmp_ge, ↓q_icmp_gt, ↓q_icmp_le, ↓q_ifnullN, ↓q_ifnull, ↓q_ifnonnullN, ↓q_ifnonnull, ↓q_table, ↓q_lookup, ↓q_getf, ↓q_putI, ↓q_putJ, ↓q_putR, ↓q_iald, ↓q_sld, ↓q_slen, ↓q_alen, ↓q_iast, ↓q_bald, ↓q_bast, ↓q_aald, ↓q_aast, ↓q_newa, ↓q_newq, ↓q_new, ↓q_objInit, ↓q_max, ↓q_min, ↓q_copy, ↓q_callS0, ↓q_callV0, ↓q_callI0, ↓q_callS1, ↓q_callV1, ↓q_callI1, ↓q_callS2, ↓q_callV2, ↓q_callI2, ↓q_callS3, ↓q_callV3, ↓q_callI3, ↓q_callS4, ↓q_callV4, ↓q_callI4, ↓q_callS5, ↓q_callV5, ↓q_callI5, ↓q_callS6, ↓q_callV6, ↓q_callI6, ↓q_callS7, ↓q_callV7, ↓q_callI7, ↓q_callS8, ↓q_callV8, ↓q_callI8, ↓q_iret, ↓q_lret, ↓q_vret, q_e_i_int, q_e_l_long, q_e_a_ref, q_e_a_null, q_cat_int, q_cat_ref, q_cat_null, q_cat_long, q_na_int, q_lgt_z, q_lgt_s, q_lst0, q_lst1, q_lstS, q_lst20, q_lst21, q_lst2S, q_clr_i, q_clr_r, q_clr_n, q_clr_0, q_clr_l, q_cv_i, q_cv_l, q_cv_r, q_rv_s, q_rv_n, q_toL_s, q_toL_n, true_and, and_true, Nat.reduceAdd, s0, s1, s2, s3, s4, s5, s6, s7, s8, s9, s10, s11, s12, s13, s14, s15, s16, s17, s18, s19, s20, s21, s22, s23, s24, s25, s26, s27, s28, s29, s30, s31, s32, r0_3, r0_4, r0_5, r0_6, r1_0, r1_1, r1_2, r1_3, r2_0, r2_1, r2_2, r2_3, r2_4, r2_5, r2_6, r2_7, r2_8, r2_9, r13_0, r13_1, r13_2, r13_3, r14_0, r14_1, r14_2, r14_3, r14_4, r14_5, r14_6, r14_7, r14_8, r14_9, r14_10, r14_11, r27_0, r27_1]
      rw [← hQ]
      exact ⟨rfl, rfl, rfl, rfl⟩
    · rw [if_pos ⟨hlt, bI_ne e1⟩, k_in] at hQ
      have hs60 := hroom hlt
      refine go_wp B_Road_letIn_32_ok ?_; simp only [B_Road_letIn_32, ↓q_nil, ↓q_iconst, ↓q_bipush, ↓q_sipush, ↓q_ldc, ↓q_lconst, ↓q_ldc2, ↓q_null, ↓q_iload, ↓q_iload_n, ↓q_lload, ↓q_lload_n, ↓q_aload, ↓q_aload_n, ↓q_istore, ↓q_istore_n, ↓q_lstore, ↓q_lstore_n, ↓q_astore, ↓q_astore_n, ↓q_iinc, ↓q_iadd, ↓q_isub, ↓q_imul, ↓q_iand, ↓q_idiv, ↓q_irem, ↓q_ineg, ↓q_ladd, ↓q_lsub, ↓q_lmul, ↓q_land, ↓q_ldiv, ↓q_lrem, ↓q_i2l, ↓q_l2i, ↓q_dup, ↓q_pop, ↓q_dup2, ↓q_dup_x1, ↓q_goto, ↓q_if_eq, ↓q_if_ne, ↓q_if_lt, ↓q_if_ge, ↓q_if_gt, ↓q_if_le, ↓q_icmp_eq, ↓q_icmp_ne, ↓q_icmp_lt, ↓q_icmp_ge, ↓q_icmp_gt, ↓q_icmp_le, ↓q_ifnullN, ↓q_ifnull, ↓q_ifnonnullN, ↓q_ifnonnull, ↓q_table, ↓q_lookup, ↓q_getf, ↓q_putI, ↓q_putJ, ↓q_putR, ↓q_iald, ↓q_sld, ↓q_slen, ↓q_alen, ↓q_iast, ↓q_bald, ↓q_bast, ↓q_aald, ↓q_aast, ↓q_newa, ↓q_newq, ↓q_new, ↓q_objInit, ↓q_max, ↓q_min, ↓q_copy, ↓q_callS0, ↓q_callV0, ↓q_callI0, ↓q_callS1, ↓q_callV1, ↓q_callI1, ↓q_callS2, ↓q_callV2, ↓q_callI2, ↓q_callS3, ↓q_callV3, ↓q_callI3, ↓q_callS4, ↓q_callV4, ↓q_callI4, ↓q_callS5, ↓q_callV5, ↓q_callI5, ↓q_callS6, ↓q_callV6, ↓q_callI6, ↓q_callS7, ↓q_callV7, ↓q_callI7, ↓q_callS8, ↓q_callV8, ↓q_callI8, ↓q_iret, ↓q_lret, ↓q_vret, q_e_i_int, q_e_l_long, q_e_a_ref, q_e_a_null, q_cat_int, q_cat_ref, q_cat_null, q_cat_long, q_na_int, q_lgt_z, q_lgt_s, q_lst0, q_lst1, q_lstS, q_lst20, q_lst21, q_lst2S, q_clr_i, q_clr_r, q_clr_n, q_clr_0, q_clr_l, q_cv_i, q_cv_l, q_cv_r, q_rv_s, q_rv_n, q_toL_s, q_toL_n, true_and, and_true, Nat.reduceAdd, s0, s1, s2, s3, s4, s5, s6, s7, s8, s9, s10, s11, s12, s13, s14, s15, s16, s17, s18, s19, s20, s21, s22, s23, s24, s25, s26, s27, s28, s29, s30, s31, s32, r0_3, r0_4, r0_5, r0_6, r1_0, r1_1, r1_2, r1_3, r2_0, r2_1, r2_2, r2_3, r2_4, r2_5, r2_6, r2_7, r2_8, r2_9, r13_0, r13_1, r13_2, r13_3, r14_0, r14_1, r14_2, r14_3, r14_4, r14_5, r14_6, r14_7, r14_8, r14_9, r14_10, r14_11, r27_0, r27_1, f_wr, cl_nI (show w < 2147483648 by omega), cl_nI (show l < 2147483648 by omega)]
      refine ⟨hvw, hvw, hvw, hvw, hvw, vp_nI hl (by decide), ?_⟩
      have hw4 : CW (wr (wr (wr (wr I0 20 w 1) 21 w (wr I0 20 w 1 16 w)) 23 w (wr (wr I0 20 w 1) 21 w (wr I0 20 w 1 16 w) 13 4)) 25 w (wr (wr (wr I0 20 w 1) 21 w (wr I0 20 w 1 16 w)) 23 w (wr (wr I0 20 w 1) 21 w (wr I0 20 w 1 16 w) 13 4) 13 4)) N nl nc ns nn L sz := (((hw0.wr (by decide) (by decide) (by decide) (by decide) (by decide)).wr (by decide) (by decide) (by decide) (by decide) (by decide)).wr (by decide) (by decide) (by decide) (by decide) (by decide)).wr (by decide) (by decide) (by decide) (by decide) (by decide)
      have hrow4 := hw4.2.2.2.2.2.2 l hl
      have hw5 := hw4.ins hl hw60 (Nat.le_refl _) hs60
      generalize hI4 : wr (wr (wr (wr I0 20 w 1) 21 w (wr I0 20 w 1 16 w)) 23 w (wr (wr I0 20 w 1) 21 w (wr I0 20 w 1 16 w) 13 4)) 25 w (wr (wr (wr I0 20 w 1) 21 w (wr I0 20 w 1 16 w)) 23 w (wr (wr I0 20 w 1) 21 w (wr I0 20 w 1 16 w) 13 4) 13 4) = I4 at hQ hw4 hrow4 hw5
      rw [hrow4.1]
      refine call_ro (k_insert hs hl hrow4.1 hs60 (Nat.le_refl _)) (by decide) rfl (Nat.le_refl _) (Nat.le_refl _) ?_
      have eI : va_up (va_up I4 28 (ins (I4 28) (l * 60) (sz l) (sz l) (nI w))) 29 (va_up (I4 29) l (nI (sz l + 1))) = kIns I4 l (sz l) (sz l) (nI w) := rfl
      rw [eI]
      generalize kIns I4 l (sz l) (sz l) (nI w) = I5 at hQ hw5 ⊢
      simp only [↓q_nil, ↓q_iconst, ↓q_bipush, ↓q_sipush, ↓q_ldc, ↓q_lconst, ↓q_ldc2, ↓q_null, ↓q_iload, ↓q_iload_n, ↓q_lload, ↓q_lload_n, ↓q_aload, ↓q_aload_n, ↓q_istore, ↓q_istore_n, ↓q_lstore, ↓q_lstore_n, ↓q_astore, ↓q_astore_n, ↓q_iinc, ↓q_iadd, ↓q_isub, ↓q_imul, ↓q_iand, ↓q_idiv, ↓q_irem, ↓q_ineg, ↓q_ladd, ↓q_lsub, ↓q_lmul, ↓q_land, ↓q_ldiv, ↓q_lrem, ↓q_i2l, ↓q_l2i, ↓q_dup, ↓q_pop, ↓q_dup2, ↓q_dup_x1, ↓q_goto, ↓q_if_eq, ↓q_if_ne, ↓q_if_lt, ↓q_if_ge, ↓q_if_gt, ↓q_if_le, ↓q_icmp_eq, ↓q_icmp_ne, ↓q_icmp_lt, ↓q_icmp_ge, ↓q_icmp_gt, ↓q_icmp_le, ↓q_ifnullN, ↓q_ifnull, ↓q_ifnonnullN, ↓q_ifnonnull, ↓q_table, ↓q_lookup, ↓q_getf, ↓q_putI, ↓q_putJ, ↓q_putR, ↓q_iald, ↓q_sld, ↓q_slen, ↓q_alen, ↓q_iast, ↓q_bald, ↓q_bast, ↓q_aald, ↓q_aast, ↓q_newa, ↓q_newq, ↓q_new, ↓q_objInit, ↓q_max, ↓q_min, ↓q_copy, ↓q_callS0, ↓q_callV0, ↓q_callI0, ↓q_callS1, ↓q_callV1, ↓q_callI1, ↓q_callS2, ↓q_callV2, ↓q_callI2, ↓q_callS3, ↓q_callV3, ↓q_callI3, ↓q_callS4, ↓q_callV4, ↓q_callI4, ↓q_callS5, ↓q_callV5, ↓q_callI5, ↓q_callS6, ↓q_callV6, ↓q_callI6, ↓q_callS7, ↓q_callV7, ↓q_callI7, ↓q_callS8, ↓q_callV8, ↓q_callI8, ↓q_iret, ↓q_lret, ↓q_vret, q_e_i_int, q_e_l_long, q_e_a_ref, q_e_a_null, q_cat_int, q_cat_ref, q_cat_null, q_cat_long, q_na_int, q_lgt_z, q_lgt_s, q_lst0, q_lst1, q_lstS, q_lst20, q_lst21, q_lst2S, q_clr_i, q_clr_r, q_clr_n, q_clr_0, q_clr_l, q_cv_i, q_cv_l, q_cv_r, q_rv_s, q_rv_n, q_toL_s, q_toL_n, true_and, and_true, Nat.reduceAdd, s0, s1, s2, s3, s4, s5, s6, s7, s8, s9, s10, s11, s12, s13, s14, s15, s16, s17, s18, s19, s20, s21, s22, s23, s24, s25, s26, s27, s28, s29, s30, s31, s32, r0_3, r0_4, r0_5, r0_6, r1_0, r1_1, r1_2, r1_3, r2_0, r2_1, r2_2, r2_3, r2_4, r2_5, r2_6, r2_7, r2_8, r2_9, r13_0, r13_1, r13_2, r13_3, r14_0, r14_1, r14_2, r14_3, r14_4, r14_5, r14_6, r14_7, r14_8, r14_9, r14_10, r14_11, r27_0, r27_1, f_wr, cl_nI (show w < 2147483648 by omega)]
      refine ⟨hvw, ?_⟩
      refine call_ro (k_gapIn hs (r := sz l) hw5 hl (by rw [up_s]; omega) hw60) (by decide) rfl (Nat.le_refl _) (Nat.le_refl _) ?_
      simp only [↓q_nil, ↓q_iconst, ↓q_bipush, ↓q_sipush, ↓q_ldc, ↓q_lconst, ↓q_ldc2, ↓q_null, ↓q_iload, ↓q_iload_n, ↓q_lload, ↓q_lload_n, ↓q_aload, ↓q_aload_n, ↓q_istore, ↓q_istore_n, ↓q_lstore, ↓q_lstore_n, ↓q_astore, ↓q_astore_n, ↓q_iinc, ↓q_iadd, ↓q_isub, ↓q_imul, ↓q_iand, ↓q_idiv, ↓q_irem, ↓q_ineg, ↓q_ladd, ↓q_lsub, ↓q_lmul, ↓q_land, ↓q_ldiv, ↓q_lrem, ↓q_i2l, ↓q_l2i, ↓q_dup, ↓q_pop, ↓q_dup2, ↓q_dup_x1, ↓q_goto, ↓q_if_eq, ↓q_if_ne, ↓q_if_lt, ↓q_if_ge, ↓q_if_gt, ↓q_if_le, ↓q_icmp_eq, ↓q_icmp_ne, ↓q_icmp_lt, ↓q_icmp_ge, ↓q_icmp_gt, ↓q_icmp_le, ↓q_ifnullN, ↓q_ifnull, ↓q_ifnonnullN, ↓q_ifnonnull, ↓q_table, ↓q_lookup, ↓q_getf, ↓q_putI, ↓q_putJ, ↓q_putR, ↓q_iald, ↓q_sld, ↓q_slen, ↓q_alen, ↓q_iast, ↓q_bald, ↓q_bast, ↓q_aald, ↓q_aast, ↓q_newa, ↓q_newq, ↓q_new, ↓q_objInit, ↓q_max, ↓q_min, ↓q_copy, ↓q_callS0, ↓q_callV0, ↓q_callI0, ↓q_callS1, ↓q_callV1, ↓q_callI1, ↓q_callS2, ↓q_callV2, ↓q_callI2, ↓q_callS3, ↓q_callV3, ↓q_callI3, ↓q_callS4, ↓q_callV4, ↓q_callI4, ↓q_callS5, ↓q_callV5, ↓q_callI5, ↓q_callS6, ↓q_callV6, ↓q_callI6, ↓q_callS7, ↓q_callV7, ↓q_callI7, ↓q_callS8, ↓q_callV8, ↓q_callI8, ↓q_iret, ↓q_lret, ↓q_vret, q_e_i_int, q_e_l_long, q_e_a_ref, q_e_a_null, q_cat_int, q_cat_ref, q_cat_null, q_cat_long, q_na_int, q_lgt_z, q_lgt_s, q_lst0, q_lst1, q_lstS, q_lst20, q_lst21, q_lst2S, q_clr_i, q_clr_r, q_clr_n, q_clr_0, q_clr_l, q_cv_i, q_cv_l, q_cv_r, q_rv_s, q_rv_n, q_toL_s, q_toL_n, true_and, and_true, Nat.reduceAdd, s0, s1, s2, s3, s4, s5, s6, s7, s8, s9, s10, s11, s12, s13, s14, s15, s16, s17, s18, s19, s20, s21, s22, s23, s24, s25, s26, s27, s28, s29, s30, s31, s32, r0_3, r0_4, r0_5, r0_6, r1_0, r1_1, r1_2, r1_3, r2_0, r2_1, r2_2, r2_3, r2_4, r2_5, r2_6, r2_7, r2_8, r2_9, r13_0, r13_1, r13_2, r13_3, r14_0, r14_1, r14_2, r14_3, r14_4, r14_5, r14_6, r14_7, r14_8, r14_9, r14_10, r14_11, r27_0, r27_1]
      refine call_ro (k_allowedBy) (by decide) rfl (Nat.le_refl _) (Nat.le_refl _) ?_
      simp only [↓q_nil, ↓q_iconst, ↓q_bipush, ↓q_sipush, ↓q_ldc, ↓q_lconst, ↓q_ldc2, ↓q_null, ↓q_iload, ↓q_iload_n, ↓q_lload, ↓q_lload_n, ↓q_aload, ↓q_aload_n, ↓q_istore, ↓q_istore_n, ↓q_lstore, ↓q_lstore_n, ↓q_astore, ↓q_astore_n, ↓q_iinc, ↓q_iadd, ↓q_isub, ↓q_imul, ↓q_iand, ↓q_idiv, ↓q_irem, ↓q_ineg, ↓q_ladd, ↓q_lsub, ↓q_lmul, ↓q_land, ↓q_ldiv, ↓q_lrem, ↓q_i2l, ↓q_l2i, ↓q_dup, ↓q_pop, ↓q_dup2, ↓q_dup_x1, ↓q_goto, ↓q_if_eq, ↓q_if_ne, ↓q_if_lt, ↓q_if_ge, ↓q_if_gt, ↓q_if_le, ↓q_icmp_eq, ↓q_icmp_ne, ↓q_icmp_lt, ↓q_icmp_ge, ↓q_icmp_gt, ↓q_icmp_le, ↓q_ifnullN, ↓q_ifnull, ↓q_ifnonnullN, ↓q_ifnonnull, ↓q_table, ↓q_lookup, ↓q_getf, ↓q_putI, ↓q_putJ, ↓q_putR, ↓q_iald, ↓q_sld, ↓q_slen, ↓q_alen, ↓q_iast, ↓q_bald, ↓q_bast, ↓q_aald, ↓q_aast, ↓q_newa, ↓q_newq, ↓q_new, ↓q_objInit, ↓q_max, ↓q_min, ↓q_copy, ↓q_callS0, ↓q_callV0, ↓q_callI0, ↓q_callS1, ↓q_callV1, ↓q_callI1, ↓q_callS2, ↓q_callV2, ↓q_callI2, ↓q_callS3, ↓q_callV3, ↓q_callI3, ↓q_callS4, ↓q_callV4, ↓q_callI4, ↓q_callS5, ↓q_callV5, ↓q_callI5, ↓q_callS6, ↓q_callV6, ↓q_callI6, ↓q_callS7, ↓q_callV7, ↓q_callI7, ↓q_callS8, ↓q_callV8, ↓q_callI8, ↓q_iret, ↓q_lret, ↓q_vret, q_e_i_int, q_e_l_long, q_e_a_ref, q_e_a_null, q_cat_int, q_cat_ref, q_cat_null, q_cat_long, q_na_int, q_lgt_z, q_lgt_s, q_lst0, q_lst1, q_lstS, q_lst20, q_lst21, q_lst2S, q_clr_i, q_clr_r, q_clr_n, q_clr_0, q_clr_l, q_cv_i, q_cv_l, q_cv_r, q_rv_s, q_rv_n, q_toL_s, q_toL_n, true_and, and_true, Nat.reduceAdd, s0, s1, s2, s3, s4, s5, s6, s7, s8, s9, s10, s11, s12, s13, s14, s15, s16, s17, s18, s19, s20, s21, s22, s23, s24, s25, s26, s27, s28, s29, s30, s31, s32, r0_3, r0_4, r0_5, r0_6, r1_0, r1_1, r1_2, r1_3, r2_0, r2_1, r2_2, r2_3, r2_4, r2_5, r2_6, r2_7, r2_8, r2_9, r13_0, r13_1, r13_2, r13_3, r14_0, r14_1, r14_2, r14_3, r14_4, r14_5, r14_6, r14_7, r14_8, r14_9, r14_10, r14_11, r27_0, r27_1, cl_nI (show w < 2147483648 by omega)]
      refine ⟨by decide, rs_ok rfl, hvw, rfl, rfl, ?_⟩
      rw [← hQ]
      exact ⟨rfl, rfl⟩
  · rw [if_neg hlt]
    rw [if_neg (fun q => hlt q.1)] at hQ
    refine ⟨fun _ => ?_, fun h => by first | exact absurd rfl h | exact absurd trivial h⟩
    refine go_wp B_Road_letIn_31_ok ?_; simp only [B_Road_letIn_31, ↓q_nil, ↓q_iconst, ↓q_bipush, ↓q_sipush, ↓q_ldc, ↓q_lconst, ↓q_ldc2, ↓q_null, ↓q_iload, ↓q_iload_n, ↓q_lload, ↓q_lload_n, ↓q_aload, ↓q_aload_n, ↓q_istore, ↓q_istore_n, ↓q_lstore, ↓q_lstore_n, ↓q_astore, ↓q_astore_n, ↓q_iinc, ↓q_iadd, ↓q_isub, ↓q_imul, ↓q_iand, ↓q_idiv, ↓q_irem, ↓q_ineg, ↓q_ladd, ↓q_lsub, ↓q_lmul, ↓q_land, ↓q_ldiv, ↓q_lrem, ↓q_i2l, ↓q_l2i, ↓q_dup, ↓q_pop, ↓q_dup2, ↓q_dup_x1, ↓q_goto, ↓q_if_eq, ↓q_if_ne, ↓q_if_lt, ↓q_if_ge, ↓q_if_gt, ↓q_if_le, ↓q_icmp_eq, ↓q_icmp_ne, ↓q_icmp_lt, ↓q_icmp_ge, ↓q_icmp_gt, ↓q_icmp_le, ↓q_ifnullN, ↓q_ifnull, ↓q_ifnonnullN, ↓q_ifnonnull, ↓q_table, ↓q_lookup, ↓q_getf, ↓q_putI, ↓q_putJ, ↓q_putR, ↓q_iald, ↓q_sld, ↓q_slen, ↓q_alen, ↓q_iast, ↓q_bald, ↓q_bast, ↓q_aald, ↓q_aast, ↓q_newa, ↓q_newq, ↓q_new, ↓q_objInit, ↓q_max, ↓q_min, ↓q_copy, ↓q_callS0, ↓q_callV0, ↓q_callI0, ↓q_callS1, ↓q_callV1, ↓q_callI1, ↓q_callS2, ↓q_callV2, ↓q_callI2, ↓q_callS3, ↓q_callV3, ↓q_callI3, ↓q_callS4, ↓q_callV4, ↓q_callI4, ↓q_callS5, ↓q_callV5, ↓q_callI5, ↓q_callS6, ↓q_callV6, ↓q_callI6, ↓q_callS7, ↓q_callV7, ↓q_callI7, ↓q_callS8, ↓q_callV8, ↓q_callI8, ↓q_iret, ↓q_lret, ↓q_vret, q_e_i_int, q_e_l_long, q_e_a_ref, q_e_a_null, q_cat_int, q_cat_ref, q_cat_null, q_cat_long, q_na_int, q_lgt_z, q_lgt_s, q_lst0, q_lst1, q_lstS, q_lst20, q_lst21, q_lst2S, q_clr_i, q_clr_r, q_clr_n, q_clr_0, q_clr_l, q_cv_i, q_cv_l, q_cv_r, q_rv_s, q_rv_n, q_toL_s, q_toL_n, true_and, and_true, Nat.reduceAdd, s0, s1, s2, s3, s4, s5, s6, s7, s8, s9, s10, s11, s12, s13, s14, s15, s16, s17, s18, s19, s20, s21, s22, s23, s24, s25, s26, s27, s28, s29, s30, s31, s32, r0_3, r0_4, r0_5, r0_6, r1_0, r1_1, r1_2, r1_3, r2_0, r2_1, r2_2, r2_3, r2_4, r2_5, r2_6, r2_7, r2_8, r2_9, r13_0, r13_1, r13_2, r13_3, r14_0, r14_1, r14_2, r14_3, r14_4, r14_5, r14_6, r14_7, r14_8, r14_9, r14_10, r14_11, r27_0, r27_1]
    rw [← hQ]
    exact ⟨rfl, rfl, rfl, rfl⟩
end
