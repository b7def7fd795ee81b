/-! the class's routes -/
def omin (a b : Option Nat) : Option Nat := match b with
  | none => a
  | some y => match a with
    | none => some y
    | some x => if y < x then some y else some x
/-- the cost through a lesson, by the costs c of what comes -/
def ctF (T : TT) (c : Nat → Option Nat) (s i : Nat) : Option Nat := if (isSt T s && nxt T s i) = true then (match c (s ||| les T i) with | none => none | some v => some (hrs T (les T i) (tn T) + v)) else none
def ltU (T : TT) (c : Nat → Option Nat) (s : Nat) : Nat → Option Nat
  | 0 => none
  | k + 1 => omin (ltU T c s k) (ctF T c s k)
def cE (T : TT) (g : Nat) : Nat → Nat → Option Nat
  | 0, _ => none
  | d + 1, s => if sub g s = true then some 0 else ltU T (cE T g d) s (tn T)
/-- the least cost from a state to one that has all of g -/
def cF (T : TT) (g s : Nat) : Option Nat := cE T g (4096 - s) s
theorem ctF_cong {T : TT} {c c' : Nat → Option Nat} {s i : Nat} (hi : i < tn T) (h : ∀ z, s < z → z < 2 ^ tn T → c z = c' z) : ctF T c s i = ctF T c' s i := by
  unfold ctF
  by_cases e : (isSt T s && nxt T s i) = true
  · rw [Bool.and_eq_true] at e
    rw [h _ (nxt_gt hi e.2) (or_lt (isSt_lt e.1) (les_lt i))]
  · rw [if_neg e, if_neg e]
theorem ltU_cong {T : TT} {c c' : Nat → Option Nat} {s : Nat} (h : ∀ z, s < z → z < 2 ^ tn T → c z = c' z) : ∀ k, k ≤ tn T → ltU T c s k = ltU T c' s k := by
  intro k
  induction k with
  | zero => intro _; rfl
  | succ k ih => intro hk; rw [ltU, ltU, ih (by omega), ctF_cong (by omega) h]
theorem cE_st {T : TT} (hT : okT T) {g : Nat} : ∀ n s d, 4096 - s = n → n ≤ d → s < 4096 → cE T g d s = cE T g (4096 - s) s := by
  have hp := pw_le hT.1
  intro n
  induction n using Nat.strongRecOn with
  | _ n ih =>
    intro s d hn hd hs
    obtain ⟨e, he⟩ : ∃ e, d = e + 1 := ⟨d - 1, by omega⟩
    obtain ⟨f, hf⟩ : ∃ f, 4096 - s = f + 1 := ⟨4096 - s - 1, by omega⟩
    rw [he, hf, cE, cE]
    rw [ltU_cong (c := cE T g e) (c' := cE T g f) (fun z h1 h2 => by
      rw [ih (4096 - z) (by omega) z e rfl (by omega) (by omega), ih (4096 - z) (by omega) z f rfl (by omega) (by omega)]) (tn T) (Nat.le_refl _)]
theorem cF_eq {T : TT} (hT : okT T) {g s : Nat} (hs : s < 4096) : cF T g s = if sub g s = true then some 0 else ltU T (cF T g) s (tn T) := by
  have hp := pw_le hT.1
  obtain ⟨f, hf⟩ : ∃ f, 4096 - s = f + 1 := ⟨4096 - s - 1, by omega⟩
  unfold cF
  rw [hf, cE]
  rw [ltU_cong (c := cE T g f) (c' := fun s => cE T g (4096 - s) s) (fun z h1 h2 => cE_st hT (4096 - z) z f rfl (by omega) (by omega)) (tn T) (Nat.le_refl _)]
theorem hrs_b {T : TT} (hT : okT T) (a : Nat) : hrs T a (tn T) ≤ 1200 := by
  have := hrs_le hT (l := a) (tn T) (Nat.le_refl _)
  have := hT.1
  omega
theorem omin_b {a b : Option Nat} {v M : Nat} (h : omin a b = some v) (ha : ∀ x, a = some x → x ≤ M) (hb : ∀ x, b = some x → x ≤ M) : v ≤ M := by
  unfold omin at h
  cases b with
  | none => exact ha v h
  | some y =>
    cases a with
    | none => exact hb v h
    | some x =>
      dsimp only at h
      split at h
      · exact hb v h
      · exact ha v h
theorem ltU_b {T : TT} (hT : okT T) {c : Nat → Option Nat} {s M : Nat} (hc : ∀ z x, c z = some x → x ≤ M) : ∀ k x, ltU T c s k = some x → x ≤ M + 1200 := by
  intro k
  induction k with
  | zero => intro x h; cases h
  | succ k ih =>
    intro x h
    rw [ltU] at h
    refine omin_b h ih (fun y hy => ?_)
    unfold ctF at hy
    split at hy
    · split at hy
      · cases hy
      · rename_i v hv
        cases hy
        have := hc _ v hv
        have := hrs_b hT (les T k)
        omega
    · cases hy
theorem cE_b {T : TT} (hT : okT T) {g : Nat} : ∀ d s x, cE T g d s = some x → x ≤ 1200 * d := by
  intro d
  induction d with
  | zero => intro s x h; cases h
  | succ d ih =>
    intro s x h
    rw [cE] at h
    split at h
    · cases h; omega
    · have := ltU_b hT ih (tn T) x h
      omega
theorem cF_b {T : TT} (hT : okT T) {g s x : Nat} (h : cF T g s = some x) : x < 10000000 := by
  have := cE_b hT _ _ _ h
  omega
/-- the costs, as the class holds them, of the states from a on -/
def CoC (X : aH) (T : TT) (g a : Nat) : Prop := (∀ z, a ≤ z → isSt T z = true → aI X 30 z = oI (cF T g z)) ∧ ∀ i, i < tn T → aI X 31 i = nI (hrs T (les T i) (tn T))
theorem s_X4_costThrough {l : Launch} {X : aH} {T : TT} {g s i : Nat} (hT : okT T) (hI : ItC X T) (hS : SpC X T) (hC : CoC X T g (s + 1)) (hs : s < 4096) (hi : i < tn T) : SC l 3 yX4_costThrough [.ref 3, .int (nI s), .int (nI i)] X (rI (oI (ctF T (cF T g) s i)) X) := by
  have hn := hT.1
  have hp := pw_le hT.1
  have e13 := hI.2.2.2.2.2.2.1 i hi
  have e31 := hC.2 i hi
  have bh := hrs_b hT (les T i)
  refine Sat.of 60 wX4_costThrough (by decide) (by decide +kernel) woC lkX4 okX4_costThrough (by decide) (by simp [ents, Value.category]) (fun J hJ => ?_)
  change J 0 [.ref 3, .int (nI s), .int (nI i), .null] [] _
  refine hJ _ _ _ _ ?_
  simp (disch := omega) only [opK_some, kl_int, kl_ref, kl_null, kl_long, cargs_0, cargs_s, o_sm0, o_sm1, o_sm2, o_sm3, o_sm4, o_rc1, o_cp1, o_ii1, tsK_0, tsK_s, tl_some, tl_none, fI_sF, fI_sA, fI_sL, aI_sF, aI_sA, aI_sL, aL_sF, aL_sA, aL_sL, b_iconst, b_bipush, b_sipush, b_lconst0, b_lconst1, b_ldc, b_ldc_w, b_ldc2_w, b_iload0, b_iload1, b_iload2, b_iload3, b_iload4, b_iload5, b_iload6, b_iload7, b_iload8, b_iload9, b_iload10, b_iload11, b_istore0, b_istore1, b_istore2, b_istore3, b_istore4, b_istore5, b_istore6, b_istore7, b_istore8, b_istore9, b_istore10, b_istore11, b_lload0, b_lload1, b_lload2, b_lload3, b_lload4, b_lload5, b_lload6, b_lload7, b_lstore0, b_lstore1, b_lstore2, b_lstore3, b_lstore4, b_lstore5, b_lstore6, b_lstore7, b_aload0, b_aload1, b_aload2, b_aload3, b_aload4, b_aload5, b_aload6, b_aload7, b_iinc0, b_iinc1, b_iinc2, b_iinc3, b_iinc4, b_iinc5, b_iinc6, b_iinc7, b_iinc8, b_iinc9, b_iinc10, b_iinc11, b_iadd, b_isub, b_imul, b_iand, b_ior, b_ixor, b_ishl, b_ishr, b_iushr, b_idiv, b_irem, b_ladd, b_lmul, b_lcmp, b_i2l, b_i2b, b_i2s, b_dupI, b_dupR, b_dup2, b_getfield, b_putfield, b_iaload, b_baload, b_laload, b_aaload, b_iastore, b_bastore, b_lastore, b_alen, b_goto, b_if_eq, b_ic_eq, b_if_ne, b_ic_ne, b_if_lt, b_ic_lt, b_if_ge, b_ic_ge, b_if_gt, b_ic_gt, b_if_le, b_ic_le, b_ireturn, b_lreturn, b_return, b_tswitch, b_lswitch, b_invv, b_invs, b_nil, ci_m1, ci_0, ci_1, ci_2, ci_3, ci_4, ci_5, ci_6, ci_8, ci_16, cb_m10, cb_m4, cb_m3, cb_m2, cb_6, cb_7, cb_8, cb_10, cb_12, cb_13, cb_16, cb_32, cb_40, cb_48, cb_50, cb_63, cb_99, cb_100, cs_160, cs_256, cs_1024, cs_4095, cs_4096, q_0, q_1, q_2, q_3, q_4, q_5, q_6, q_7, q_8, q_10, q_12, q_13, q_16, q_31, q_32, q_40, q_48, q_50, q_63, q_64, q_99, q_100, q_160, q_256, q_1024, q_4095, q_4096, q_1048576, bI_t, bI_f, bI_e0, bI_0e, bI_1e, bI_e1, bI_bb, rI_i, rJ_i, rV_i, rk_00, rk_10, bI_01, q_le, q_lt, q_eq, q_cl, q_in, q_add, q_sub, q_mul, q_and, q_or, q_xor, q_dif, q_shl, q_shr, q_one, q_b1, q_t1, q_t0, q_tb, q_ds, q_nm, q_mn, q_mm, q_mlt, q_mle, q_nlt, q_nle, q_bp, q_bn, q_np, q_nn, ne12, ne13, ne14, ne21, ne23, ne24, ne31, ne32, ne34, ne41, ne42, ne43, Nat.zero_add, Nat.add_zero, eq_self, true_or, or_true, false_or, or_false, false_and, and_false, not_false_eq_true, not_true_eq_false, true_implies, false_implies, true_and, and_true, forall_const, if_true, if_false, ite_true, ite_false, Nat.reduceEqDiff, Nat.reduceAdd, Nat.reduceMul, Int.reduceAdd, Int.reduceToNat, gX4_costThrough_0, kX4_costThrough_0, jX4_costThrough_14, kX4_costThrough_14, jX4_costThrough_40, kX4_costThrough_40, jX4_costThrough_48, kX4_costThrough_48, lX4f_15, lX4f_18, lX4f_22, lX4f_34, lX4f_9, lX4m_58, rcX6_isNext, lnC_8, alC_8, lnC_9, alC_9, lnC_10, alC_10, lnC_11, alC_11, lnC_12, alC_12, lnC_13, alC_13, lnC_14, alC_14, bsC_14, lnC_15, alC_15, lnC_16, alC_16, lnC_17, alC_17, lnC_18, alC_18, lnC_19, alC_19, lnC_20, alC_20, lnC_21, alC_21, lnC_22, alC_22, lnC_23, alC_23, lnC_24, alC_24, lnC_25, alC_25, lnC_26, alC_26, lnC_27, alC_27, lnC_28, alC_28, lnC_29, alC_29, lnC_30, alC_30, lnC_31, alC_31, lnC_32, alC_32, lnC_33, alC_33, lnC_34, alC_34, lnC_35, alC_35, lnC_36, alC_36, lnC_37, alC_37, lnC_38, alC_38, bsC_38, lnC_39, alC_39, lnC_40, alC_40, lnC_41, alC_41, lnC_42, alC_42, fvC_0_0, fvC_0_1, fvC_0_2, fvC_0_3, fvC_0_4, fvC_0_5, fvC_0_6, fvC_1_0, fvC_1_1, fvC_1_2, fvC_1_3, fvC_1_4, fvC_1_5, fvC_1_6, fvC_1_7, pfC_1_7, fvC_2_0, fvC_2_1, fvC_2_2, fvC_2_3, fvC_2_4, pfC_2_4, fvC_2_5, pfC_2_5, fvC_2_6, pfC_2_6, fvC_3_0, fvC_3_1, fvC_3_2, fvC_3_3, fvC_4_0, fvC_4_1, fvC_4_2, fvC_4_3, fvC_4_4, fvC_4_5, pfC_4_5, fvC_4_6, pfC_4_6, fvC_4_7, pfC_4_7, fvC_4_8, pfC_4_8, fvC_5_0, fvC_5_1, fvC_5_2, fvC_5_3, pfC_5_3, fvC_5_4, pfC_5_4, fvC_5_5, pfC_5_5, fvC_6_0, fvC_6_1, fvC_6_2, fvC_6_3, pfC_6_3, fvC_7_0, fvC_7_1, fvC_7_2]
  refine cS_I 2 (by decide) (s_X6_isNext hT hS hs hi) ?_
  simp (disch := omega) only [opK_some, kl_int, kl_ref, kl_null, kl_long, cargs_0, cargs_s, o_sm0, o_sm1, o_sm2, o_sm3, o_sm4, o_rc1, o_cp1, o_ii1, tsK_0, tsK_s, tl_some, tl_none, fI_sF, fI_sA, fI_sL, aI_sF, aI_sA, aI_sL, aL_sF, aL_sA, aL_sL, b_iconst, b_bipush, b_sipush, b_lconst0, b_lconst1, b_ldc, b_ldc_w, b_ldc2_w, b_iload0, b_iload1, b_iload2, b_iload3, b_iload4, b_iload5, b_iload6, b_iload7, b_iload8, b_iload9, b_iload10, b_iload11, b_istore0, b_istore1, b_istore2, b_istore3, b_istore4, b_istore5, b_istore6, b_istore7, b_istore8, b_istore9, b_istore10, b_istore11, b_lload0, b_lload1, b_lload2, b_lload3, b_lload4, b_lload5, b_lload6, b_lload7, b_lstore0, b_lstore1, b_lstore2, b_lstore3, b_lstore4, b_lstore5, b_lstore6, b_lstore7, b_aload0, b_aload1, b_aload2, b_aload3, b_aload4, b_aload5, b_aload6, b_aload7, b_iinc0, b_iinc1, b_iinc2, b_iinc3, b_iinc4, b_iinc5, b_iinc6, b_iinc7, b_iinc8, b_iinc9, b_iinc10, b_iinc11, b_iadd, b_isub, b_imul, b_iand, b_ior, b_ixor, b_ishl, b_ishr, b_iushr, b_idiv, b_irem, b_ladd, b_lmul, b_lcmp, b_i2l, b_i2b, b_i2s, b_dupI, b_dupR, b_dup2, b_getfield, b_putfield, b_iaload, b_baload, b_laload, b_aaload, b_iastore, b_bastore, b_lastore, b_alen, b_goto, b_if_eq, b_ic_eq, b_if_ne, b_ic_ne, b_if_lt, b_ic_lt, b_if_ge, b_ic_ge, b_if_gt, b_ic_gt, b_if_le, b_ic_le, b_ireturn, b_lreturn, b_return, b_tswitch, b_lswitch, b_invv, b_invs, b_nil, ci_m1, ci_0, ci_1, ci_2, ci_3, ci_4, ci_5, ci_6, ci_8, ci_16, cb_m10, cb_m4, cb_m3, cb_m2, cb_6, cb_7, cb_8, cb_10, cb_12, cb_13, cb_16, cb_32, cb_40, cb_48, cb_50, cb_63, cb_99, cb_100, cs_160, cs_256, cs_1024, cs_4095, cs_4096, q_0, q_1, q_2, q_3, q_4, q_5, q_6, q_7, q_8, q_10, q_12, q_13, q_16, q_31, q_32, q_40, q_48, q_50, q_63, q_64, q_99, q_100, q_160, q_256, q_1024, q_4095, q_4096, q_1048576, bI_t, bI_f, bI_e0, bI_0e, bI_1e, bI_e1, bI_bb, rI_i, rJ_i, rV_i, rk_00, rk_10, bI_01, q_le, q_lt, q_eq, q_cl, q_in, q_add, q_sub, q_mul, q_and, q_or, q_xor, q_dif, q_shl, q_shr, q_one, q_b1, q_t1, q_t0, q_tb, q_ds, q_nm, q_mn, q_mm, q_mlt, q_mle, q_nlt, q_nle, q_bp, q_bn, q_np, q_nn, ne12, ne13, ne14, ne21, ne23, ne24, ne31, ne32, ne34, ne41, ne42, ne43, Nat.zero_add, Nat.add_zero, eq_self, true_or, or_true, false_or, or_false, false_and, and_false, not_false_eq_true, not_true_eq_false, true_implies, false_implies, true_and, and_true, forall_const, if_true, if_false, ite_true, ite_false, Nat.reduceEqDiff, Nat.reduceAdd, Nat.reduceMul, Int.reduceAdd, Int.reduceToNat, gX4_costThrough_0, kX4_costThrough_0, jX4_costThrough_14, kX4_costThrough_14, jX4_costThrough_40, kX4_costThrough_40, jX4_costThrough_48, kX4_costThrough_48, lX4f_15, lX4f_18, lX4f_22, lX4f_34, lX4f_9, lX4m_58, rcX6_isNext, lnC_8, alC_8, lnC_9, alC_9, lnC_10, alC_10, lnC_11, alC_11, lnC_12, alC_12, lnC_13, alC_13, lnC_14, alC_14, bsC_14, lnC_15, alC_15, lnC_16, alC_16, lnC_17, alC_17, lnC_18, alC_18, lnC_19, alC_19, lnC_20, alC_20, lnC_21, alC_21, lnC_22, alC_22, lnC_23, alC_23, lnC_24, alC_24, lnC_25, alC_25, lnC_26, alC_26, lnC_27, alC_27, lnC_28, alC_28, lnC_29, alC_29, lnC_30, alC_30, lnC_31, alC_31, lnC_32, alC_32, lnC_33, alC_33, lnC_34, alC_34, lnC_35, alC_35, lnC_36, alC_36, lnC_37, alC_37, lnC_38, alC_38, bsC_38, lnC_39, alC_39, lnC_40, alC_40, lnC_41, alC_41, lnC_42, alC_42, fvC_0_0, fvC_0_1, fvC_0_2, fvC_0_3, fvC_0_4, fvC_0_5, fvC_0_6, fvC_1_0, fvC_1_1, fvC_1_2, fvC_1_3, fvC_1_4, fvC_1_5, fvC_1_6, fvC_1_7, pfC_1_7, fvC_2_0, fvC_2_1, fvC_2_2, fvC_2_3, fvC_2_4, pfC_2_4, fvC_2_5, pfC_2_5, fvC_2_6, pfC_2_6, fvC_3_0, fvC_3_1, fvC_3_2, fvC_3_3, fvC_4_0, fvC_4_1, fvC_4_2, fvC_4_3, fvC_4_4, fvC_4_5, pfC_4_5, fvC_4_6, pfC_4_6, fvC_4_7, pfC_4_7, fvC_4_8, pfC_4_8, fvC_5_0, fvC_5_1, fvC_5_2, fvC_5_3, pfC_5_3, fvC_5_4, pfC_5_4, fvC_5_5, pfC_5_5, fvC_6_0, fvC_6_1, fvC_6_2, fvC_6_3, pfC_6_3, fvC_7_0, fvC_7_1, fvC_7_2, e13, e31]
  refine ⟨fun hc => ?_, fun hc => ?_⟩
  · have hc : (isSt T s && nxt T s i) = true := by simpa using hc
    have hz : isSt T (s ||| les T i) = true := by
      rw [Bool.and_eq_true] at hc
      exact st_step.mpr (Or.inr ⟨s, i, nxt_gt hi hc.2, hi, hc.1, hc.2, rfl⟩)
    have hgt : s < s ||| les T i := by
      rw [Bool.and_eq_true] at hc
      exact nxt_gt hi hc.2
    have h12 := isSt_12 hT hz
    have e30 := hC.1 _ (by omega) hz
    have hb : ∀ a, cF T g (s ||| les T i) = some a → a < 2147483648 := fun a ha => by have := cF_b hT ha; omega
    unfold ctF
    simp (disch := omega) only [bI_t, bI_f, bI_e0, bI_0e, bI_1e, bI_e1, bI_bb, rI_i, rJ_i, rV_i, rk_00, rk_10, bI_01, q_le, q_lt, q_eq, q_cl, q_in, q_add, q_sub, q_mul, q_and, q_or, q_xor, q_dif, q_shl, q_shr, q_one, q_b1, q_t1, q_t0, q_tb, q_ds, q_nm, q_mn, q_mm, q_mlt, q_mle, q_nlt, q_nle, q_bp, q_bn, q_np, q_nn, ci_m1, ci_0, ci_1, ci_2, ci_3, ci_4, ci_5, ci_6, ci_8, ci_16, cb_m10, cb_m4, cb_m3, cb_m2, cb_6, cb_7, cb_8, cb_10, cb_12, cb_13, cb_16, cb_32, cb_40, cb_48, cb_50, cb_63, cb_99, cb_100, cs_160, cs_256, cs_1024, cs_4095, cs_4096, q_0, q_1, q_2, q_3, q_4, q_5, q_6, q_7, q_8, q_10, q_12, q_13, q_16, q_31, q_32, q_40, q_48, q_50, q_63, q_64, q_99, q_100, q_160, q_256, q_1024, q_4095, q_4096, q_1048576, ne12, ne13, ne14, ne21, ne23, ne24, ne31, ne32, ne34, ne41, ne42, ne43, Nat.zero_add, Nat.add_zero, eq_self, true_or, or_true, false_or, or_false, false_and, and_false, not_false_eq_true, not_true_eq_false, true_implies, false_implies, true_and, and_true, forall_const, if_true, if_false, ite_true, ite_false, tl_some, tl_none, e30, oI_m1 hb, hc]
    trace_state
    sorry
  · unfold ctF
    rw [hc]
    trace_state
    sorry
