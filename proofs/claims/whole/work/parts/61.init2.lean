/-! OBJECTS come to be: calls of contracts on abstract worlds -/
section INI
variable {p : Program} {l : Launch} {e : Env} {R : Room} {s : State} {m : MethodId} {args : Array Value} {below : List Frame} {meth : Method} {c : Code} {D : va_G} {tk : List Nat} {dA : Nat → ClassId} {w : List aE} {ad : Nat → Nat} {nL d : Nat} {QQ : State → Prop} {own : String} {cc : ByteArray} {pc cells slots : Nat} {h : aH} {A : Nat → Prop} {H : Heap} {locs : List Loc} {la : Array Slot}
theorem aN_of {h : aH} (hD : va_D A (aW w ad dA h)) : aN w ad ∧ ∀ q, aA w ad q → A q :=
  ⟨fun i j hi hj hij => hD.1 i j _ _ (aW_get hi) (aW_get hj) hij, fun q ⟨i, hi, hq⟩ => by rw [hq]; exact hD.2 i _ (aW_get hi)⟩
theorem aD_of {h h' : aH} (hD : va_D A (aW w ad dA h)) : va_D A (aW w ad dA h') := by
  obtain ⟨a, b⟩ := aN_of hD
  have g : ∀ k x, (aW w ad dA h')[k]? = some x → k < w.length ∧ x.1 = ad k := fun k x hx => by
    unfold aW at hx
    rw [List.getElem?_map] at hx
    by_cases hk : k < w.length
    · rw [List.getElem?_range hk] at hx
      cases hx
      exact ⟨hk, rfl⟩
    · rw [List.getElem?_eq_none (by rw [List.length_range]; omega)] at hx
      cases hx
  refine ⟨fun i j x y hx hy hxy => ?_, fun k x hx => ?_⟩
  · obtain ⟨i1, i2⟩ := g i x hx
    obtain ⟨j1, j2⟩ := g j y hy
    exact a i j i1 j1 (by rw [← i2, ← j2, hxy])
  · obtain ⟨k1, k2⟩ := g k x hx
    exact b _ ⟨k, k1, k2⟩
theorem ini_run {st0 rest' : List Value} {av : Array Value} {Qp : Option Value → aH → Prop} (hr : va_Run p l e R s m args below meth c H locs cells slots 0 0 (F0 m pc la st0) rest' (aQc D vwCl w ad dA Qp av) (aA w ad)) (hS : va_S A s.heap H locs) (hf : ∀ q, aA w ad q → A q)
    (kk : ∀ (v : Option Value) (h' : aH) (H1 : Heap) (locs1 : List Loc), Qp v h' → va_P D vwCl (aW w ad dA h') H1 → (∀ q : Nat, q < H.size → ¬ aA w ad q → H1[q]? = H[q]?) → va_S A s.heap H1 locs1 → W p l e R s m args below meth c H1 locs1 cells slots QQ (F0 m (pc + 3) la ((v.map (cv ad)).toList ++ rest'))) :
    W p l e R s m args below meth c H locs cells slots QQ (F0 m pc la st0) := by
  intro T hT X
  obtain ⟨v, st₀, t, T', L, h0, X', hL, e1, e2, ⟨⟨v', h', hv, hp, hb⟩, hz, hk⟩, st⟩ := hr T hT X
  cases hv
  rw [h0] at hz hk
  obtain ⟨t2, a1, b1⟩ := kk v' h' T'.heap (locs ++ L) hp (by rw [e1]; exact hb) (fun q a b => by rw [e1]; exact hk q a b)
    ⟨Nat.le_trans hS.1 (by rw [e1]; exact hz), fun q h1 h2 => by rw [e1, hk q (Nat.lt_of_lt_of_le h1 hS.1) (fun z => h2 (hf q z))]; exact hS.2.1 q h1 h2, fun q hq => by
      rcases List.mem_append.mp hq with h | h
      · exact hS.2.2 q h
      · exact hf _ (hL q h)⟩ T' rfl X'
  exact ⟨t2, st t2 a1, b1⟩
theorem ini_S {y : MethodName} {n j d' : Nat} {x : aX} {as rest : List Value} {Qp : Option Value → aH → Prop} (hx : p.tables.exec = Jvm.exec) (hb : c.code = cc) (hml : c.maxLocals = nL) (hown : s.vm.findClass own = some m.cls) (hts : ∀ q ∈ aT, q.before args s = true) (hL : aLk vwCl own x) (hd : decode cc pc = .ok (.invokestatic j, 3)) (hy : lk x.2.1 j = some (y, n, 1)) (hn : as.length = n) (hR1 : d' + 1 ≤ R.frames) (hR2 : 40 * d' + 40 ≤ R.locals) (hc1 : cells ≤ R.cells) (hc2 : slots ≤ R.slots)
    (hsat : Sat l vwCl w tk d' y as h Qp) (hK : aK tk D vwCl dA s) (hN : aN w ad) (hP : va_P D vwCl (aW w ad dA h) H) (hS : va_S A s.heap H locs) (hf : ∀ q, aA w ad q → A q) (hl : la.size = nL) (hsm : (rest.map fun v => v.category).sum ≤ 8)
    (kk : ∀ (v : Option Value) (h' : aH) (H1 : Heap) (locs1 : List Loc), Qp v h' → va_P D vwCl (aW w ad dA h') H1 → (∀ q : Nat, q < H.size → ¬ aA w ad q → H1[q]? = H[q]?) → va_S A s.heap H1 locs1 → W p l e R s m args below meth c H1 locs1 cells slots QQ (F0 m (pc + 3) la ((v.map (cv ad)).toList ++ rest))) :
    W p l e R s m args below meth c H locs cells slots QQ (F0 m pc la ((as.map (cv ad)).reverse ++ rest)) := by
  obtain ⟨bytes, maxL, ret, hc, hm, hM⟩ := hsat
  obtain ⟨g1, g2, g3, -, g4, -⟩ := hL.2.1 j y n 1 hy
  have hB : CallB R s args own j y bytes maxL ret (Cond.code y bytes maxL ret :: aT) (rmD d') 0 0 n := by
    refine callB_of n hts (tbl_in hc) rfl rfl rfl (hts _ g2) (hts _ g1) g3 ⟨hR1, ?_⟩
    show 8 + (maxL + 11) + 40 * d' ≤ R.locals; omega
  exact ini_run (Qp := Qp) (av := (as.map (cv ad)).toArray) (va_runS (nL := nL) ⟨hx, hb, hml, hown, hts⟩ (hM D ad dA) ⟨hB, hts _ (g4 rfl)⟩ ⟨pc_blind, pc_holds (as := as) hP hK hN⟩ rfl (by rw [List.length_map]; exact hn) hl rfl (lv_room hsm) hd ⟨hc1, hc2⟩) hS hf kk
theorem ini_V {y : MethodName} {n j d' : Nat} {x : aX} {as rest : List Value} {Qp : Option Value → aH → Prop} (hx : p.tables.exec = Jvm.exec) (hb : c.code = cc) (hml : c.maxLocals = nL) (hown : s.vm.findClass own = some m.cls) (hts : ∀ q ∈ aT, q.before args s = true) (hL : aLk vwCl own x) (hd : decode cc pc = .ok (.invokevirtual j, 3)) (hy : lk x.2.1 j = some (y, n, 0)) (hn : as.length = n) (hrc : rcv w vwCl 0 y = true) (hR1 : d' + 1 ≤ R.frames) (hR2 : 40 * d' + 40 ≤ R.locals) (hc1 : cells ≤ R.cells) (hc2 : slots ≤ R.slots)
    (hsat : Sat l vwCl w tk d' y (.ref 0 :: as) h Qp) (hK : aK tk D vwCl dA s) (hN : aN w ad) (hP : va_P D vwCl (aW w ad dA h) H) (hS : va_S A s.heap H locs) (hf : ∀ q, aA w ad q → A q) (hl : la.size = nL) (hsm : (rest.map fun v => v.category).sum ≤ 8)
    (kk : ∀ (v : Option Value) (h' : aH) (H1 : Heap) (locs1 : List Loc), Qp v h' → va_P D vwCl (aW w ad dA h') H1 → (∀ q : Nat, q < H.size → ¬ aA w ad q → H1[q]? = H[q]?) → va_S A s.heap H1 locs1 → W p l e R s m args below meth c H1 locs1 cells slots QQ (F0 m (pc + 3) la ((v.map (cv ad)).toList ++ rest))) :
    W p l e R s m args below meth c H locs cells slots QQ (F0 m pc la ((as.map (cv ad)).reverse ++ .ref (ad 0) :: rest)) := by
  obtain ⟨bytes, maxL, ret, hc, hm, hM⟩ := hsat
  obtain ⟨g1, g2, g3, g4, -⟩ := hL.2.1 j y n 0 hy
  obtain ⟨g5, g6⟩ := g4 rfl
  have hB : CallB R s args own j y bytes maxL ret (Cond.code y bytes maxL ret :: aT) (rmD d') 0 0 n := by
    refine callB_of n hts (tbl_in hc) rfl rfl rfl (hts _ g2) (hts _ g1) g3 ⟨hR1, ?_⟩
    show 8 + (maxL + 11) + 40 * d' ≤ R.locals; omega
  obtain ⟨ci, rs, q, e1, e2, e3, e4⟩ := rcv_sp hrc
  have hrecv := va_recv hK hP e2 (q0 := 0) (a := ad 0) (ci := ci) (by rw [aW_get e4, e1]; rfl)
  rw [e3] at hrecv
  exact ini_run (Qp := Qp) (av := (Value.ref (ad 0) :: as.map (cv ad)).toArray) (va_runV (nL := nL) ⟨hx, hb, hml, hown, hts⟩ (hM D ad dA) ⟨hB, hts _ g5, hts _ g6⟩ ⟨pc_blind, hrecv, pc_holds (as := .ref 0 :: as) hP hK hN⟩ rfl (by rw [List.length_map]; exact hn) hl rfl (lv_room hsm) hd ⟨hc1, hc2⟩) hS hf kk
end INI
def wF : List aE := [.inr (0, 4, 0)]
theorem woF : aWo vwCl [0] wF := aWo_of (by decide +kernel)
theorem s_fillF {l : Launch} {h : aH} {v : Int32} : Sat l vwCl wF [0] 1 yJ7_fill_53178 [.ref 0, .int v] h (rV (sA h 0 (fl (fun _ => v) (aI h 0) 4))) := by
  have h1 : lenK wF 0 0 = 4 := rfl
  have h2 : alen wF 0 = some 4 := rfl
  refine Sat.of 60 wJ7_fill_53178 (by decide) (by decide +kernel) woF lkJ7 okJ7_fill_53178 (by decide) (by simp [ents, Value.category]) (fun J hJ => ?_)
  change J 0 [.ref 0, .int v, .null, .null] [] _
  have loop : ∀ d k, k + d = 4 → J 5 [.ref 0, .int v, .int (nI k), .int (nI 4)] [] (sA h 0 (fl (fun _ => v) (aI h 0) k)) := by
    intro d
    induction d with
    | zero =>
      intro k hkd
      obtain rfl : k = 4 := by omega
      refine hJ _ _ _ _ ?_
      simp (disch := omega) only [opK_some, kl_int, kl_ref, kl_null, kl_long, cargs_0, cargs_s, o_sm0, o_sm1, o_sm2, o_sm3, o_sm4, o_rc1, o_cp1, o_ii1, tsK_0, tsK_s, tl_some, tl_none, fI_sF, fI_sA, fI_sL, aI_sF, aI_sA, aI_sL, aL_sF, aL_sA, aL_sL, b_iconst, b_bipush, b_sipush, b_lconst0, b_lconst1, b_ldc, b_ldc_w, b_ldc2_w, b_iload0, b_iload1, b_iload2, b_iload3, b_iload4, b_iload5, b_iload6, b_iload7, b_iload8, b_iload9, b_iload10, b_iload11, b_istore0, b_istore1, b_istore2, b_istore3, b_istore4, b_istore5, b_istore6, b_istore7, b_istore8, b_istore9, b_istore10, b_istore11, b_lload0, b_lload1, b_lload2, b_lload3, b_lload4, b_lload5, b_lload6, b_lload7, b_lstore0, b_lstore1, b_lstore2, b_lstore3, b_lstore4, b_lstore5, b_lstore6, b_lstore7, b_aload0, b_aload1, b_aload2, b_aload3, b_aload4, b_aload5, b_aload6, b_aload7, b_iinc0, b_iinc1, b_iinc2, b_iinc3, b_iinc4, b_iinc5, b_iinc6, b_iinc7, b_iinc8, b_iinc9, b_iinc10, b_iinc11, b_iadd, b_isub, b_imul, b_iand, b_ior, b_ixor, b_ishl, b_ishr, b_iushr, b_idiv, b_irem, b_ladd, b_lmul, b_lcmp, b_i2l, b_i2b, b_i2s, b_dupI, b_dupR, b_dup2, b_getfield, b_putfield, b_iaload, b_baload, b_laload, b_aaload, b_iastore, b_bastore, b_lastore, b_alen, b_goto, b_if_eq, b_ic_eq, b_if_ne, b_ic_ne, b_if_lt, b_ic_lt, b_if_ge, b_ic_ge, b_if_gt, b_ic_gt, b_if_le, b_ic_le, b_ireturn, b_lreturn, b_return, b_tswitch, b_lswitch, b_invv, b_invs, b_nil, ci_m1, ci_0, ci_1, ci_2, ci_3, ci_4, ci_5, ci_6, ci_8, ci_16, cb_m10, cb_m4, cb_m3, cb_m2, cb_6, cb_7, cb_8, cb_10, cb_12, cb_13, cb_16, cb_32, cb_40, cb_48, cb_50, cb_63, cb_99, cb_100, cs_160, cs_256, cs_1024, cs_4095, cs_4096, q_0, q_1, q_2, q_3, q_4, q_5, q_6, q_7, q_8, q_10, q_12, q_13, q_16, q_31, q_32, q_40, q_48, q_50, q_63, q_64, q_99, q_100, q_160, q_256, q_1024, q_4095, q_4096, q_1048576, bI_t, bI_f, bI_e0, bI_0e, bI_1e, bI_e1, bI_bb, rI_i, rJ_i, rV_i, rk_00, rk_10, bI_01, q_le, q_lt, q_eq, q_cl, q_in, q_add, q_sub, q_mul, q_and, q_or, q_xor, q_dif, q_shl, q_shr, q_one, q_b1, q_t1, q_t0, q_tb, q_ds, q_nm, q_mn, q_mm, q_mlt, q_mle, q_nlt, q_nle, q_bp, q_bn, q_np, q_nn, ne12, ne13, ne14, ne21, ne23, ne24, ne31, ne32, ne34, ne41, ne42, ne43, Nat.zero_add, Nat.add_zero, eq_self, true_or, or_true, false_or, or_false, false_and, and_false, not_false_eq_true, not_true_eq_false, true_implies, false_implies, true_and, and_true, forall_const, if_true, if_false, ite_true, ite_false, Nat.reduceEqDiff, Nat.reduceAdd, Nat.reduceMul, Int.reduceAdd, Int.reduceToNat, gJ7_fill_53178_0, kJ7_fill_53178_0, jJ7_fill_53178_5, gJ7_fill_53178_5, kJ7_fill_53178_5, jJ7_fill_53178_20, kJ7_fill_53178_20, lnC_8, alC_8, lnC_9, alC_9, lnC_10, alC_10, lnC_11, alC_11, lnC_12, alC_12, lnC_13, alC_13, lnC_14, alC_14, bsC_14, lnC_15, alC_15, lnC_16, alC_16, lnC_17, alC_17, lnC_18, alC_18, lnC_19, alC_19, lnC_20, alC_20, lnC_21, alC_21, lnC_22, alC_22, lnC_23, alC_23, lnC_24, alC_24, lnC_25, alC_25, lnC_26, alC_26, lnC_27, alC_27, lnC_28, alC_28, lnC_29, alC_29, lnC_30, alC_30, lnC_31, alC_31, lnC_32, alC_32, lnC_33, alC_33, lnC_34, alC_34, lnC_35, alC_35, lnC_36, alC_36, lnC_37, alC_37, lnC_38, alC_38, bsC_38, lnC_39, alC_39, lnC_40, alC_40, lnC_41, alC_41, lnC_42, alC_42, fvC_0_0, fvC_0_1, fvC_0_2, fvC_0_3, fvC_0_4, fvC_0_5, fvC_0_6, fvC_1_0, fvC_1_1, fvC_1_2, fvC_1_3, fvC_1_4, fvC_1_5, fvC_1_6, fvC_1_7, pfC_1_7, fvC_2_0, fvC_2_1, fvC_2_2, fvC_2_3, fvC_2_4, pfC_2_4, fvC_2_5, pfC_2_5, fvC_2_6, pfC_2_6, fvC_3_0, fvC_3_1, fvC_3_2, fvC_3_3, fvC_4_0, fvC_4_1, fvC_4_2, fvC_4_3, fvC_4_4, fvC_4_5, pfC_4_5, fvC_4_6, pfC_4_6, fvC_4_7, pfC_4_7, fvC_4_8, pfC_4_8, fvC_5_0, fvC_5_1, fvC_5_2, fvC_5_3, pfC_5_3, fvC_5_4, pfC_5_4, fvC_5_5, pfC_5_5, fvC_6_0, fvC_6_1, fvC_6_2, fvC_6_3, pfC_6_3, fvC_7_0, fvC_7_1, fvC_7_2, h1, h2]
    | succ d ih =>
      intro k hkd
      have ih := ih (k + 1) (by omega)
      rw [← fl_s (fun _ => v)] at ih
      refine hJ _ _ _ _ ?_
      simp (disch := omega) only [opK_some, kl_int, kl_ref, kl_null, kl_long, cargs_0, cargs_s, o_sm0, o_sm1, o_sm2, o_sm3, o_sm4, o_rc1, o_cp1, o_ii1, tsK_0, tsK_s, tl_some, tl_none, fI_sF, fI_sA, fI_sL, aI_sF, aI_sA, aI_sL, aL_sF, aL_sA, aL_sL, b_iconst, b_bipush, b_sipush, b_lconst0, b_lconst1, b_ldc, b_ldc_w, b_ldc2_w, b_iload0, b_iload1, b_iload2, b_iload3, b_iload4, b_iload5, b_iload6, b_iload7, b_iload8, b_iload9, b_iload10, b_iload11, b_istore0, b_istore1, b_istore2, b_istore3, b_istore4, b_istore5, b_istore6, b_istore7, b_istore8, b_istore9, b_istore10, b_istore11, b_lload0, b_lload1, b_lload2, b_lload3, b_lload4, b_lload5, b_lload6, b_lload7, b_lstore0, b_lstore1, b_lstore2, b_lstore3, b_lstore4, b_lstore5, b_lstore6, b_lstore7, b_aload0, b_aload1, b_aload2, b_aload3, b_aload4, b_aload5, b_aload6, b_aload7, b_iinc0, b_iinc1, b_iinc2, b_iinc3, b_iinc4, b_iinc5, b_iinc6, b_iinc7, b_iinc8, b_iinc9, b_iinc10, b_iinc11, b_iadd, b_isub, b_imul, b_iand, b_ior, b_ixor, b_ishl, b_ishr, b_iushr, b_idiv, b_irem, b_ladd, b_lmul, b_lcmp, b_i2l, b_i2b, b_i2s, b_dupI, b_dupR, b_dup2, b_getfield, b_putfield, b_iaload, b_baload, b_laload, b_aaload, b_iastore, b_bastore, b_lastore, b_alen, b_goto, b_if_eq, b_ic_eq, b_if_ne, b_ic_ne, b_if_lt, b_ic_lt, b_if_ge, b_ic_ge, b_if_gt, b_ic_gt, b_if_le, b_ic_le, b_ireturn, b_lreturn, b_return, b_tswitch, b_lswitch, b_invv, b_invs, b_nil, ci_m1, ci_0, ci_1, ci_2, ci_3, ci_4, ci_5, ci_6, ci_8, ci_16, cb_m10, cb_m4, cb_m3, cb_m2, cb_6, cb_7, cb_8, cb_10, cb_12, cb_13, cb_16, cb_32, cb_40, cb_48, cb_50, cb_63, cb_99, cb_100, cs_160, cs_256, cs_1024, cs_4095, cs_4096, q_0, q_1, q_2, q_3, q_4, q_5, q_6, q_7, q_8, q_10, q_12, q_13, q_16, q_31, q_32, q_40, q_48, q_50, q_63, q_64, q_99, q_100, q_160, q_256, q_1024, q_4095, q_4096, q_1048576, bI_t, bI_f, bI_e0, bI_0e, bI_1e, bI_e1, bI_bb, rI_i, rJ_i, rV_i, rk_00, rk_10, bI_01, q_le, q_lt, q_eq, q_cl, q_in, q_add, q_sub, q_mul, q_and, q_or, q_xor, q_dif, q_shl, q_shr, q_one, q_b1, q_t1, q_t0, q_tb, q_ds, q_nm, q_mn, q_mm, q_mlt, q_mle, q_nlt, q_nle, q_bp, q_bn, q_np, q_nn, ne12, ne13, ne14, ne21, ne23, ne24, ne31, ne32, ne34, ne41, ne42, ne43, Nat.zero_add, Nat.add_zero, eq_self, true_or, or_true, false_or, or_false, false_and, and_false, not_false_eq_true, not_true_eq_false, true_implies, false_implies, true_and, and_true, forall_const, if_true, if_false, ite_true, ite_false, Nat.reduceEqDiff, Nat.reduceAdd, Nat.reduceMul, Int.reduceAdd, Int.reduceToNat, gJ7_fill_53178_0, kJ7_fill_53178_0, jJ7_fill_53178_5, gJ7_fill_53178_5, kJ7_fill_53178_5, jJ7_fill_53178_20, kJ7_fill_53178_20, lnC_8, alC_8, lnC_9, alC_9, lnC_10, alC_10, lnC_11, alC_11, lnC_12, alC_12, lnC_13, alC_13, lnC_14, alC_14, bsC_14, lnC_15, alC_15, lnC_16, alC_16, lnC_17, alC_17, lnC_18, alC_18, lnC_19, alC_19, lnC_20, alC_20, lnC_21, alC_21, lnC_22, alC_22, lnC_23, alC_23, lnC_24, alC_24, lnC_25, alC_25, lnC_26, alC_26, lnC_27, alC_27, lnC_28, alC_28, lnC_29, alC_29, lnC_30, alC_30, lnC_31, alC_31, lnC_32, alC_32, lnC_33, alC_33, lnC_34, alC_34, lnC_35, alC_35, lnC_36, alC_36, lnC_37, alC_37, lnC_38, alC_38, bsC_38, lnC_39, alC_39, lnC_40, alC_40, lnC_41, alC_41, lnC_42, alC_42, fvC_0_0, fvC_0_1, fvC_0_2, fvC_0_3, fvC_0_4, fvC_0_5, fvC_0_6, fvC_1_0, fvC_1_1, fvC_1_2, fvC_1_3, fvC_1_4, fvC_1_5, fvC_1_6, fvC_1_7, pfC_1_7, fvC_2_0, fvC_2_1, fvC_2_2, fvC_2_3, fvC_2_4, pfC_2_4, fvC_2_5, pfC_2_5, fvC_2_6, pfC_2_6, fvC_3_0, fvC_3_1, fvC_3_2, fvC_3_3, fvC_4_0, fvC_4_1, fvC_4_2, fvC_4_3, fvC_4_4, fvC_4_5, pfC_4_5, fvC_4_6, pfC_4_6, fvC_4_7, pfC_4_7, fvC_4_8, pfC_4_8, fvC_5_0, fvC_5_1, fvC_5_2, fvC_5_3, pfC_5_3, fvC_5_4, pfC_5_4, fvC_5_5, pfC_5_5, fvC_6_0, fvC_6_1, fvC_6_2, fvC_6_3, pfC_6_3, fvC_7_0, fvC_7_1, fvC_7_2, h1, h2, sA_sA, aI_sAs]
      exact ih
  refine hJ _ _ _ _ ?_
  simp (disch := omega) only [opK_some, kl_int, kl_ref, kl_null, kl_long, cargs_0, cargs_s, o_sm0, o_sm1, o_sm2, o_sm3, o_sm4, o_rc1, o_cp1, o_ii1, tsK_0, tsK_s, tl_some, tl_none, fI_sF, fI_sA, fI_sL, aI_sF, aI_sA, aI_sL, aL_sF, aL_sA, aL_sL, b_iconst, b_bipush, b_sipush, b_lconst0, b_lconst1, b_ldc, b_ldc_w, b_ldc2_w, b_iload0, b_iload1, b_iload2, b_iload3, b_iload4, b_iload5, b_iload6, b_iload7, b_iload8, b_iload9, b_iload10, b_iload11, b_istore0, b_istore1, b_istore2, b_istore3, b_istore4, b_istore5, b_istore6, b_istore7, b_istore8, b_istore9, b_istore10, b_istore11, b_lload0, b_lload1, b_lload2, b_lload3, b_lload4, b_lload5, b_lload6, b_lload7, b_lstore0, b_lstore1, b_lstore2, b_lstore3, b_lstore4, b_lstore5, b_lstore6, b_lstore7, b_aload0, b_aload1, b_aload2, b_aload3, b_aload4, b_aload5, b_aload6, b_aload7, b_iinc0, b_iinc1, b_iinc2, b_iinc3, b_iinc4, b_iinc5, b_iinc6, b_iinc7, b_iinc8, b_iinc9, b_iinc10, b_iinc11, b_iadd, b_isub, b_imul, b_iand, b_ior, b_ixor, b_ishl, b_ishr, b_iushr, b_idiv, b_irem, b_ladd, b_lmul, b_lcmp, b_i2l, b_i2b, b_i2s, b_dupI, b_dupR, b_dup2, b_getfield, b_putfield, b_iaload, b_baload, b_laload, b_aaload, b_iastore, b_bastore, b_lastore, b_alen, b_goto, b_if_eq, b_ic_eq, b_if_ne, b_ic_ne, b_if_lt, b_ic_lt, b_if_ge, b_ic_ge, b_if_gt, b_ic_gt, b_if_le, b_ic_le, b_ireturn, b_lreturn, b_return, b_tswitch, b_lswitch, b_invv, b_invs, b_nil, ci_m1, ci_0, ci_1, ci_2, ci_3, ci_4, ci_5, ci_6, ci_8, ci_16, cb_m10, cb_m4, cb_m3, cb_m2, cb_6, cb_7, cb_8, cb_10, cb_12, cb_13, cb_16, cb_32, cb_40, cb_48, cb_50, cb_63, cb_99, cb_100, cs_160, cs_256, cs_1024, cs_4095, cs_4096, q_0, q_1, q_2, q_3, q_4, q_5, q_6, q_7, q_8, q_10, q_12, q_13, q_16, q_31, q_32, q_40, q_48, q_50, q_63, q_64, q_99, q_100, q_160, q_256, q_1024, q_4095, q_4096, q_1048576, bI_t, bI_f, bI_e0, bI_0e, bI_1e, bI_e1, bI_bb, rI_i, rJ_i, rV_i, rk_00, rk_10, bI_01, q_le, q_lt, q_eq, q_cl, q_in, q_add, q_sub, q_mul, q_and, q_or, q_xor, q_dif, q_shl, q_shr, q_one, q_b1, q_t1, q_t0, q_tb, q_ds, q_nm, q_mn, q_mm, q_mlt, q_mle, q_nlt, q_nle, q_bp, q_bn, q_np, q_nn, ne12, ne13, ne14, ne21, ne23, ne24, ne31, ne32, ne34, ne41, ne42, ne43, Nat.zero_add, Nat.add_zero, eq_self, true_or, or_true, false_or, or_false, false_and, and_false, not_false_eq_true, not_true_eq_false, true_implies, false_implies, true_and, and_true, forall_const, if_true, if_false, ite_true, ite_false, Nat.reduceEqDiff, Nat.reduceAdd, Nat.reduceMul, Int.reduceAdd, Int.reduceToNat, gJ7_fill_53178_0, kJ7_fill_53178_0, jJ7_fill_53178_5, gJ7_fill_53178_5, kJ7_fill_53178_5, jJ7_fill_53178_20, kJ7_fill_53178_20, lnC_8, alC_8, lnC_9, alC_9, lnC_10, alC_10, lnC_11, alC_11, lnC_12, alC_12, lnC_13, alC_13, lnC_14, alC_14, bsC_14, lnC_15, alC_15, lnC_16, alC_16, lnC_17, alC_17, lnC_18, alC_18, lnC_19, alC_19, lnC_20, alC_20, lnC_21, alC_21, lnC_22, alC_22, lnC_23, alC_23, lnC_24, alC_24, lnC_25, alC_25, lnC_26, alC_26, lnC_27, alC_27, lnC_28, alC_28, lnC_29, alC_29, lnC_30, alC_30, lnC_31, alC_31, lnC_32, alC_32, lnC_33, alC_33, lnC_34, alC_34, lnC_35, alC_35, lnC_36, alC_36, lnC_37, alC_37, lnC_38, alC_38, bsC_38, lnC_39, alC_39, lnC_40, alC_40, lnC_41, alC_41, lnC_42, alC_42, fvC_0_0, fvC_0_1, fvC_0_2, fvC_0_3, fvC_0_4, fvC_0_5, fvC_0_6, fvC_1_0, fvC_1_1, fvC_1_2, fvC_1_3, fvC_1_4, fvC_1_5, fvC_1_6, fvC_1_7, pfC_1_7, fvC_2_0, fvC_2_1, fvC_2_2, fvC_2_3, fvC_2_4, pfC_2_4, fvC_2_5, pfC_2_5, fvC_2_6, pfC_2_6, fvC_3_0, fvC_3_1, fvC_3_2, fvC_3_3, fvC_4_0, fvC_4_1, fvC_4_2, fvC_4_3, fvC_4_4, fvC_4_5, pfC_4_5, fvC_4_6, pfC_4_6, fvC_4_7, pfC_4_7, fvC_4_8, pfC_4_8, fvC_5_0, fvC_5_1, fvC_5_2, fvC_5_3, pfC_5_3, fvC_5_4, pfC_5_4, fvC_5_5, pfC_5_5, fvC_6_0, fvC_6_1, fvC_6_2, fvC_6_3, pfC_6_3, fvC_7_0, fvC_7_1, fvC_7_2, h1, h2]
  have := loop 4 0 (by omega)
  rw [fl_0, sA_self] at this
  exact this
/-- no items, no sheets -/
def T0 : TT := (0, fun _ => 0, fun _ => 0, fun _ => 0, fun _ => 1, fun _ => 0, fun _ _ => 0)
def σz : MS := (T0, fun _ => 0, (0, 0, 0), 0, nI 0, nI 0, (fun _ => nI 0), (fun _ => none), (fun _ => 0), (fun _ _ => nI 0), nI 0)
def hz : aH := (fun _ _ => 0, fun _ _ => 0, fun _ _ => 0)
theorem okT0 : okT T0 := ⟨by decide, fun i hi => (by cases hi)⟩
theorem ItM0 : ItM hz T0 := ⟨rfl, fun i hi => (by cases hi), fun i hi => (by cases hi), fun i hi => (by cases hi), fun i hi => (by cases hi), fun i hi => (by cases hi), fun i hi => (by cases hi), fun i _ _ => rfl⟩
theorem ShM0 : ShM hz (sFr σz) (sZ σz) (sM σz) (sFd σz) := ⟨rfl, fun s _ => rfl, fun s f _ h => (by cases h), fun s f _ h => (by cases h), fun s f _ h => (by cases h), fun s _ => Nat.zero_le _, fun s f _ h => (by cases h)⟩
theorem ItC0 {h : aH} (h1 : fI h 1 7 = nI 0) (h2 : ∀ i, i < 12 → aI h 12 i = nI 0) : ItC h T0 := ⟨h1, fun i hi => (by cases hi), fun i hi => (by cases hi), fun i hi => (by cases hi), fun i hi => (by cases hi), fun i hi => (by cases hi), fun i hi => (by cases hi), fun i hi => (by cases hi), fun i _ h => h2 i h⟩
theorem D_fst {A : Nat → Prop} {ws ws' : va_W} (hD : va_D A ws) (h : ws'.map (fun x => x.1) = ws.map (fun x => x.1)) : va_D A ws' := by
  have g : ∀ (k : Nat) (x : Nat × va_E), ws'[k]? = some x → ∃ y, ws[k]? = some y ∧ y.1 = x.1 := fun k x hx => by
    have h1 := congrArg (fun z => z[k]?) h
    simp only [List.getElem?_map, hx, Option.map_some] at h1
    cases hy : ws[k]? with
    | none => rw [hy] at h1; cases h1
    | some y => rw [hy] at h1; exact ⟨y, rfl, (Option.some.inj h1).symm⟩
  refine ⟨fun i j x y hx hy hxy => ?_, fun k x hx => ?_⟩
  · obtain ⟨x2, a1, a2⟩ := g i x hx
    obtain ⟨y2, b1, b2⟩ := g j y hy
    exact hD.1 i j x2 y2 a1 b1 (by rw [a2, b2, hxy])
  · obtain ⟨x2, a1, a2⟩ := g k x hx
    rw [← a2]
    exact hD.2 k x2 a1
