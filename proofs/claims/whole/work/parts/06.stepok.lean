def isSw : Instr → Bool
  | .tableswitch .. => true
  | .lookupswitch .. => true
  | _ => false
def ilen : Instr → Nat
  | .iload _ => 2
  | .istore _ => 2
  | .lload _ => 2
  | .lstore _ => 2
  | .aload _ => 2
  | .bipush _ => 2
  | .ldc _ => 2
  | .iinc .. => 3
  | .goto _ => 3
  | .ifCond .. => 3
  | .if_icmp .. => 3
  | .getfield _ => 3
  | .putfield _ => 3
  | .invokevirtual _ => 3
  | .invokestatic _ => 3
  | .sipush _ => 3
  | .ldc_w _ => 3
  | .ldc2_w _ => 3
  | _ => 1
def tok (pc : Nat) (t : Nat) : Instr → Bool
  | .goto o => decide ((pc : Int) + o = (t : Int))
  | .ifCond _ o => decide ((pc : Int) + o = (t : Int))
  | .if_icmp _ o => decide ((pc : Int) + o = (t : Int))
  | .tableswitch dflt _ _ offs => decide (0 ≤ (pc : Int) + dflt) && offs.toList.all (fun o => decide (0 ≤ (pc : Int) + o))
  | _ => true
theorem tsK_sp {x : Int32} {pc : Nat} {k : Nat → Prop} : ∀ {offs : List Int} {lo : Int}, tsK x pc k lo offs → ∀ (z : Nat) (o : Int), offs[z]? = some o → x.toInt = lo + z → k ((pc : Int) + o).toNat := by
  intro offs
  induction offs with
  | nil => intro lo h z o hz; simp at hz
  | cons a offs ih =>
    intro lo h z o hz hx
    cases z with
    | zero =>
      have e : a = o := by simpa using hz
      subst e
      exact h.1 (by simpa using hx)
    | succ z => exact ih h.2 z o (by simpa using hz) (by rw [hx]; push_cast; omega)
section AMT
variable {p : Program} {l : Launch} {e : Env} {R : Room} {s : State} {m : MethodId} {args : Array Value} {below : List Frame} {meth : Method} {c : Code} {D : va_G} {cl : List vw_C} {tk : List Nat} {dA : Nat → ClassId} {w : List aE} {ad : Nat → Nat} {nL d rk : Nat} {Qp : Option Value → aH → Prop} {own : String} {cc : ByteArray} {x : aX} {S : aS} {nx : List Value → List Value → aH → Prop} {jp : Nat → List Value → List Value → aH → Prop}
set_option maxHeartbeats 4000000 in
theorem stp_ok {pc t len : Nat} {i : Instr} {ls st : List Value} {h : aH} (C0 : aCx p s m args meth c R cc nL own d rk D cl tk dA w ad) (hW : aWo cl tk w) (hL : aLk cl own x) (hd0 : 0 < d) (hS : ∀ y as h K, S y as h K → ∃ d', d' < d ∧ Sat l cl w tk d' y as h K) (hd : decode cc pc = .ok (i, len)) (hlen : isSw i = false → len = ilen i) (htk : tok pc t i = true)
    (hnx : ∀ ls st h, nx ls st h → aJ p l e R s m args below meth c D cl dA w ad nL (MQ below (aQc D cl w ad dA Qp) args s 0 0 (aA w ad)) (pc + ilen i) ls st h) (hjp : ∀ t ls st h, jp t ls st h → aJ p l e R s m args below meth c D cl dA w ad nL (MQ below (aQc D cl w ad dA Qp) args s 0 0 (aA w ad)) t ls st h) (hst : stp w cl x S Qp rk pc i t ls st h nx jp) : aJ p l e R s m args below meth c D cl dA w ad nL (MQ below (aQc D cl w ad dA Qp) args s 0 0 (aA w ad)) pc ls st h := by
  obtain ⟨hx, hb, hml, hown, hts, hR, hlk, hrt, hK, hN⟩ := id C0
  cases i with
  | iconst n =>
    obtain rfl := hlen rfl
    intro H locs la hl hn hP hS
    exact lv_iconst hx hb hd rfl (hnx _ _ _ hst H locs la hl hn hP hS)
  | bipush n =>
    obtain rfl := hlen rfl
    intro H locs la hl hn hP hS
    exact lv_bipush hx hb hd rfl (hnx _ _ _ hst H locs la hl hn hP hS)
  | sipush n =>
    obtain rfl := hlen rfl
    intro H locs la hl hn hP hS
    exact lv_sipush hx hb hd rfl (hnx _ _ _ hst H locs la hl hn hP hS)
  | lconst n =>
    obtain rfl := hlen rfl
    intro H locs la hl hn hP hS
    exact lv_lconst hx hb hd rfl (hnx _ _ _ hst H locs la hl hn hP hS)
  | ldc j =>
    obtain rfl := hlen rfl
    obtain ⟨v, hv, hst⟩ := opK_sp hst
    intro H locs la hl hn hP hS
    exact lv_ldc hx hb hown (hts _ (hL.2.2.1 j v hv)) hd (hnx _ _ _ hst H locs la hl hn hP hS)
  | ldc_w j =>
    obtain rfl := hlen rfl
    obtain ⟨v, hv, hst⟩ := opK_sp hst
    intro H locs la hl hn hP hS
    exact lv_ldcw hx hb hown (hts _ (hL.2.2.1 j v hv)) hd (hnx _ _ _ hst H locs la hl hn hP hS)
  | ldc2_w j =>
    obtain rfl := hlen rfl
    obtain ⟨v, hv, hst⟩ := opK_sp hst
    intro H locs la hl hn hP hS
    exact lv_ldc2 hx hb hown (hts _ (hL.2.2.2 j v hv)) hd (hnx _ _ _ hst H locs la hl hn hP hS)
  | iload j =>
    obtain rfl := hlen rfl
    obtain ⟨v, hv, hst⟩ := ldI_sp hst
    intro H locs la hl hn hP hS
    exact lv_iload hx hb hd (has_at hl hv (fun q => by cases q)) (hnx _ _ _ hst H locs la hl hn hP hS)
  | iload_n j =>
    obtain rfl := hlen rfl
    obtain ⟨v, hv, hst⟩ := ldI_sp hst
    intro H locs la hl hn hP hS
    exact lv_iload_n hx hb hd rfl (has_at hl hv (fun q => by cases q)) (hnx _ _ _ hst H locs la hl hn hP hS)
  | lload j =>
    obtain rfl := hlen rfl
    obtain ⟨v, hv, hst⟩ := ldJ_sp hst
    intro H locs la hl hn hP hS
    exact lv_lload hx hb hd (has_at hl hv (fun q => by cases q)) (hnx _ _ _ hst H locs la hl hn hP hS)
  | lload_n j =>
    obtain rfl := hlen rfl
    obtain ⟨v, hv, hst⟩ := ldJ_sp hst
    intro H locs la hl hn hP hS
    exact lv_lload_n hx hb hd rfl (has_at hl hv (fun q => by cases q)) (hnx _ _ _ hst H locs la hl hn hP hS)
  | aload j =>
    obtain rfl := hlen rfl
    obtain ⟨v, hv, hst⟩ := ldR_sp hst
    intro H locs la hl hn hP hS
    exact lv_aload hx hb hd (has_at hl hv (fun q => by cases q)) (hnx _ _ _ hst H locs la hl hn hP hS)
  | aload_n j =>
    obtain rfl := hlen rfl
    obtain ⟨v, hv, hst⟩ := ldR_sp hst
    intro H locs la hl hn hP hS
    exact lv_aload_n hx hb hd rfl (has_at hl hv (fun q => by cases q)) (hnx _ _ _ hst H locs la hl hn hP hS)
  | istore j =>
    obtain rfl := hlen rfl
    obtain ⟨v, r, rfl, hst⟩ := o_i_sp hst
    obtain ⟨ls', hk, h1, h2, h3⟩ := stK_sp hst
    intro H locs la hl hn hP hS
    exact lv_istore hx hb hd hl (by rw [← hn]; exact h2) rfl (fun la' hl' => hnx _ _ _ hk H locs la' (j_st h1 h2 h3 hl') (h1.trans hn) hP hS)
  | istore_n j =>
    obtain rfl := hlen rfl
    obtain ⟨v, r, rfl, hst⟩ := o_i_sp hst
    obtain ⟨ls', hk, h1, h2, h3⟩ := stK_sp hst
    intro H locs la hl hn hP hS
    exact lv_istore_n hx hb hd rfl hl (by rw [← hn]; exact h2) rfl (fun la' hl' => hnx _ _ _ hk H locs la' (j_st h1 h2 h3 hl') (h1.trans hn) hP hS)
  | lstore j =>
    obtain rfl := hlen rfl
    obtain ⟨v, r, rfl, hst⟩ := o_l_sp hst
    obtain ⟨ls', hk, h1, h2, h3⟩ := lsK_sp hst
    intro H locs la hl hn hP hS
    exact lv_lstore hx hb hd hl (by rw [← hn]; exact h2) rfl (fun la' hl' => hnx _ _ _ hk H locs la' (has_mono hl' (prs_storeL (v := .long v) h3)) (h1.trans hn) hP hS)
  | lstore_n j =>
    obtain rfl := hlen rfl
    obtain ⟨v, r, rfl, hst⟩ := o_l_sp hst
    obtain ⟨ls', hk, h1, h2, h3⟩ := lsK_sp hst
    intro H locs la hl hn hP hS
    exact lv_lstore_n hx hb hd rfl hl (by rw [← hn]; exact h2) rfl (fun la' hl' => hnx _ _ _ hk H locs la' (has_mono hl' (prs_storeL (v := .long v) h3)) (h1.trans hn) hP hS)
  | iinc j n =>
    obtain rfl := hlen rfl
    obtain ⟨v, hv, hst⟩ := ldI_sp hst
    obtain ⟨ls', hk, h1, h2, h3⟩ := stK_sp hst
    intro H locs la hl hn hP hS
    obtain ⟨k, hk2⟩ := List.getElem?_of_mem ((prs_mem (ad := ad) ls 0 j (.int v)).mpr ⟨j, .int v, hv, (fun q => by cases q), by omega, rfl⟩)
    exact lv_iinc hx hb hd hl hk2 rfl (by rw [← hn]; exact h2) rfl (fun la' hl' => hnx _ _ _ hk H locs la' (j_st h1 h2 h3 hl') (h1.trans hn) hP hS)
  | iadd =>
    obtain rfl := hlen rfl
    obtain ⟨a, b, r, rfl, hst⟩ := o_ii_sp hst
    intro H locs la hl hn hP hS
    exact lv_iadd hx hb hd (hnx _ _ _ hst H locs la hl hn hP hS)
  | isub =>
    obtain rfl := hlen rfl
    obtain ⟨a, b, r, rfl, hst⟩ := o_ii_sp hst
    intro H locs la hl hn hP hS
    exact lv_isub hx hb hd (hnx _ _ _ hst H locs la hl hn hP hS)
  | imul =>
    obtain rfl := hlen rfl
    obtain ⟨a, b, r, rfl, hst⟩ := o_ii_sp hst
    intro H locs la hl hn hP hS
    exact lv_imul hx hb hd (hnx _ _ _ hst H locs la hl hn hP hS)
  | iand =>
    obtain rfl := hlen rfl
    obtain ⟨a, b, r, rfl, hst⟩ := o_ii_sp hst
    intro H locs la hl hn hP hS
    exact lv_iand hx hb hd (hnx _ _ _ hst H locs la hl hn hP hS)
  | ior =>
    obtain rfl := hlen rfl
    obtain ⟨a, b, r, rfl, hst⟩ := o_ii_sp hst
    intro H locs la hl hn hP hS
    exact lv_ior hx hb hd (hnx _ _ _ hst H locs la hl hn hP hS)
  | ixor =>
    obtain rfl := hlen rfl
    obtain ⟨a, b, r, rfl, hst⟩ := o_ii_sp hst
    intro H locs la hl hn hP hS
    exact lv_ixor hx hb hd (hnx _ _ _ hst H locs la hl hn hP hS)
  | ishl =>
    obtain rfl := hlen rfl
    obtain ⟨a, b, r, rfl, hst⟩ := o_ii_sp hst
    intro H locs la hl hn hP hS
    exact lv_ishl hx hb hd (hnx _ _ _ hst H locs la hl hn hP hS)
  | ishr =>
    obtain rfl := hlen rfl
    obtain ⟨a, b, r, rfl, hst⟩ := o_ii_sp hst
    intro H locs la hl hn hP hS
    exact lv_ishr hx hb hd (hnx _ _ _ hst H locs la hl hn hP hS)
  | idiv =>
    obtain rfl := hlen rfl
    obtain ⟨a, b, r, rfl, hne, hst⟩ := o_ii_sp hst
    intro H locs la hl hn hP hS
    exact lv_idiv hx hb hd hne (hnx _ _ _ hst H locs la hl hn hP hS)
  | irem =>
    obtain rfl := hlen rfl
    obtain ⟨a, b, r, rfl, hne, hst⟩ := o_ii_sp hst
    intro H locs la hl hn hP hS
    exact lv_irem hx hb hd hne (hnx _ _ _ hst H locs la hl hn hP hS)
  | ladd =>
    obtain rfl := hlen rfl
    obtain ⟨a, b, r, rfl, hst⟩ := o_ll_sp hst
    intro H locs la hl hn hP hS
    exact lv_ladd hx hb hd (hnx _ _ _ hst H locs la hl hn hP hS)
  | lmul =>
    obtain rfl := hlen rfl
    obtain ⟨a, b, r, rfl, hst⟩ := o_ll_sp hst
    intro H locs la hl hn hP hS
    exact lv_lmul hx hb hd (hnx _ _ _ hst H locs la hl hn hP hS)
  | lcmp =>
    obtain rfl := hlen rfl
    obtain ⟨a, b, r, rfl, hst⟩ := o_ll_sp hst
    intro H locs la hl hn hP hS
    exact W.lcmp hx hb hd (hnx _ _ _ hst H locs la hl hn hP hS)
  | iushr =>
    obtain rfl := hlen rfl
    obtain ⟨a, b, r, rfl, hst⟩ := o_ii_sp hst
    intro H locs la hl hn hP hS
    exact lv_iushr hx hb hd rfl (hnx _ _ _ hst H locs la hl hn hP hS)
  | i2l =>
    obtain rfl := hlen rfl
    obtain ⟨a, r, rfl, hst⟩ := o_i_sp hst
    intro H locs la hl hn hP hS
    exact lv_i2l hx hb hd rfl (hnx _ _ _ hst H locs la hl hn hP hS)
  | i2b =>
    obtain rfl := hlen rfl
    obtain ⟨a, r, rfl, hst⟩ := o_i_sp hst
    intro H locs la hl hn hP hS
    exact lv_i2b hx hb hd rfl (hnx _ _ _ hst H locs la hl hn hP hS)
  | i2s =>
    obtain rfl := hlen rfl
    obtain ⟨a, r, rfl, hst⟩ := o_i_sp hst
    intro H locs la hl hn hP hS
    exact lv_i2s hx hb hd rfl (hnx _ _ _ hst H locs la hl hn hP hS)
  | dup =>
    obtain rfl := hlen rfl
    have hst0 : o_du st (fun r => nx ls r h) := hst
    obtain ⟨v, r, rfl, hc, hc2, hst⟩ := o_du_sp hst0
    intro H locs la hl hn hP hS
    exact lv_dup hx hb hd (hc2 ad) (hnx _ _ _ hst H locs la hl hn hP hS)
  | dup2 =>
    obtain rfl := hlen rfl
    obtain ⟨a, j, r, rfl, hst⟩ := o_ri_sp hst
    intro H locs la hl hn hP hS
    exact lv_dup2_11 hx hb hd rfl rfl (hnx _ _ _ hst H locs la hl hn hP hS)
  | getfield j =>
    obtain rfl := hlen rfl
    obtain ⟨a, r, rfl, hst⟩ := o_r_sp hst
    obtain ⟨v, hv, hst⟩ := opK_sp hst
    exact j_get C0 hW hL hd hv (hnx _ _ _ hst)
  | putfield j =>
    obtain rfl := hlen rfl
    obtain ⟨a, v, r, rfl, hst⟩ := o_ri_sp hst
    obtain ⟨k, hv, hst⟩ := opK_sp hst
    exact j_put C0 hW hL hd hv (hnx _ _ _ hst)
  | iaload =>
    obtain rfl := hlen rfl
    obtain ⟨a, j, r, rfl, hin, hst⟩ := o_ri_sp hst
    exact j_iald C0 hW hd hin (hnx _ _ _ hst)
  | baload =>
    obtain rfl := hlen rfl
    obtain ⟨a, j, r, rfl, hin, hst⟩ := o_ri_sp hst
    exact j_bald C0 hW hd hin (hnx _ _ _ hst)
  | laload =>
    obtain rfl := hlen rfl
    obtain ⟨a, j, r, rfl, hin, hst⟩ := o_ri_sp hst
    exact j_lald C0 hW hd hin (hnx _ _ _ hst)
  | aaload =>
    obtain rfl := hlen rfl
    obtain ⟨a, j, r, rfl, hin, hst⟩ := o_ri_sp hst
    exact j_aald C0 hW hd hin (hnx _ _ _ hst)
  | iastore =>
    obtain rfl := hlen rfl
    obtain ⟨a, j, v, r, rfl, hin, hst⟩ := o_rii_sp hst
    exact j_iast C0 hW hd hin (hnx _ _ _ hst)
  | bastore =>
    obtain rfl := hlen rfl
    obtain ⟨a, j, v, r, rfl, hin, hv, hst⟩ := o_rii_sp hst
    exact j_bast C0 hW hd hin hv (hnx _ _ _ hst)
  | lastore =>
    obtain rfl := hlen rfl
    obtain ⟨a, j, v, r, rfl, hin, hst⟩ := o_ril_sp hst
    exact j_last C0 hW hd hin (hnx _ _ _ hst)
  | arraylength =>
    obtain rfl := hlen rfl
    obtain ⟨a, r, rfl, hst⟩ := o_r_sp hst
    obtain ⟨n, hv, hst⟩ := opK_sp hst
    exact j_alen C0 hW hd hv (hnx _ _ _ hst)
  | goto o =>
    obtain rfl := hlen rfl
    intro H locs la hl hn hP hS
    exact lv_goto hx hb hd (of_decide_eq_true htk) (hjp _ _ _ _ hst H locs la hl hn hP hS)
  | ifCond cd o =>
    obtain rfl := hlen rfl
    obtain ⟨a, r, rfl, ht, hf⟩ := o_i_sp hst
    intro H locs la hl hn hP hS
    cases cd with
    | eq => exact lv_if_eq hx hb hd (of_decide_eq_true htk) (fun z => hjp _ _ _ _ (ht z) H locs la hl hn hP hS) (fun z => hnx _ _ _ (hf z) H locs la hl hn hP hS)
    | ne => exact lv_if_ne hx hb hd (of_decide_eq_true htk) (fun z => hjp _ _ _ _ (ht z) H locs la hl hn hP hS) (fun z => hnx _ _ _ (hf (fun q => q z)) H locs la hl hn hP hS)
    | lt => exact lv_if_lt hx hb hd (of_decide_eq_true htk) (fun z => hjp _ _ _ _ (ht z) H locs la hl hn hP hS) (fun z => hnx _ _ _ (hf z) H locs la hl hn hP hS)
    | ge => exact lv_if_ge hx hb hd (of_decide_eq_true htk) (fun z => hjp _ _ _ _ (ht z) H locs la hl hn hP hS) (fun z => hnx _ _ _ (hf z) H locs la hl hn hP hS)
    | gt => exact lv_if_gt hx hb hd (of_decide_eq_true htk) (fun z => hjp _ _ _ _ (ht z) H locs la hl hn hP hS) (fun z => hnx _ _ _ (hf z) H locs la hl hn hP hS)
    | le => exact lv_if_le hx hb hd (of_decide_eq_true htk) (fun z => hjp _ _ _ _ (ht z) H locs la hl hn hP hS) (fun z => hnx _ _ _ (hf z) H locs la hl hn hP hS)
  | if_icmp cd o =>
    obtain rfl := hlen rfl
    obtain ⟨a, b, r, rfl, ht, hf⟩ := o_ii_sp hst
    intro H locs la hl hn hP hS
    cases cd with
    | eq => exact lv_icmp_eq hx hb hd (of_decide_eq_true htk) (fun z => hjp _ _ _ _ (ht z) H locs la hl hn hP hS) (fun z => hnx _ _ _ (hf z) H locs la hl hn hP hS)
    | ne => exact lv_icmp_ne hx hb hd (of_decide_eq_true htk) (fun z => hjp _ _ _ _ (ht z) H locs la hl hn hP hS) (fun z => hnx _ _ _ (hf (fun q => q z)) H locs la hl hn hP hS)
    | lt => exact lv_icmp_lt hx hb hd (of_decide_eq_true htk) (fun z => hjp _ _ _ _ (ht z) H locs la hl hn hP hS) (fun z => hnx _ _ _ (hf z) H locs la hl hn hP hS)
    | ge => exact lv_icmp_ge hx hb hd (of_decide_eq_true htk) (fun z => hjp _ _ _ _ (ht z) H locs la hl hn hP hS) (fun z => hnx _ _ _ (hf z) H locs la hl hn hP hS)
    | gt => exact lv_icmp_gt hx hb hd (of_decide_eq_true htk) (fun z => hjp _ _ _ _ (ht z) H locs la hl hn hP hS) (fun z => hnx _ _ _ (hf z) H locs la hl hn hP hS)
    | le => exact lv_icmp_le hx hb hd (of_decide_eq_true htk) (fun z => hjp _ _ _ _ (ht z) H locs la hl hn hP hS) (fun z => hnx _ _ _ (hf z) H locs la hl hn hP hS)
  | ireturn =>
    obtain rfl := hlen rfl
    obtain ⟨v, rfl, hk, hq⟩ := o_i1_sp hst
    intro H locs la hl hn hP hS
    rcases hk with rfl | ⟨rfl, hv⟩
    · exact W.iret (v := v) hx hb hrt (fun t ht hWm => ⟨⟨some (.int v), h, rfl, hq, by rw [ht]; exact hP⟩, hS.F ht⟩) hS.2.2 hd hlk
    · exact W.zret (v := v) hx hb hrt (by rcases hv with rfl | rfl <;> decide) (fun t ht hWm => ⟨⟨some (.int v), h, rfl, hq, by rw [ht]; exact hP⟩, hS.F ht⟩) hS.2.2 hd hlk
  | lreturn =>
    obtain rfl := hlen rfl
    obtain ⟨v, rfl, rfl, hq⟩ := o_l1_sp hst
    intro H locs la hl hn hP hS
    exact W.lret (v := v) hx hb hrt (fun t ht hWm => ⟨⟨some (.long v), h, rfl, hq, by rw [ht]; exact hP⟩, hS.F ht⟩) hS.2.2 hd hlk
  | return_ =>
    obtain rfl := hlen rfl
    obtain ⟨rfl, rfl, hq⟩ := o_nil_sp hst
    intro H locs la hl hn hP hS
    exact W.vret hx hb hrt (fun t ht hWm => ⟨⟨none, h, rfl, hq, by rw [ht]; exact hP⟩, hS.F ht⟩) hS.2.2 hd hlk
  | tableswitch dflt lo hi offs =>
    obtain ⟨a, r, rfl, h1, h2, h3⟩ := o_i_sp hst
    have htk2 : (decide (0 ≤ (pc : Int) + dflt) && offs.toList.all (fun o => decide (0 ≤ (pc : Int) + o))) = true := htk
    rw [Bool.and_eq_true] at htk2
    intro H locs la hl hn hP hS
    by_cases z : a.toInt < lo ∨ hi < a.toInt
    · exact lv_tableOut hx hb hd z (Int.toNat_of_nonneg (of_decide_eq_true htk2.1)).symm (hjp _ _ _ _ (h1 z) H locs la hl hn hP hS)
    · have z1 : ¬ a.toInt < lo := fun q => z (Or.inl q)
      have z2 : ¬ hi < a.toInt := fun q => z (Or.inr q)
      have hlt : (a.toInt - lo).toNat < offs.toList.length := by rw [Array.length_toList]; omega
      have ho : offs.toList[(a.toInt - lo).toNat]? = some offs.toList[(a.toInt - lo).toNat] := List.getElem?_eq_getElem hlt
      have hnn := of_decide_eq_true (List.all_eq_true.mp htk2.2 _ (List.mem_of_getElem? ho))
      have hk := tsK_sp h3 _ _ ho (by omega)
      exact lv_tableIn hx hb hd z1 z2 (by rw [← Array.getElem?_toList]; exact ho) (Int.toNat_of_nonneg hnn).symm (hjp _ _ _ _ hk H locs la hl hn hP hS)
  | lookupswitch dflt ps =>
    obtain ⟨a, r, rfl, h1, h2, h3⟩ := o_i_sp hst
    intro H locs la hl hn hP hS
    exact lv_lookup hx hb hd h1 rfl (Int.toNat_of_nonneg h2).symm (hjp _ _ _ _ h3 H locs la hl hn hP hS)
  | invokevirtual j =>
    obtain rfl := hlen rfl
    obtain ⟨⟨y, n, kd⟩, hy, hkd, hs1⟩ := opK_sp hst
    cases (show kd = 0 from hkd)
    obtain ⟨bs, r, hbs, hbr, hs2⟩ := cargs_sp hs1
    obtain ⟨hsm, hs3⟩ := o_sm_sp hs2
    obtain ⟨a, as, has, hrc, hs4⟩ := o_rc_sp hs3
    rw [List.append_nil] at has hs4
    rw [has] at hs4
    obtain ⟨d', hd', hSat⟩ := hS _ _ _ _ hs4
    have e1 : bs = as.reverse ++ [.ref a] := by rw [← List.reverse_reverse bs, has]; simp
    have e2 : st = as.reverse ++ .ref a :: r := by rw [hbr, e1]; simp
    rw [e2]
    refine j_callV C0 hW hL hml hd hy ?_ hsm hrc hd' hSat (fun v h' hk => hnx _ _ _ hk)
    have := congrArg List.length e1
    simp at this
    have hbs2 : bs.length = n + 1 := hbs
    omega
  | invokestatic j =>
    obtain rfl := hlen rfl
    obtain ⟨⟨y, n, kd⟩, hy, hs0⟩ := opK_sp hst
    rcases hs0 with ⟨hkd, hs1⟩ | ⟨hkd, hs1⟩ | ⟨hkd, hs1⟩ | ⟨hkd, hs1⟩
    · cases (show kd = 1 from hkd)
      obtain ⟨bs, r, hbs, hbr, hs2⟩ := cargs_sp hs1
      obtain ⟨hsm, hs3⟩ := o_sm_sp hs2
      rw [List.append_nil] at hs3
      obtain ⟨d', hd', hSat⟩ := hS _ _ _ _ hs3
      have e2 : st = bs.reverse.reverse ++ r := by rw [List.reverse_reverse]; exact hbr
      rw [e2]
      exact j_callS C0 hW hL hml hd hy (by rw [List.length_reverse]; exact hbs) hsm hd' hSat (fun v h' hk => hnx _ _ _ hk)
    · cases (show kd = 2 from hkd)
      obtain ⟨a, sp, a2, dp, n2, r, hbr, ⟨hi, hp1, hp2⟩, hs2⟩ := o_cp_sp hs1
      obtain ⟨hsm, hs3⟩ := o_sm_sp hs2
      rw [hbr]
      exact j_copy C0 hW hL hml hd hy hd0 hsm hi hp1 hp2 (hnx _ _ _ hs3)
    · cases (show kd = 3 from hkd)
      obtain ⟨a, b, r, hbr, hs2⟩ := o_ii_sp hs1
      obtain ⟨hsm, hs3⟩ := o_sm_sp hs2
      rw [hbr]
      exact j_max C0 hL hml hd hy hd0 hsm (hnx _ _ _ hs3)
    · cases (show kd = 4 from hkd)
      obtain ⟨a, b, r, hbr, hs2⟩ := o_ii_sp hs1
      obtain ⟨hsm, hs3⟩ := o_sm_sp hs2
      rw [hbr]
      exact j_min C0 hL hml hd hy hd0 hsm (hnx _ _ _ hs3)
  | _ => exact False.elim hst
end AMT
