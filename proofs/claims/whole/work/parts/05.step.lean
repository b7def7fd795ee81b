section AMS
variable {p : Program} {l : Launch} {e : Env} {R : Room} {s : State} {m : MethodId} {args : Array Value} {below : List Frame} {meth : Method} {c : Code} {D : va_G} {cl : List vw_C} {tk : List Nat} {dA : Nat → ClassId} {w : List aE} {ad : Nat → Nat} {nL d rk : Nat} {QQ : State → Prop} {own : String} {cc : ByteArray} {pc : Nat} {ls st rest : List Value} {h : aH}
theorem a_callK {H : Heap} {locs : List Loc} {la : Array Slot} {st0 rest' : List Value} {av : Array Value} {Qp : Option Value → aH → Prop}
    (hr : va_Run p l e R s m args below meth c H locs 0 0 0 0 (F0 m pc la st0) rest' (aQc D cl w ad dA Qp av) (aA w ad)) (hS : va_S (aA w ad) s.heap H locs)
    (kk : ∀ (v : Option Value) (h' : aH) (H1 : Heap) (locs1 : List Loc), Qp v h' → va_P D cl (aW w ad dA h') H1 → va_S (aA w ad) s.heap H1 locs1 → W p l e R s m args below meth c H1 locs1 0 0 QQ (F0 m (pc + 3) la ((v.map (cv ad)).toList ++ rest'))) :
    W p l e R s m args below meth c H locs 0 0 QQ (F0 m pc la st0) := by
  intro T hT X
  obtain ⟨v, st₀, t, T', L, h0, X', hL, e1, e2, ⟨⟨v', h', hv, hp, hb⟩, hz, hk⟩, st⟩ := hr T hT X
  cases hv
  rw [h0] at hz hk
  obtain ⟨t2, a1, b1⟩ := kk v' h' T'.heap (locs ++ L) hp (by rw [e1]; exact hb)
    ⟨Nat.le_trans hS.1 (by rw [e1]; exact hz), fun q h1 h2 => by rw [e1, hk q (Nat.lt_of_lt_of_le h1 hS.1) h2]; exact hS.2.1 q h1 h2, fun q hq => by
      rcases List.mem_append.mp hq with h | h
      · exact hS.2.2 q h
      · exact hL q h⟩ T' rfl X'
  exact ⟨t2, st t2 a1, b1⟩
theorem pc_blind {as : List Value} : FrameBlind (aPc D cl w tk ad dA as h) := fun a U g mk q => by
  obtain ⟨q0, qP, qK, qN⟩ := q
  exact ⟨q0, qP, va_K.moved (u := U) (U := U.calling g mk a) (Vm.Alike.refl U.vm) qK, qN⟩
theorem pc_holds {as : List Value} {H : Heap} (hP : va_P D cl (aW w ad dA h) H) (hK : aK tk D cl dA s) (hN : aN w ad) : ∀ U : State, U.heap = H → s.WarmedH U.vm → aPc D cl w tk ad dA as h (as.map (cv ad)).toArray U := fun U hU hW =>
  ⟨rfl, by rw [hU]; exact hP, va_K.moved hW.alike hK, hN⟩
theorem callB_ok {y : MethodName} {bytes : ByteArray} {maxL n j d' : Nat} {ret : Option FieldType} {x : aX} {kd : Nat} (C0 : aCx p s m args meth c R cc nL own d rk D cl tk dA w ad) (hL : aLk cl own x) (hy : lk x.2.1 j = some (y, n, kd)) (hc : Cond.code y bytes maxL ret ∈ aT) (hm : maxL ≤ 21) (hd : d' < d) :
    CallB R s args own j y bytes maxL ret (Cond.code y bytes maxL ret :: aT) (rmD d') 0 0 n := by
  obtain ⟨hx, hb, hml, hown, hts, hR, hlk, hrt, hK, hN⟩ := C0
  obtain ⟨g1, g2, g3, -⟩ := hL.2.1 j y n kd hy
  refine callB_of n hts (tbl_in hc) rfl rfl rfl (hts _ g2) (hts _ g1) g3 ⟨?_, ?_⟩
  · rw [hR]; exact hd
  · rw [hR]; show 8 + (maxL + 11) + 40 * d' ≤ 40 * d; omega
theorem j_callV {y : MethodName} {n j d' : Nat} {x : aX} {as r : List Value} {a : Nat} {Qp : Option Value → aH → Prop} (C0 : aCx p s m args meth c R cc nL own d rk D cl tk dA w ad) (hW : aWo cl tk w) (hL : aLk cl own x) (hnL : c.maxLocals = nL) (hd : decode cc pc = .ok (.invokevirtual j, 3)) (hy : lk x.2.1 j = some (y, n, 0)) (hn : as.length = n) (hsm : ∀ ad : Nat → Nat, ((r.map (cv ad)).map fun v => v.category).sum ≤ 8) (hrc : rcv w cl a y = true) (hd' : d' < d) (hSat : Sat l cl w tk d' y (.ref a :: as) h Qp)
    (k : ∀ v h', Qp v h' → aJ p l e R s m args below meth c D cl dA w ad nL QQ (pc + 3) ls (v.toList ++ r) h') : aJ p l e R s m args below meth c D cl dA w ad nL QQ pc ls (as.reverse ++ .ref a :: r) h := by
  obtain ⟨bytes, maxL, ret, hc, hm, hM⟩ := hSat
  have hB := callB_ok C0 hL hy hc hm hd'
  obtain ⟨hx, hb, hml, hown, hts, hR, hlk, hrt, hK, hN⟩ := C0
  obtain ⟨g1, g2, g3, g4, -⟩ := hL.2.1 j y n 0 hy
  obtain ⟨g5, g6⟩ := g4 rfl
  obtain ⟨ci, rs, q, e1, e2, e3, e4⟩ := rcv_sp hrc
  intro H locs la hl hln hP hS
  have hrecv := va_recv hK hP e2 (q0 := a) (a := ad a) (ci := ci) (by rw [aW_get e4, e1]; rfl)
  rw [e3] at hrecv
  have hst : (as.reverse ++ .ref a :: r).map (cv ad) = (as.map (cv ad)).reverse ++ .ref (ad a) :: r.map (cv ad) := by
    rw [List.map_append, List.map_reverse]; rfl
  rw [hst]
  refine a_callK (Qp := Qp) (av := (Value.ref (ad a) :: as.map (cv ad)).toArray) (va_runV (nL := nL) ⟨hx, hb, hnL, hown, hts⟩ (hM D ad dA) ⟨hB, hts _ g5, hts _ g6⟩ ⟨pc_blind, hrecv, pc_holds (as := .ref a :: as) hP hK hN⟩ rfl (by rw [List.length_map]; exact hn) hl.1 rfl (lv_room (hsm ad)) hd ⟨Nat.zero_le _, Nat.zero_le _⟩) hS (fun v h' H1 locs1 hq hP1 hS1 => ?_)
  have := k v h' hq H1 locs1 la hl hln hP1 hS1
  rw [List.map_append] at this
  have e5 : (v.map (cv ad)).toList = v.toList.map (cv ad) := by cases v <;> rfl
  rw [e5]
  exact this
theorem j_callS {y : MethodName} {n j d' : Nat} {x : aX} {as r : List Value} {Qp : Option Value → aH → Prop} (C0 : aCx p s m args meth c R cc nL own d rk D cl tk dA w ad) (hW : aWo cl tk w) (hL : aLk cl own x) (hnL : c.maxLocals = nL) (hd : decode cc pc = .ok (.invokestatic j, 3)) (hy : lk x.2.1 j = some (y, n, 1)) (hn : as.length = n) (hsm : ∀ ad : Nat → Nat, ((r.map (cv ad)).map fun v => v.category).sum ≤ 8) (hd' : d' < d) (hSat : Sat l cl w tk d' y as h Qp)
    (k : ∀ v h', Qp v h' → aJ p l e R s m args below meth c D cl dA w ad nL QQ (pc + 3) ls (v.toList ++ r) h') : aJ p l e R s m args below meth c D cl dA w ad nL QQ pc ls (as.reverse ++ r) h := by
  obtain ⟨bytes, maxL, ret, hc, hm, hM⟩ := hSat
  have hB := callB_ok C0 hL hy hc hm hd'
  obtain ⟨hx, hb, hml, hown, hts, hR, hlk, hrt, hK, hN⟩ := C0
  obtain ⟨g1, g2, g3, -, g4, -⟩ := hL.2.1 j y n 1 hy
  intro H locs la hl hln hP hS
  have hst : (as.reverse ++ r).map (cv ad) = (as.map (cv ad)).reverse ++ r.map (cv ad) := by
    rw [List.map_append, List.map_reverse]
  rw [hst]
  refine a_callK (Qp := Qp) (av := (as.map (cv ad)).toArray) (va_runS (nL := nL) ⟨hx, hb, hnL, hown, hts⟩ (hM D ad dA) ⟨hB, hts _ (g4 rfl)⟩ ⟨pc_blind, pc_holds (as := as) hP hK hN⟩ rfl (by rw [List.length_map]; exact hn) hl.1 rfl (lv_room (hsm ad)) hd ⟨Nat.zero_le _, Nat.zero_le _⟩) hS (fun v h' H1 locs1 hq hP1 hS1 => ?_)
  have := k v h' hq H1 locs1 la hl hln hP1 hS1
  rw [List.map_append] at this
  have e5 : (v.map (cv ad)).toList = v.toList.map (cv ad) := by cases v <;> rfl
  rw [e5]
  exact this
theorem j_copy {y : MethodName} {n0 j a a2 : Nat} {sp dp n : Int32} {x : aX} {r : List Value} (C0 : aCx p s m args meth c R cc nL own d rk D cl tk dA w ad) (hW : aWo cl tk w) (hL : aLk cl own x) (hnL : c.maxLocals = nL) (hd : decode cc pc = .ok (.invokestatic j, 3)) (hy : lk x.2.1 j = some (y, n0, 2)) (hd0 : 0 < d) (hsm : ∀ ad : Nat → Nat, ((r.map (cv ad)).map fun v => v.category).sum ≤ 8)
    (hi : ¬ sp < 0 ∧ ¬ dp < 0 ∧ ¬ n < 0 ∧ sp.toNatClampNeg + n.toNatClampNeg ≤ lenK w 0 a ∧ dp.toNatClampNeg + n.toNatClampNeg ≤ lenK w 0 a2) (hp1 : 0 < lenK w 0 a) (hp2 : 0 < lenK w 0 a2)
    (k : aJ p l e R s m args below meth c D cl dA w ad nL QQ (pc + 3) ls r (sA h a2 (va_cpy (aI h a) (aI h a2) sp.toNatClampNeg dp.toNatClampNeg n.toNatClampNeg))) : aJ p l e R s m args below meth c D cl dA w ad nL QQ pc ls (.int n :: .int dp :: .ref a2 :: .int sp :: .ref a :: r) h := by
  obtain ⟨hx, hb, hml, hown, hts, hR, hlk, hrt, hK, hN⟩ := C0
  obtain ⟨g1, g2, g3, -, -, g4, -⟩ := hL.2.1 j y n0 2 hy
  obtain ⟨rfl, g5, g6⟩ := g4 rfl
  obtain ⟨i1, i2, i3, i4, i5⟩ := hi
  obtain ⟨b1, h1, h2⟩ := lenK_sp hp1 (by omega)
  obtain ⟨b2, h3, h4⟩ := lenK_sp hp2 (by omega)
  obtain ⟨t0, ht⟩ := aK_ty hK (hW.1 a 0 _ b1 h1 h2)
  intro H locs la hl hln hP hS
  refine va_copyi hx hb (hnL.trans hl.1.symm) hown (hts _ g1) (hts _ g5) (hts _ g6) (hts _ g2) hK hP (aW_D hN) hS a a2 t0 t0 (by rw [aW_get h2, h1]; rfl) (by rw [aW_get h4, h3]; rfl) ht ht rfl i1 i2 i3 i4 i5 (fun i _ => rfl) (by rw [hR]; exact hd0) ?_ hd (fun H1 locs1 hP1 _ hS1 => ?_)
  · rw [hR]
    have := hsm ad
    have e : nativeFrameWords "java/lang/System" "arraycopy" 5 + 11 ≤ 30 := by decide +kernel
    show _ ≤ 40 * d
    omega
  · rw [aW_set (h' := sA h a2 (va_cpy (aI h a) (aI h a2) sp.toNatClampNeg dp.toNatClampNeg n.toNatClampNeg)) (fun q hq => cE_sA hq _) (by rw [h3]; simp [cE, aI, sA])] at hP1
    exact k H1 locs1 la hl hln hP1 hS1
theorem j_max {y : MethodName} {n0 j : Nat} {a b : Int32} {x : aX} {r : List Value} (C0 : aCx p s m args meth c R cc nL own d rk D cl tk dA w ad) (hL : aLk cl own x) (hnL : c.maxLocals = nL) (hd : decode cc pc = .ok (.invokestatic j, 3)) (hy : lk x.2.1 j = some (y, n0, 3)) (hd0 : 0 < d) (hsm : ∀ ad : Nat → Nat, ((r.map (cv ad)).map fun v => v.category).sum ≤ 8)
    (k : aJ p l e R s m args below meth c D cl dA w ad nL QQ (pc + 3) ls (.int (if a < b then b else a) :: r) h) : aJ p l e R s m args below meth c D cl dA w ad nL QQ pc ls (.int b :: .int a :: r) h := by
  obtain ⟨hx, hb, hml, hown, hts, hR, hlk, hrt, hK, hN⟩ := C0
  obtain ⟨g1, g2, g3, -, -, -, g4, -⟩ := hL.2.1 j y n0 3 hy
  obtain ⟨rfl, g5, g6⟩ := g4 rfl
  intro H locs la hl hln hP hS
  refine va_mmax hx hb (hnL.trans hl.1.symm) hown (hts _ g1) (hts _ g5) (hts _ g2) (hts _ g6) (by rw [hR]; exact hd0) ?_ (Nat.zero_le _) (Nat.zero_le _) hd (k H locs la hl hln hP hS)
  rw [hR]
  have := hsm ad
  show _ ≤ 40 * d
  omega
theorem j_min {y : MethodName} {n0 j : Nat} {a b : Int32} {x : aX} {r : List Value} (C0 : aCx p s m args meth c R cc nL own d rk D cl tk dA w ad) (hL : aLk cl own x) (hnL : c.maxLocals = nL) (hd : decode cc pc = .ok (.invokestatic j, 3)) (hy : lk x.2.1 j = some (y, n0, 4)) (hd0 : 0 < d) (hsm : ∀ ad : Nat → Nat, ((r.map (cv ad)).map fun v => v.category).sum ≤ 8)
    (k : aJ p l e R s m args below meth c D cl dA w ad nL QQ (pc + 3) ls (.int (if b < a then b else a) :: r) h) : aJ p l e R s m args below meth c D cl dA w ad nL QQ pc ls (.int b :: .int a :: r) h := by
  obtain ⟨hx, hb, hml, hown, hts, hR, hlk, hrt, hK, hN⟩ := C0
  obtain ⟨g1, g2, g3, -, -, -, -, g4⟩ := hL.2.1 j y n0 4 hy
  obtain ⟨rfl, g5, g6⟩ := g4 rfl
  intro H locs la hl hln hP hS
  refine va_mmin hx hb (hnL.trans hl.1.symm) hown (hts _ g1) (hts _ g5) (hts _ g2) (hts _ g6) (by rw [hR]; exact hd0) ?_ (Nat.zero_le _) (Nat.zero_le _) hd (k H locs la hl hln hP hS)
  rw [hR]
  have := hsm ad
  show _ ≤ 40 * d
  omega
theorem j_st {ls' : List Value} {v : Int32} {i : Nat} {la : Array Slot} (h1 : ls'.length = ls.length) (h2 : i < ls.length) (h3 : ∀ (j : Nat) (u : Value), ls'[j]? = some u → u ≠ .null → (j = i ∧ u = .int v) ∨ (j ≠ i ∧ ls[j]? = some u ∧ (j + 1 = i → u.category = 1)))
    (hl : lv_has la nL ((i, Value.int v) :: (prs ad 0 ls).filter (fun q => !(q.1 == i) && !(q.1 + 1 == i && q.2.category == 2)))) : lv_has la nL (prs ad 0 ls') := has_mono hl (prs_store (v := .int v) h3)
end AMS
