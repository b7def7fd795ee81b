def okB (cc : ByteArray) (e : Nat) : Nat → List (Nat × Instr × Nat) → Bool
  | pc, [] => pc == e
  | pc, (q, i, t) :: is => q == pc && (match decode cc pc with
    | .ok (j, len) => decide (j = i) && (isSw i || len == ilen i)
    | _ => false) && tok pc t i && okB cc e (pc + ilen i) is
def okC (cc : ByteArray) (cd : aCd) : Bool := cd.2.all (fun b => okB cc b.2.1 b.1 b.2.2)
def go (w : List aE) (cl : List vw_C) (x : aX) (S : aS) (Q : Option Value → aH → Prop) (rk : Nat) (cd : aCd) (J : Nat → List Value → List Value → aH → Prop) (n : Nat) (t : Nat) (ls st : List Value) (h : aH) : Prop :=
  opK (bk cd.2 t) fun b => blk w cl x S Q rk b.1 (jm w cl x S Q rk cd J n) b.2 ls st h
def cS (l : Launch) (cl : List vw_C) (w : List aE) (tk : List Nat) (d : Nat) : aS := fun y as h K => ∃ d', d' < d ∧ Sat l cl w tk d' y as h K
theorem bk_in : ∀ {l : List (Nat × aB)} {t : Nat} {b : aB}, bk l t = some b → (t, b) ∈ l := by
  intro l
  induction l with
  | nil => intro t b h; cases h
  | cons a l ih =>
    intro t b h
    obtain ⟨j, a⟩ := a
    unfold bk at h
    by_cases e : j = t
    · rw [if_pos e] at h
      cases h
      rw [e]
      exact List.mem_cons_self
    · rw [if_neg e] at h
      exact List.mem_cons_of_mem _ (ih h)
def ents : List Value → List Value
  | [] => []
  | v :: vs => if v.category = 2 then v :: .null :: ents vs else v :: ents vs
theorem ents_len (ad : Nat → Nat) : ∀ vs : List Value, (lg_sl (vs.map (cv ad))).length = (ents vs).length := by
  intro vs
  induction vs with
  | nil => rfl
  | cons v vs ih =>
    have e : lg_sl ((v :: vs).map (cv ad)) = (if (cv ad v).category = 2 then [.val (cv ad v), .second] else [.val (cv ad v)]) ++ lg_sl (vs.map (cv ad)) := by simp [lg_sl]
    rw [e, List.length_append, ih, cv_cat, ents]
    by_cases h : v.category = 2
    · rw [if_pos h, if_pos h]; simp; omega
    · rw [if_neg h, if_neg h]; simp; omega
theorem prs_app (ad : Nat → Nat) : ∀ (a b : List Value) (i : Nat), prs ad i (a ++ b) = prs ad i a ++ prs ad (i + a.length) b := by
  intro a
  induction a with
  | nil => intro b i; rfl
  | cons v a ih =>
    intro b i
    have e : i + (v :: a).length = i + 1 + a.length := by simp; omega
    rw [List.cons_append, prs, prs, ih, e]
    by_cases h : v = .null
    · rw [if_pos h, if_pos h]
    · rw [if_neg h, if_neg h]; rfl
theorem prs_null (ad : Nat → Nat) : ∀ (n i : Nat), prs ad i (List.replicate n .null) = [] := by
  intro n
  induction n with
  | zero => intro i; rfl
  | succ n ih => intro i; rw [List.replicate_succ, prs, if_pos rfl, ih]
theorem prs_ents (ad : Nat → Nat) : ∀ (vs : List Value) (i : Nat), ∀ q ∈ prs ad i (ents vs), q ∈ lv_args i (vs.map (cv ad)) := by
  intro vs
  induction vs with
  | nil => intro i q hq; cases hq
  | cons v vs ih =>
    intro i q hq
    rw [List.map_cons, lv_args, cv_cat]
    rw [ents] at hq
    by_cases h : v.category = 2
    · rw [if_pos h] at hq ⊢
      rw [prs, prs, if_pos rfl] at hq
      by_cases hv : v = .null
      · subst hv; cases h
      · rw [if_neg hv] at hq
        rcases List.mem_cons.mp hq with rfl | hq
        · exact List.mem_cons_self
        · exact List.mem_cons_of_mem _ (ih (i + 2) q hq)
    · rw [if_neg h] at hq ⊢
      rw [prs] at hq
      by_cases hv : v = .null
      · rw [if_pos hv] at hq
        exact List.mem_cons_of_mem _ (ih (i + 1) q hq)
      · rw [if_neg hv] at hq
        rcases List.mem_cons.mp hq with rfl | hq
        · exact List.mem_cons_self
        · exact List.mem_cons_of_mem _ (ih (i + 1) q hq)
section AMU
variable {p : Program} {l : Launch} {e : Env} {R : Room} {s : State} {m : MethodId} {args : Array Value} {below : List Frame} {meth : Method} {c : Code} {D : va_G} {cl : List vw_C} {tk : List Nat} {dA : Nat → ClassId} {w : List aE} {ad : Nat → Nat} {nL d rk : Nat} {Qp : Option Value → aH → Prop} {own : String} {cc : ByteArray} {x : aX}
theorem blk_ok {jp : Nat → List Value → List Value → aH → Prop} {ee : Nat} (C0 : aCx p s m args meth c R cc nL own d rk D cl tk dA w ad) (hW : aWo cl tk w) (hL : aLk cl own x) (hd0 : 0 < d) (hjp : ∀ t ls st h, jp t ls st h → aJ p l e R s m args below meth c D cl dA w ad nL (MQ below (aQc D cl w ad dA Qp) args s 0 0 (aA w ad)) t ls st h) : ∀ (is : List (Nat × Instr × Nat)) (pc : Nat) (ls st : List Value) (h : aH), okB cc ee pc is = true → blk w cl x (cS l cl w tk d) Qp rk ee jp is ls st h → aJ p l e R s m args below meth c D cl dA w ad nL (MQ below (aQc D cl w ad dA Qp) args s 0 0 (aA w ad)) pc ls st h := by
  intro is
  induction is with
  | nil =>
    intro pc ls st h hok hb
    have e1 : pc = ee := by simpa [okB] using hok
    subst e1
    exact hjp _ _ _ _ hb
  | cons a is ih =>
    intro pc ls st h hok hb
    obtain ⟨q, i, t⟩ := a
    rw [okB, Bool.and_eq_true, Bool.and_eq_true, Bool.and_eq_true] at hok
    obtain ⟨⟨⟨h1, h2⟩, h3⟩, h4⟩ := hok
    have e1 : q = pc := by simpa using h1
    subst e1
    split at h2
    · rename_i j len hd
      rw [Bool.and_eq_true] at h2
      have e2 : j = i := of_decide_eq_true h2.1
      subst e2
      refine stp_ok C0 hW hL hd0 (fun y as h K hk => hk) hd (fun hs => ?_) h3 (fun ls st h hk => ih _ ls st h h4 hk) hjp hb
      have h5 := h2.2
      rw [hs, Bool.false_or] at h5
      simpa using h5
    · cases h2
theorem jm_ok {cd : aCd} {J : Nat → List Value → List Value → aH → Prop} (C0 : aCx p s m args meth c R cc nL own d rk D cl tk dA w ad) (hW : aWo cl tk w) (hL : aLk cl own x) (hd0 : 0 < d) (hok : okC cc cd = true) (hJ : ∀ t ls st h, J t ls st h → aJ p l e R s m args below meth c D cl dA w ad nL (MQ below (aQc D cl w ad dA Qp) args s 0 0 (aA w ad)) t ls st h) : ∀ (n t : Nat) (ls st : List Value) (h : aH), jm w cl x (cS l cl w tk d) Qp rk cd J n t ls st h → aJ p l e R s m args below meth c D cl dA w ad nL (MQ below (aQc D cl w ad dA Qp) args s 0 0 (aA w ad)) t ls st h := by
  intro n
  induction n with
  | zero => intro t ls st h hj; exact hJ _ _ _ _ hj
  | succ n ih =>
    intro t ls st h hj
    rw [jm] at hj
    by_cases ht : t ∈ cd.1
    · rw [if_pos ht] at hj
      exact hJ _ _ _ _ hj
    · rw [if_neg ht] at hj
      obtain ⟨b, hb, hk⟩ := opK_sp hj
      exact blk_ok C0 hW hL hd0 ih b.2 t ls st h (List.all_eq_true.mp hok _ (bk_in hb)) hk
theorem go_ok {cd : aCd} {J : Nat → List Value → List Value → aH → Prop} (C0 : aCx p s m args meth c R cc nL own d rk D cl tk dA w ad) (hW : aWo cl tk w) (hL : aLk cl own x) (hd0 : 0 < d) (hok : okC cc cd = true) (hJ : ∀ t ls st h, J t ls st h → aJ p l e R s m args below meth c D cl dA w ad nL (MQ below (aQc D cl w ad dA Qp) args s 0 0 (aA w ad)) t ls st h) (n t : Nat) (ls st : List Value) (h : aH) (hj : go w cl x (cS l cl w tk d) Qp rk cd J n t ls st h) : aJ p l e R s m args below meth c D cl dA w ad nL (MQ below (aQc D cl w ad dA Qp) args s 0 0 (aA w ad)) t ls st h := by
  obtain ⟨b, hb, hk⟩ := opK_sp hj
  exact blk_ok C0 hW hL hd0 (jm_ok C0 hW hL hd0 hok hJ n) b.2 t ls st h (List.all_eq_true.mp hok _ (bk_in hb)) hk
end AMU
/-- a method's contract: out of its body's blocks, at any predicate J that the blocks close -/
theorem Sat.of {l : Launch} {cl : List vw_C} {w : List aE} {tk : List Nat} {d rk : Nat} {y : MethodName} {as : List Value} {h0 : aH} {Qp : Option Value → aH → Prop} {cc : ByteArray} {maxL : Nat} {x : aX} {cd : aCd} (n : Nat)
    (hc : Cond.code y cc maxL (rty rk) ∈ aT) (hm : maxL ≤ 21) (hy : plainName y.cls = true) (hW : aWo cl tk w) (hL : aLk cl y.cls x) (hok : okC cc cd = true) (hd0 : 0 < d) (hln : (ents as).length ≤ maxL)
    (body : ∀ J : Nat → List Value → List Value → aH → Prop, (∀ t ls st h, go w cl x (cS l cl w tk d) Qp rk cd J n t ls st h → J t ls st h) → J 0 (ents as ++ List.replicate (maxL - (ents as).length) .null) [] h0) : Sat l cl w tk d y as h0 Qp := by
  refine ⟨cc, maxL, rty rk, hc, hm, fun D ad dA => ?_⟩
  refine Met.ofW (cc := cc) (maxL := maxL) (ret := rty rk) hy rfl ?_
  intro p e s m args below meth c s₁ B hml hv
  obtain ⟨rfl, hP, hK, hN⟩ := hv
  have hts : ∀ q ∈ (Cond.code y cc maxL (rty rk) :: aT), q.before ((as.map (cv ad)).toArray) s = true := atoms_spec (ws := Cond.code y cc maxL (rty rk) :: aT) B.pre
  have hown : s.vm.findClass y.cls = some m.cls := findClass_of_methodNamed B.named
  have C0 : aCx p s m (as.map (cv ad)).toArray meth c (headSpec (Cond.code y cc maxL (rty rk) :: aT) (rmD d)).room cc maxL y.cls d rk D cl tk dA w ad :=
    ⟨B.exec, B.bytes, hml, hown, fun q hq => hts q (List.mem_cons_of_mem _ hq), rfl, B.notSynchronized, B.returns, hK, hN⟩
  have hS : va_S (aA w ad) s.heap s.heap [] := va_S.rf
  have hl := lv_entry (as.map (cv ad)) (n := maxL) (by rw [ents_len]; exact hln)
  rw [lg_entry_eq]
  have key := body (aJ p l e (headSpec (Cond.code y cc maxL (rty rk) :: aT) (rmD d)).room s m (as.map (cv ad)).toArray below meth c D cl dA w ad maxL (MQ below (aQc D cl w ad dA Qp) (as.map (cv ad)).toArray s 0 0 (aA w ad)))
    (fun t ls st h hg => go_ok C0 hW hL hd0 hok (fun t ls st h hj => hj) n t ls st h hg)
  refine key s.heap [] _ (has_mono hl ?_) ?_ hP hS
  · intro q hq
    rw [prs_app, prs_null, List.append_nil] at hq
    exact prs_ents ad as 0 q hq
  · rw [List.length_append, List.length_replicate]; omega
theorem Sat.mono {l : Launch} {cl : List vw_C} {w : List aE} {tk : List Nat} {d : Nat} {y : MethodName} {as : List Value} {h0 : aH} {Q1 Q2 : Option Value → aH → Prop} (hs : Sat l cl w tk d y as h0 Q1) (hq : ∀ v h, Q1 v h → Q2 v h) : Sat l cl w tk d y as h0 Q2 := by
  obtain ⟨cc, maxL, ret, h1, h2, h3⟩ := hs
  refine ⟨cc, maxL, ret, h1, h2, fun D ad dA => ?_⟩
  intro p e ha hc hk st m args below hf hS hP hK
  obtain ⟨n, o, g1, g2, g3, g4, g5⟩ := h3 D ad dA p e ha hc hk st m args below hf hS hP hK
  refine ⟨n, o, g1, g2, g3, ⟨?_, g4.2⟩, g5⟩
  obtain ⟨v, h', q1, q2, q3⟩ := g4.1
  exact ⟨v, h', q1, hq v h' q2, q3⟩
/-- an answer that is known, a heap that is known -/
def rI (r : Int32) (h0 : aH) : Option Value → aH → Prop := fun v h => v = some (.int r) ∧ h = h0
def rJ (r : Int64) (h0 : aH) : Option Value → aH → Prop := fun v h => v = some (.long r) ∧ h = h0
def rV (h0 : aH) : Option Value → aH → Prop := fun v h => v = none ∧ h = h0
theorem cS_use {l : Launch} {cl : List vw_C} {w : List aE} {tk : List Nat} {d : Nat} {y : MethodName} {as : List Value} {h0 : aH} {Q1 K : Option Value → aH → Prop} (d' : Nat) (hd : d' < d) (hs : Sat l cl w tk d' y as h0 Q1) (hk : ∀ v h, Q1 v h → K v h) : cS l cl w tk d y as h0 K := ⟨d', hd, hs.mono hk⟩
theorem cS_I {l : Launch} {cl : List vw_C} {w : List aE} {tk : List Nat} {d : Nat} {y : MethodName} {as : List Value} {h0 h1 : aH} {r : Int32} {K : Option Value → aH → Prop} (d' : Nat) (hd : d' < d) (hs : Sat l cl w tk d' y as h0 (rI r h1)) (hk : K (some (.int r)) h1) : cS l cl w tk d y as h0 K := cS_use d' hd hs (fun v h q => by obtain ⟨rfl, rfl⟩ := q; exact hk)
theorem cS_J {l : Launch} {cl : List vw_C} {w : List aE} {tk : List Nat} {d : Nat} {y : MethodName} {as : List Value} {h0 h1 : aH} {r : Int64} {K : Option Value → aH → Prop} (d' : Nat) (hd : d' < d) (hs : Sat l cl w tk d' y as h0 (rJ r h1)) (hk : K (some (.long r)) h1) : cS l cl w tk d y as h0 K := cS_use d' hd hs (fun v h q => by obtain ⟨rfl, rfl⟩ := q; exact hk)
theorem cS_V {l : Launch} {cl : List vw_C} {w : List aE} {tk : List Nat} {d : Nat} {y : MethodName} {as : List Value} {h0 h1 : aH} {K : Option Value → aH → Prop} (d' : Nat) (hd : d' < d) (hs : Sat l cl w tk d' y as h0 (rV h1)) (hk : K none h1) : cS l cl w tk d y as h0 K := cS_use d' hd hs (fun v h q => by obtain ⟨rfl, rfl⟩ := q; exact hk)
