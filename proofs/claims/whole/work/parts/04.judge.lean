def rty : Nat → Option FieldType
  | 0 => some .int
  | 1 => some .boolean
  | 2 => some .long
  | _ => none
/-- what holds all through a method's body -/
def aCx (p : Program) (s : State) (m : MethodId) (args : Array Value) (meth : Method) (c : Code) (R : Room) (cc : ByteArray) (nL : Nat) (own : String) (d rk : Nat) (D : va_G) (cl : List vw_C) (tk : List Nat) (dA : Nat → ClassId) (w : List aE) (ad : Nat → Nat) : Prop :=
  p.tables.exec = Jvm.exec ∧ c.code = cc ∧ c.maxLocals = nL ∧ s.vm.findClass own = some m.cls ∧ (∀ q ∈ aT, q.before args s = true) ∧ R = rmD d ∧ meth.locks = false ∧ meth.sig.returnType = rty rk ∧ aK tk D cl dA s ∧ aN w ad
/-- at pc, with these locals, this stack and this heap of places, the machine comes to QQ -/
def aJ (p : Program) (l : Launch) (e : Env) (R : Room) (s : State) (m : MethodId) (args : Array Value) (below : List Frame) (meth : Method) (c : Code) (D : va_G) (cl : List vw_C) (dA : Nat → ClassId) (w : List aE) (ad : Nat → Nat) (nL : Nat) (QQ : State → Prop) (pc : Nat) (ls st : List Value) (h : aH) : Prop :=
  ∀ (H : Heap) (locs : List Loc) (la : Array Slot), lv_has la nL (prs ad 0 ls) → ls.length = nL → va_P D cl (aW w ad dA h) H → va_S (aA w ad) s.heap H locs → W p l e R s m args below meth c H locs 0 0 QQ (F0 m pc la (st.map (cv ad)))
/-- the worlds that are used: their arrays' kinds are known, their classes' fields stand in the tables -/
def aWo (cl : List vw_C) (tk : List Nat) (w : List aE) : Prop :=
  (∀ (p k n b : Nat), shp w p = .inr (k, n, b) → p < w.length → k ∈ tk) ∧
  (∀ (p k n b : Nat), shp w p = .inr (k, n, b) → k = 3 → b + n ≤ w.length ∧ n < 2 ^ 31) ∧
  (∀ (ci : Nat) (q : vw_C), cl[ci]? = some q → (∀ x ∈ u_ws q.1 q.2.1 q.2.2, x ∈ aT) ∧ (∃ ty0 : Nat → FieldType, ∀ k, k < q.2.2 → parseFieldDescriptor (q.2.1 k).2.2.1 = some (ty0 k)) ∧ (∀ a, a < q.2.2 → ∀ b, b < q.2.2 → a ≠ b → (q.2.1 a).2.1 ≠ (q.2.1 b).2.1) ∧ ∀ k, k < q.2.2 → (q.2.1 k).1 = q.1) ∧
  (∀ (p c : Nat) (rs : List (Option Nat)), shp w p = .inl (c, rs) → ∃ q, cl[c]? = some q ∧ rs.length = q.2.2)
/-- a class's links stand in the tables -/
def aLk (cl : List vw_C) (own : String) (x : aX) : Prop :=
  (∀ (i ci k : Nat) (b : Bool) (q : vw_C), lk x.1 i = some (ci, k, b) → cl[ci]? = some q → Cond.fieldLink own i q.1 (q.2.1 k).2.1 (q.2.1 k).2.2.1 ∈ aT ∧ (b = true → (q.2.1 k).2.2.2 = false ∧ parseFieldDescriptor (q.2.1 k).2.2.1 = some .int)) ∧
  (∀ (i : Nat) (y : MethodName) (n kd : Nat), lk x.2.1 i = some (y, n, kd) → Cond.methodLink own i y ∈ aT ∧ Cond.initialized y.cls ∈ aT ∧ (y.cls ≠ "java/lang/invoke/MethodHandle" ∧ y.cls ≠ "java/lang/invoke/VarHandle" ∧ (parseMethodDescriptor y.desc).map (fun d => d.parameters.length) = some n) ∧
    (kd = 0 → Cond.instanceMethod y ∈ aT ∧ Cond.selects y.cls y y ∈ aT) ∧ (kd = 1 → Cond.static y ∈ aT) ∧ (kd = 2 → y = arraycopyName ∧ Cond.native y ∈ aT ∧ Cond.static y ∈ aT) ∧ (kd = 3 → y = Lib.Math.max.name ∧ Cond.static y ∈ aT ∧ Cond.code y Lib.Math.max.code 2 (some .int) ∈ aT) ∧ (kd = 4 → y = Lib.Math.min.name ∧ Cond.static y ∈ aT ∧ Cond.code y Lib.Math.min.code 2 (some .int) ∈ aT)) ∧
  (∀ (i : Nat) (v : Int32), lk x.2.2.1 i = some v → Cond.constant own i v ∈ aT) ∧
  (∀ (i : Nat) (v : Int64), lk x.2.2.2 i = some v → Cond.constantLong own i v ∈ aT)
section AMJ
variable {p : Program} {l : Launch} {e : Env} {R : Room} {s : State} {m : MethodId} {args : Array Value} {below : List Frame} {meth : Method} {c : Code} {D : va_G} {cl : List vw_C} {tk : List Nat} {dA : Nat → ClassId} {w : List aE} {ad : Nat → Nat} {nL d rk : Nat} {QQ : State → Prop} {own : String} {cc : ByteArray} {pc : Nat} {ls st rest : List Value} {h : aH}
theorem aK_ty {k : Nat} (hK : aK tk D cl dA s) (hk : k ∈ tk) : ∃ t0 : Nat, (tk.map (fun k => (dA k, kty k)))[t0]? = some (dA k, kty k) := by
  obtain ⟨t0, ht⟩ := List.getElem?_of_mem hk
  exact ⟨t0, by rw [List.getElem?_map, ht]; rfl⟩
theorem aW_k {kd a : Nat} {i : Int32} (hW : aWo cl tk w) (h0 : kd ≠ 9) (hin : vp_in i (lenK w kd a)) : ∃ b, shp w a = .inr (kd, lenK w kd a, b) ∧ a < w.length ∧ kd ∈ tk := by
  obtain ⟨b, h1, h2⟩ := lenK_sp (vp_pos hin) h0
  exact ⟨b, h1, h2, hW.1 a kd _ b h1 h2⟩
theorem j_iald {a : Nat} {i : Int32} (C0 : aCx p s m args meth c R cc nL own d rk D cl tk dA w ad) (hW : aWo cl tk w) (hd : decode cc pc = .ok (.iaload, 1)) (hin : vp_in i (lenK w 0 a)) (k : aJ p l e R s m args below meth c D cl dA w ad nL QQ (pc + 1) ls (.int (aI h a i.toNatClampNeg) :: rest) h) : aJ p l e R s m args below meth c D cl dA w ad nL QQ pc ls (.int i :: .ref a :: rest) h := by
  obtain ⟨hx, hb, hml, hown, hts, hR, hlk, hrt, hK, hN⟩ := C0
  obtain ⟨b, h1, h2, h3⟩ := aW_k hW (by omega) hin
  obtain ⟨t0, ht⟩ := aK_ty hK h3
  intro H locs la hl hn hP hS
  exact va_iald hx hb hK hP a t0 (by rw [aW_get h2, h1]; rfl) ht hin hd (k H locs la hl hn hP hS)
theorem j_bald {a : Nat} {i : Int32} (C0 : aCx p s m args meth c R cc nL own d rk D cl tk dA w ad) (hW : aWo cl tk w) (hd : decode cc pc = .ok (.baload, 1)) (hin : vp_in i (lenK w 2 a)) (k : aJ p l e R s m args below meth c D cl dA w ad nL QQ (pc + 1) ls (.int (aI h a i.toNatClampNeg) :: rest) h) : aJ p l e R s m args below meth c D cl dA w ad nL QQ pc ls (.int i :: .ref a :: rest) h := by
  obtain ⟨hx, hb, hml, hown, hts, hR, hlk, hrt, hK, hN⟩ := C0
  obtain ⟨b, h1, h2, h3⟩ := aW_k hW (by omega) hin
  obtain ⟨t0, ht⟩ := aK_ty hK h3
  intro H locs la hl hn hP hS
  exact va_zald hx hb hK hP a t0 (by rw [aW_get h2, h1]; rfl) ht hin hd (k H locs la hl hn hP hS)
theorem j_lald {a : Nat} {i : Int32} (C0 : aCx p s m args meth c R cc nL own d rk D cl tk dA w ad) (hW : aWo cl tk w) (hd : decode cc pc = .ok (.laload, 1)) (hin : vp_in i (lenK w 1 a)) (k : aJ p l e R s m args below meth c D cl dA w ad nL QQ (pc + 1) ls (.long (aL h a i.toNatClampNeg) :: rest) h) : aJ p l e R s m args below meth c D cl dA w ad nL QQ pc ls (.int i :: .ref a :: rest) h := by
  obtain ⟨hx, hb, hml, hown, hts, hR, hlk, hrt, hK, hN⟩ := C0
  obtain ⟨b, h1, h2, h3⟩ := aW_k hW (by omega) hin
  obtain ⟨t0, ht⟩ := aK_ty hK h3
  intro H locs la hl hn hP hS
  exact va_lald hx hb hK hP a t0 (by rw [aW_get h2, h1]; rfl) ht hin hd (k H locs la hl hn hP hS)
theorem j_aald {a : Nat} {i : Int32} (C0 : aCx p s m args meth c R cc nL own d rk D cl tk dA w ad) (hW : aWo cl tk w) (hd : decode cc pc = .ok (.aaload, 1)) (hin : vp_in i (lenK w 3 a)) (k : aJ p l e R s m args below meth c D cl dA w ad nL QQ (pc + 1) ls (.ref (basK w a + i.toNatClampNeg) :: rest) h) : aJ p l e R s m args below meth c D cl dA w ad nL QQ pc ls (.int i :: .ref a :: rest) h := by
  obtain ⟨hx, hb, hml, hown, hts, hR, hlk, hrt, hK, hN⟩ := C0
  obtain ⟨b, h1, h2, h3⟩ := aW_k hW (by omega) hin
  obtain ⟨t0, ht⟩ := aK_ty hK h3
  have hlt := vp_lt hin
  have hbas : basK w a = b := by unfold basK; rw [h1]
  intro H locs la hl hn hP hS
  have e0 : H[ad a]? = some (vp_cell (dA 3) (lenK w 3 a, .inr (.inr (.inr (.inr (fun j => if j < lenK w 3 a then some (ad (b + j)) else none)))))) := hP a (ad a, .inl (dA 3, lenK w 3 a, .inr (.inr (.inr (.inr (fun j => if j < lenK w 3 a then some (ad (b + j)) else none)))))) (by rw [aW_get h2, h1]; rfl)
  refine W.aald (v := .ref (ad (b + i.toNatClampNeg))) (ty := .array .int) hx hb e0 ((hK.2 t0 _ ht).1 (lenK w 3 a) (fun j => va_rf (if j < lenK w 3 a then some (ad (b + j)) else none))) rfl (fun q => by cases q) (by show ¬ (i < 0 ∨ (arrV _ _ _).slots.size ≤ _); rw [arrV_size]; exact hin) (by show (arrV _ _ _).slots[_]? = _; rw [arrV_read _ _ hlt]; dsimp only; rw [if_pos hlt]; rfl) rfl rfl hd ?_
  have := k H locs la hl hn hP hS
  rw [hbas] at this
  exact this
theorem cE_sA {a q : Nat} {g : Nat → Int32} (hq : q ≠ a) (x : aE) : cE ad dA h q x = cE ad dA (sA h a g) q x := by
  cases x with
  | inl x => rfl
  | inr x => simp only [cE, aI, aL, sA, if_neg hq]
theorem cE_sL {a q : Nat} {g : Nat → Int64} (hq : q ≠ a) (x : aE) : cE ad dA h q x = cE ad dA (sL h a g) q x := by
  cases x with
  | inl x => rfl
  | inr x => simp only [cE, aI, aL, sL, if_neg hq]
theorem cE_sF {a q k : Nat} {v : Int32} (hq : q ≠ a) (x : aE) : cE ad dA h q x = cE ad dA (sF h a k v) q x := by
  cases x with
  | inl x => simp only [cE, fI, sF, if_neg hq]
  | inr x => rfl
theorem j_iast {a : Nat} {i v : Int32} (C0 : aCx p s m args meth c R cc nL own d rk D cl tk dA w ad) (hW : aWo cl tk w) (hd : decode cc pc = .ok (.iastore, 1)) (hin : vp_in i (lenK w 0 a)) (k : aJ p l e R s m args below meth c D cl dA w ad nL QQ (pc + 1) ls rest (sA h a (upd (aI h a) i.toNatClampNeg v))) : aJ p l e R s m args below meth c D cl dA w ad nL QQ pc ls (.int v :: .int i :: .ref a :: rest) h := by
  obtain ⟨hx, hb, hml, hown, hts, hR, hlk, hrt, hK, hN⟩ := C0
  obtain ⟨b, h1, h2, h3⟩ := aW_k hW (by omega) hin
  obtain ⟨t0, ht⟩ := aK_ty hK h3
  intro H locs la hl hn hP hS
  refine va_iast hx hb hK hP (aW_D hN) hS a t0 (by rw [aW_get h2, h1]; rfl) ht hin hd (fun H1 locs1 hP1 _ hS1 => ?_)
  rw [aW_set (h' := sA h a (upd (aI h a) i.toNatClampNeg v)) (fun q hq => cE_sA hq _) (by rw [h1]; simp [cE, aI, sA])] at hP1
  exact k H1 locs1 la hl hn hP1 hS1
theorem j_bast {a : Nat} {i v : Int32} (C0 : aCx p s m args meth c R cc nL own d rk D cl tk dA w ad) (hW : aWo cl tk w) (hd : decode cc pc = .ok (.bastore, 1)) (hin : vp_in i (lenK w 2 a)) (hv : v = 0 ∨ v = 1) (k : aJ p l e R s m args below meth c D cl dA w ad nL QQ (pc + 1) ls rest (sA h a (upd (aI h a) i.toNatClampNeg v))) : aJ p l e R s m args below meth c D cl dA w ad nL QQ pc ls (.int v :: .int i :: .ref a :: rest) h := by
  obtain ⟨hx, hb, hml, hown, hts, hR, hlk, hrt, hK, hN⟩ := C0
  obtain ⟨b, h1, h2, h3⟩ := aW_k hW (by omega) hin
  obtain ⟨t0, ht⟩ := aK_ty hK h3
  have hnar : vp_nar .boolean v = v := by rcases hv with rfl | rfl <;> decide
  intro H locs la hl hn hP hS
  refine va_zast hx hb hK hP (aW_D hN) hS a t0 (by rw [aW_get h2, h1]; rfl) ht hin hd (fun H1 locs1 hP1 _ hS1 => ?_)
  rw [hnar] at hP1
  rw [aW_set (h' := sA h a (upd (aI h a) i.toNatClampNeg v)) (fun q hq => cE_sA hq _) (by rw [h1]; simp [cE, aI, sA])] at hP1
  exact k H1 locs1 la hl hn hP1 hS1
theorem j_last {a : Nat} {i : Int32} {v : Int64} (C0 : aCx p s m args meth c R cc nL own d rk D cl tk dA w ad) (hW : aWo cl tk w) (hd : decode cc pc = .ok (.lastore, 1)) (hin : vp_in i (lenK w 1 a)) (k : aJ p l e R s m args below meth c D cl dA w ad nL QQ (pc + 1) ls rest (sL h a (vp_updL (aL h a) i.toNatClampNeg v))) : aJ p l e R s m args below meth c D cl dA w ad nL QQ pc ls (.long v :: .int i :: .ref a :: rest) h := by
  obtain ⟨hx, hb, hml, hown, hts, hR, hlk, hrt, hK, hN⟩ := C0
  obtain ⟨b, h1, h2, h3⟩ := aW_k hW (by omega) hin
  obtain ⟨t0, ht⟩ := aK_ty hK h3
  intro H locs la hl hn hP hS
  refine va_last hx hb hK hP (aW_D hN) hS a t0 (by rw [aW_get h2, h1]; rfl) ht hin hd (fun H1 locs1 hP1 _ hS1 => ?_)
  rw [aW_set (h' := sL h a (vp_updL (aL h a) i.toNatClampNeg v)) (fun q hq => cE_sL hq _) (by rw [h1]; simp [cE, aL, sL])] at hP1
  exact k H1 locs1 la hl hn hP1 hS1
theorem j_alen {a n : Nat} (C0 : aCx p s m args meth c R cc nL own d rk D cl tk dA w ad) (hW : aWo cl tk w) (hd : decode cc pc = .ok (.arraylength, 1)) (hs : alen w a = some n) (k : aJ p l e R s m args below meth c D cl dA w ad nL QQ (pc + 1) ls (.int (nI n) :: rest) h) : aJ p l e R s m args below meth c D cl dA w ad nL QQ pc ls (.ref a :: rest) h := by
  obtain ⟨hx, hb, hml, hown, hts, hR, hlk, hrt, hK, hN⟩ := C0
  unfold alen at hs
  split at hs
  · rename_i k0 n0 b0 hsh
    by_cases h4 : k0 < 4
    · rw [if_pos h4] at hs
      cases hs
      have h2 : a < w.length := shp_lt (by rw [hsh]; intro z; injection z with z; injection z with z1 z2; omega)
      intro H locs la hl hn hP hS
      obtain ⟨t0, ht⟩ := aK_ty hK (hW.1 a k0 n b0 hsh h2)
      by_cases e3 : k0 = 3
      · subst e3
        exact va_alen (x := (n, .inr (.inr (.inr (.inr (fun i => if i < n then some (ad (b0 + i)) else none)))))) hx hb hK hP a t0 (by rw [aW_get h2, hsh]; rfl) ht rfl hd (k H locs la hl hn hP hS)
      · by_cases e1 : k0 = 1
        · subst e1
          exact va_alen (x := (n, .inr (.inl (aL h a)))) hx hb hK hP a t0 (by rw [aW_get h2, hsh]; rfl) ht rfl hd (k H locs la hl hn hP hS)
        · exact va_alen (x := (n, .inl (aI h a))) hx hb hK hP a t0 (by rw [aW_get h2, hsh]; simp only [cE, if_neg e3, if_neg e1]) ht rfl hd (k H locs la hl hn hP hS)
    · rw [if_neg h4] at hs; cases hs
  · cases hs
theorem j_get {a j : Nat} {v : Value} {x : aX} (C0 : aCx p s m args meth c R cc nL own d rk D cl tk dA w ad) (hW : aWo cl tk w) (hL : aLk cl own x) (hd : decode cc pc = .ok (.getfield j, 3)) (hv : fval w h a (lk x.1 j) = some v) (k : aJ p l e R s m args below meth c D cl dA w ad nL QQ (pc + 3) ls (v :: rest) h) : aJ p l e R s m args below meth c D cl dA w ad nL QQ pc ls (.ref a :: rest) h := by
  obtain ⟨hx, hb, hml, hown, hts, hR, hlk, hrt, hK, hN⟩ := C0
  obtain ⟨ci, kk, b, rs, h1, h2, h3, h4, h5⟩ := fval_sp hv
  obtain ⟨q, hq, hlen⟩ := hW.2.2.2 a ci rs h2
  obtain ⟨C, T, N⟩ := q
  have hlen : rs.length = N := hlen
  obtain ⟨f1, f2⟩ := hL.1 j ci kk b _ h1 hq
  obtain ⟨g1, -, -, g4⟩ := hW.2.2.1 ci _ hq
  intro H locs la hl hn hP hS
  refine va_get (C := C) (T := T) (N := N) (ref := C) hx hb hts g1 hown hK hP a (by rw [aW_get h3, h2]; rfl) hq kk (by rw [← hlen]; exact h4) (hts _ f1) (by rw [g4 kk (by rw [← hlen]; exact h4)]; exact fun _ z => z) (v := cv ad v) ?_ hd (k H locs la hl hn hP hS)
  rw [List.getElem?_map, List.getElem?_range h4]
  show some _ = some _
  rw [← h5 ad]
  rfl
theorem j_put {a j kk : Nat} {v : Int32} {x : aX} (C0 : aCx p s m args meth c R cc nL own d rk D cl tk dA w ad) (hW : aWo cl tk w) (hL : aLk cl own x) (hd : decode cc pc = .ok (.putfield j, 3)) (hv : pfok w a (lk x.1 j) = some kk) (k : aJ p l e R s m args below meth c D cl dA w ad nL QQ (pc + 3) ls rest (sF h a kk v)) : aJ p l e R s m args below meth c D cl dA w ad nL QQ pc ls (.int v :: .ref a :: rest) h := by
  obtain ⟨hx, hb, hml, hown, hts, hR, hlk, hrt, hK, hN⟩ := C0
  obtain ⟨ci, rs, h1, h2, h3, h4⟩ := pfok_sp hv
  have h4l : kk < rs.length := (List.getElem?_eq_some_iff.mp h4).1
  obtain ⟨q, hq, hlen⟩ := hW.2.2.2 a ci rs h2
  obtain ⟨C, T, N⟩ := q
  have hlen : rs.length = N := hlen
  obtain ⟨f1, f2⟩ := hL.1 j ci kk true _ h1 hq
  obtain ⟨f3, f4⟩ := f2 rfl
  obtain ⟨g1, ⟨ty0, g2⟩, g3, g4⟩ := hW.2.2.1 ci _ hq
  intro H locs la hl hn hP hS
  refine va_put (C := C) (T := T) (N := N) (ref := C) (ty := .int) (v := .int v) hx hb hts g1 ty0 g2 g3 hown hK hP (aW_D hN) hS a (by rw [aW_get h3, h2]; rfl) hq kk (by rw [← hlen]; exact h4l) (hts _ f1) (by rw [g4 kk (by rw [← hlen]; exact h4l)]; exact fun _ z => z) f3 f4 rfl rfl (by rw [List.length_map, List.length_range]; exact h4l) hd (fun H1 locs1 hP1 _ hS1 => ?_)
  rw [aW_set (h' := sF h a kk v) (fun q hq => cE_sF hq _) ?_] at hP1
  · exact k H1 locs1 la hl hn hP1 hS1
  · rw [h2]
    show Sum.inr (ci, _) = Sum.inr (ci, _)
    congr 2
    apply List.ext_getElem?
    intro z
    rw [List.getElem?_set]
    by_cases hz : kk = z
    · subst hz
      rw [if_pos rfl, if_pos (by rw [List.length_map, List.length_range]; exact h4l), List.getElem?_map, List.getElem?_range h4l]
      simp [h4, fI, sF]
    · rw [if_neg hz, List.getElem?_map, List.getElem?_map]
      by_cases hzl : z < rs.length
      · rw [List.getElem?_range hzl]
        simp [fI, sF, show ¬ z = kk from fun q => hz q.symm]
      · rw [List.getElem?_eq_none (by rw [List.length_range]; omega)]
        rfl
end AMJ
