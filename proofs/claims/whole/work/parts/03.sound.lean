/-! THE ABSTRACT MACHINE IS SOUND over the Java machine -/
def kty : Nat → FieldType
  | 0 => .int
  | 1 => .long
  | 2 => .boolean
  | _ => .array .int
def cE (ad : Nat → Nat) (dA : Nat → ClassId) (h : aH) (p : Nat) : aE → va_E
  | .inl (ci, rs) => .inr (ci, (List.range rs.length).map (fun k => match rs[k]? with
    | some (some q) => .ref (ad q)
    | _ => .int (fI h p k)))
  | .inr (k, n, b) => if k = 3 then .inl (dA 3, n, .inr (.inr (.inr (.inr (fun i => if i < n then some (ad (b + i)) else none))))) else if k = 1 then .inl (dA 1, n, .inr (.inl (aL h p))) else .inl (dA k, n, .inl (aI h p))
def aW (w : List aE) (ad : Nat → Nat) (dA : Nat → ClassId) (h : aH) : va_W := (List.range w.length).map (fun p => (ad p, cE ad dA h p (shp w p)))
def aK (tk : List Nat) (D : va_G) (cl : List vw_C) (dA : Nat → ClassId) (U : State) : Prop := va_K D cl (tk.map (fun k => (dA k, kty k))) U
def aN (w : List aE) (ad : Nat → Nat) : Prop := ∀ i j : Nat, i < w.length → j < w.length → ad i = ad j → i = j
def aA (w : List aE) (ad : Nat → Nat) : Nat → Prop := fun q => ∃ i : Nat, i < w.length ∧ q = ad i
/-- the tables' words that stay true -/
def aT : List Cond := lw_tbl.filter goodWord
theorem aT_of {w : Cond} (i : Nat) (h : lw_tbl[i]? = some w) (hg : goodWord w = true) : w ∈ aT := List.mem_filter.mpr ⟨List.mem_of_getElem? h, hg⟩
def rmD (d : Nat) : Room := { frames := d, cells := 0, slots := 0, locals := 40 * d }
def aQc (D : va_G) (cl : List vw_C) (w : List aE) (ad : Nat → Nat) (dA : Nat → ClassId) (Qp : Option Value → aH → Prop) : Array Value → State → Outcome → State → Prop := fun _ st oc t =>
  (∃ (v : Option Value) (h' : aH), oc = .returned (v.map (cv ad)) ∧ Qp v h' ∧ va_P D cl (aW w ad dA h') t.heap) ∧ va_F (aA w ad) st t
def aPc (D : va_G) (cl : List vw_C) (w : List aE) (tk : List Nat) (ad : Nat → Nat) (dA : Nat → ClassId) (as : List Value) (h : aH) : Array Value → State → Prop :=
  va_Pc (as.map (cv ad)) (fun U => va_P D cl (aW w ad dA h) U.heap ∧ aK tk D cl dA U ∧ aN w ad)
/-- y, called with these arguments on this heap, returns, and what it answers and leaves is as Qp says; d frames of calls are enough -/
def Sat (l : Launch) (cl : List vw_C) (w : List aE) (tk : List Nat) (d : Nat) (y : MethodName) (as : List Value) (h : aH) (Qp : Option Value → aH → Prop) : Prop :=
  ∃ (cc : ByteArray) (maxL : Nat) (ret : Option FieldType), Cond.code y cc maxL ret ∈ aT ∧ maxL ≤ 21 ∧
    ∀ (D : va_G) (ad : Nat → Nat) (dA : Nat → ClassId), Met l y (Cond.code y cc maxL ret :: aT) (rmD d) (aPc D cl w tk ad dA as h) (aQc D cl w ad dA Qp) 0 0 (aA w ad)
theorem tbl_in {x : Cond} (h : x ∈ aT) : GoodIn aT (x :: aT) := fun w hw => by
  rcases List.mem_cons.mp hw with rfl | h1
  · exact ⟨h, good_of_word (List.mem_filter.mp h).2⟩
  · exact ⟨h1, good_of_word (List.mem_filter.mp h1).2⟩
def prs (ad : Nat → Nat) : Nat → List Value → List (Nat × Value)
  | _, [] => []
  | i, v :: ls => if v = .null then prs ad (i + 1) ls else (i, cv ad v) :: prs ad (i + 1) ls
theorem prs_mem {ad : Nat → Nat} : ∀ (ls : List Value) (i j : Nat) (u : Value), (j, u) ∈ prs ad i ls ↔ ∃ (k : Nat) (v : Value), ls[k]? = some v ∧ v ≠ .null ∧ j = i + k ∧ u = cv ad v := by
  intro ls
  induction ls with
  | nil => intro i j u; simp [prs]
  | cons a ls ih =>
    intro i j u
    constructor
    · intro h
      by_cases ha : a = .null
      · rw [prs, if_pos ha] at h
        obtain ⟨k, v, h1, h2, h3, h4⟩ := (ih _ _ _).mp h
        exact ⟨k + 1, v, by simpa using h1, h2, by omega, h4⟩
      · rw [prs, if_neg ha] at h
        rcases List.mem_cons.mp h with h | h
        · cases h
          exact ⟨0, a, rfl, ha, rfl, rfl⟩
        · obtain ⟨k, v, h1, h2, h3, h4⟩ := (ih _ _ _).mp h
          exact ⟨k + 1, v, by simpa using h1, h2, by omega, h4⟩
    · rintro ⟨k, v, h1, h2, h3, h4⟩
      cases k with
      | zero =>
        simp at h1
        subst h1
        rw [prs, if_neg h2]
        subst h4
        exact List.mem_cons.mpr (Or.inl (by rw [h3]; rfl))
      | succ k =>
        have := (ih (i + 1) j u).mpr ⟨k, v, by simpa using h1, h2, by omega, h4⟩
        by_cases ha : a = .null
        · rw [prs, if_pos ha]; exact this
        · rw [prs, if_neg ha]; exact List.mem_cons_of_mem _ this
theorem has_mono {la : Array Slot} {n : Nat} {l1 l2 : List (Nat × Value)} (h : lv_has la n l1) (hs : ∀ q ∈ l2, q ∈ l1) : lv_has la n l2 := ⟨h.1, h.2.1, fun q hq => h.2.2 q (hs q hq)⟩
theorem has_at {la : Array Slot} {n i : Nat} {ad : Nat → Nat} {ls : List Value} {v : Value} (h : lv_has la n (prs ad 0 ls)) (hv : ls[i]? = some v) (hn : v ≠ .null) : la[i]? = some (.val (cv ad v)) :=
  h.2.2 (i, cv ad v) ((prs_mem ls 0 i _).mpr ⟨i, v, hv, hn, by omega, rfl⟩)
theorem ldI_sp {ls : List Value} {i : Nat} {k : Int32 → Prop} (h : ldI ls i k) : ∃ x, ls[i]? = some (.int x) ∧ k x := by
  unfold ldI at h
  split at h
  · exact ⟨_, by assumption, h⟩
  · exact h.elim
theorem ldJ_sp {ls : List Value} {i : Nat} {k : Int64 → Prop} (h : ldJ ls i k) : ∃ x, ls[i]? = some (.long x) ∧ k x := by
  unfold ldJ at h
  split at h
  · exact ⟨_, by assumption, h⟩
  · exact h.elim
theorem ldR_sp {ls : List Value} {i : Nat} {k : Nat → Prop} (h : ldR ls i k) : ∃ x, ls[i]? = some (.ref x) ∧ k x := by
  unfold ldR at h
  split at h
  · exact ⟨_, by assumption, h⟩
  · exact h.elim
theorem o_i_sp {st : List Value} {k : Int32 → List Value → Prop} (h : o_i st k) : ∃ x r, st = .int x :: r ∧ k x r := by
  unfold o_i at h; split at h
  · exact ⟨_, _, rfl, h⟩
  · exact h.elim
theorem o_ii_sp {st : List Value} {k : Int32 → Int32 → List Value → Prop} (h : o_ii st k) : ∃ x y r, st = .int y :: .int x :: r ∧ k x y r := by
  unfold o_ii at h; split at h
  · exact ⟨_, _, _, rfl, h⟩
  · exact h.elim
theorem o_l_sp {st : List Value} {k : Int64 → List Value → Prop} (h : o_l st k) : ∃ x r, st = .long x :: r ∧ k x r := by
  unfold o_l at h; split at h
  · exact ⟨_, _, rfl, h⟩
  · exact h.elim
theorem o_ll_sp {st : List Value} {k : Int64 → Int64 → List Value → Prop} (h : o_ll st k) : ∃ x y r, st = .long y :: .long x :: r ∧ k x y r := by
  unfold o_ll at h; split at h
  · exact ⟨_, _, _, rfl, h⟩
  · exact h.elim
theorem o_r_sp {st : List Value} {k : Nat → List Value → Prop} (h : o_r st k) : ∃ a r, st = .ref a :: r ∧ k a r := by
  unfold o_r at h; split at h
  · exact ⟨_, _, rfl, h⟩
  · exact h.elim
theorem o_ri_sp {st : List Value} {k : Nat → Int32 → List Value → Prop} (h : o_ri st k) : ∃ a i r, st = .int i :: .ref a :: r ∧ k a i r := by
  unfold o_ri at h; split at h
  · exact ⟨_, _, _, rfl, h⟩
  · exact h.elim
theorem o_rii_sp {st : List Value} {k : Nat → Int32 → Int32 → List Value → Prop} (h : o_rii st k) : ∃ a i v r, st = .int v :: .int i :: .ref a :: r ∧ k a i v r := by
  unfold o_rii at h; split at h
  · exact ⟨_, _, _, _, rfl, h⟩
  · exact h.elim
theorem o_ril_sp {st : List Value} {k : Nat → Int32 → Int64 → List Value → Prop} (h : o_ril st k) : ∃ a i v r, st = .long v :: .int i :: .ref a :: r ∧ k a i v r := by
  unfold o_ril at h; split at h
  · exact ⟨_, _, _, _, rfl, h⟩
  · exact h.elim
theorem o_du_sp {st : List Value} {k : List Value → Prop} (h : o_du st k) : ∃ v r, st = v :: r ∧ v.category = 1 ∧ (∀ ad : Nat → Nat, (cv ad v).category = 1) ∧ k (v :: v :: r) := by
  unfold o_du at h; split at h
  · exact ⟨_, _, rfl, rfl, fun _ => rfl, h⟩
  · exact ⟨_, _, rfl, rfl, fun _ => rfl, h⟩
  · exact h.elim
theorem o_nil_sp {st : List Value} {k : Prop} (h : o_nil st k) : st = [] ∧ k := by
  unfold o_nil at h; split at h
  · exact ⟨rfl, h⟩
  · exact h.elim
theorem o_i1_sp {st : List Value} {k : Int32 → Prop} (h : o_i1 st k) : ∃ x, st = [.int x] ∧ k x := by
  unfold o_i1 at h; split at h
  · exact ⟨_, rfl, h⟩
  · exact h.elim
theorem o_l1_sp {st : List Value} {k : Int64 → Prop} (h : o_l1 st k) : ∃ x, st = [.long x] ∧ k x := by
  unfold o_l1 at h; split at h
  · exact ⟨_, rfl, h⟩
  · exact h.elim
theorem o_cp_sp {st : List Value} {k : Nat → Int32 → Nat → Int32 → Int32 → List Value → Prop} (h : o_cp st k) : ∃ p sp q dp n r, st = .int n :: .int dp :: .ref q :: .int sp :: .ref p :: r ∧ k p sp q dp n r := by
  unfold o_cp at h; split at h
  · exact ⟨_, _, _, _, _, _, rfl, h⟩
  · exact h.elim
theorem cat_le (v : Value) : v.category ≤ 2 := by cases v <;> simp [Value.category]
theorem o_sm_sp {st : List Value} {k : Prop} (h : o_sm st k) : (∀ ad : Nat → Nat, ((st.map (cv ad)).map fun v => v.category).sum ≤ 8) ∧ k := by
  unfold o_sm at h; split at h
  · exact ⟨fun ad => by simp, h⟩
  · rename_i a
    exact ⟨fun ad => by have := cat_le (cv ad a); simp; omega, h⟩
  · rename_i a b
    exact ⟨fun ad => by have := cat_le (cv ad a); have := cat_le (cv ad b); simp; omega, h⟩
  · rename_i a b c
    exact ⟨fun ad => by have := cat_le (cv ad a); have := cat_le (cv ad b); have := cat_le (cv ad c); simp; omega, h⟩
  · rename_i a b c d
    exact ⟨fun ad => by have := cat_le (cv ad a); have := cat_le (cv ad b); have := cat_le (cv ad c); have := cat_le (cv ad d); simp; omega, h⟩
  · exact h.elim
theorem opK_sp {α : Type} {o : Option α} {k : α → Prop} (h : opK o k) : ∃ a, o = some a ∧ k a := by
  cases o with
  | none => exact h.elim
  | some a => exact ⟨a, rfl, h⟩
theorem o_rc_sp {as : List Value} {k : Nat → Prop} (h : o_rc as k) : ∃ p bs, as = .ref p :: bs ∧ k p := by
  unfold o_rc at h; split at h
  · exact ⟨_, _, rfl, h⟩
  · exact h.elim
theorem cargs_sp : ∀ {n : Nat} {acc st : List Value} {k : List Value → List Value → Prop}, cargs n acc st k → ∃ bs r, bs.length = n ∧ st = bs ++ r ∧ k (bs.reverse ++ acc) r := by
  intro n
  induction n with
  | zero => intro acc st k h; exact ⟨[], st, rfl, rfl, h⟩
  | succ n ih =>
    intro acc st k h
    cases st with
    | nil => exact h.elim
    | cons v st =>
      obtain ⟨bs, r, h1, h2, h3⟩ := ih (show cargs n (v :: acc) st k from h)
      exact ⟨v :: bs, r, by simp [h1], by simp [h2], by simpa using h3⟩
theorem kl_cat {v : Value} (h : kl v ≠ .null) : kl v = v ∧ v.category = 1 := by
  cases v <;> first | exact ⟨rfl, rfl⟩ | exact absurd rfl h
theorem stK_sp' : ∀ (ls : List Value) (i : Nat) (v : Value) (k : List Value → Prop), stK ls i v k → ∃ ls', k ls' ∧ ls'.length = ls.length ∧ i < ls.length ∧ ∀ (j : Nat) (u : Value), ls'[j]? = some u → u ≠ .null → (j = i ∧ u = v) ∨ (j ≠ i ∧ ls[j]? = some u ∧ (j + 1 = i → u.category = 1)) := by
  intro ls
  induction ls with
  | nil => intro i v k h; exact h.elim
  | cons a ls ih =>
    intro i v k h
    match i, ls, ih, h with
    | 0, ls, ih, h =>
      refine ⟨v :: ls, h, rfl, by simp, fun j u hj hu => ?_⟩
      cases j with
      | zero => exact Or.inl ⟨rfl, by simpa using hj.symm⟩
      | succ j => exact Or.inr ⟨by omega, by simpa using hj, by omega⟩
    | 1, b :: ls, ih, h =>
      refine ⟨kl a :: v :: ls, h, rfl, by simp, fun j u hj hu => ?_⟩
      match j, hj with
      | 0, hj =>
        have e : kl a = u := by simpa using hj
        obtain ⟨e1, e2⟩ := kl_cat (v := a) (by rw [e]; exact hu)
        exact Or.inr ⟨by omega, by simp [← e, e1], fun _ => by rw [← e, e1]; exact e2⟩
      | 1, hj => exact Or.inl ⟨rfl, by simpa using hj.symm⟩
      | j + 2, hj => exact Or.inr ⟨by omega, by simpa using hj, by omega⟩
    | 1, [], ih, h => exact (show stK [] 0 v (fun ls' => k (a :: ls')) from h).elim
    | i + 2, ls, ih, h =>
      obtain ⟨ls', h1, h2, h3, h4⟩ := ih (i + 1) v (fun ls' => k (a :: ls')) (by cases ls <;> exact h)
      refine ⟨a :: ls', h1, by simp [h2], by simp; omega, fun j u hj hu => ?_⟩
      cases j with
      | zero => exact Or.inr ⟨by omega, by simpa using hj, by omega⟩
      | succ j =>
        rcases h4 j u (by simpa using hj) hu with ⟨q1, q2⟩ | ⟨q1, q2, q3⟩
        · exact Or.inl ⟨by omega, q2⟩
        · exact Or.inr ⟨by omega, by simpa using q2, fun z => q3 (by omega)⟩
theorem lsK_sp' : ∀ (ls : List Value) (i : Nat) (v : Value) (k : List Value → Prop), lsK ls i v k → ∃ ls', k ls' ∧ ls'.length = ls.length ∧ i + 1 < ls.length ∧ ∀ (j : Nat) (u : Value), ls'[j]? = some u → u ≠ .null → (j = i ∧ u = v) ∨ (j ≠ i ∧ j ≠ i + 1 ∧ ls[j]? = some u ∧ (j + 1 = i → u.category = 1)) := by
  intro ls
  induction ls with
  | nil => intro i v k h; exact (by simpa [lsK] using h : False).elim
  | cons a ls ih =>
    intro i v k h
    match i, ls, ih, h with
    | 0, b :: ls, ih, h =>
      refine ⟨v :: .null :: ls, h, rfl, by simp, fun j u hj hu => ?_⟩
      match j, hj with
      | 0, hj => exact Or.inl ⟨rfl, by simpa using hj.symm⟩
      | 1, hj => exact absurd (by simpa using hj.symm) hu
      | j + 2, hj => exact Or.inr ⟨by omega, by omega, by simpa using hj, by omega⟩
    | 0, [], ih, h => exact (by simpa [lsK] using h : False).elim
    | 1, b :: b2 :: ls, ih, h =>
      refine ⟨kl a :: v :: .null :: ls, h, rfl, by simp, fun j u hj hu => ?_⟩
      match j, hj with
      | 0, hj =>
        have e : kl a = u := by simpa using hj
        obtain ⟨e1, e2⟩ := kl_cat (v := a) (by rw [e]; exact hu)
        exact Or.inr ⟨by omega, by omega, by simp [← e, e1], fun _ => by rw [← e, e1]; exact e2⟩
      | 1, hj => exact Or.inl ⟨rfl, by simpa using hj.symm⟩
      | 2, hj => exact absurd (by simpa using hj.symm) hu
      | j + 3, hj => exact Or.inr ⟨by omega, by omega, by simpa using hj, by omega⟩
    | 1, [], ih, h => exact (by simpa [lsK] using h : False).elim
    | 1, [b], ih, h => exact (by simpa [lsK] using h : False).elim
    | i + 2, ls, ih, h =>
      obtain ⟨ls', h1, h2, h3, h4⟩ := ih (i + 1) v (fun ls' => k (a :: ls')) (by rw [lsK] at h; exact h)
      refine ⟨a :: ls', h1, by simp [h2], by simp; omega, fun j u hj hu => ?_⟩
      cases j with
      | zero => exact Or.inr ⟨by omega, by omega, by simpa using hj, by omega⟩
      | succ j =>
        rcases h4 j u (by simpa using hj) hu with ⟨q1, q2⟩ | ⟨q1, q1b, q2, q3⟩
        · exact Or.inl ⟨by omega, q2⟩
        · exact Or.inr ⟨by omega, by omega, by simpa using q2, fun z => q3 (by omega)⟩
theorem stK_sp {ls : List Value} {i : Nat} {v : Value} {k : List Value → Prop} (h : stK ls i v k) : ∃ ls', k ls' ∧ ls'.length = ls.length ∧ i < ls.length ∧ ∀ (j : Nat) (u : Value), ls'[j]? = some u → u ≠ .null → (j = i ∧ u = v) ∨ (j ≠ i ∧ ls[j]? = some u ∧ (j + 1 = i → u.category = 1)) := stK_sp' _ _ _ _ h
theorem lsK_sp {ls : List Value} {i : Nat} {v : Value} {k : List Value → Prop} (h : lsK ls i v k) : ∃ ls', k ls' ∧ ls'.length = ls.length ∧ i + 1 < ls.length ∧ ∀ (j : Nat) (u : Value), ls'[j]? = some u → u ≠ .null → (j = i ∧ u = v) ∨ (j ≠ i ∧ j ≠ i + 1 ∧ ls[j]? = some u ∧ (j + 1 = i → u.category = 1)) := lsK_sp' _ _ _ _ h
theorem cv_cat (ad : Nat → Nat) (v : Value) : (cv ad v).category = v.category := by cases v <;> rfl
theorem prs_store {ad : Nat → Nat} {ls ls' : List Value} {i : Nat} {v : Value} (h : ∀ (j : Nat) (u : Value), ls'[j]? = some u → u ≠ .null → (j = i ∧ u = v) ∨ (j ≠ i ∧ ls[j]? = some u ∧ (j + 1 = i → u.category = 1))) :
    ∀ q ∈ prs ad 0 ls', q ∈ (i, cv ad v) :: (prs ad 0 ls).filter (fun q => !(q.1 == i) && !(q.1 + 1 == i && q.2.category == 2)) := by
  rintro ⟨j, u⟩ hq
  obtain ⟨k, z, h1, h2, h3, h4⟩ := (prs_mem ls' 0 j u).mp hq
  have hk : j = k := by omega
  subst hk
  rcases h j z h1 h2 with ⟨e1, e2⟩ | ⟨e1, e2, e3⟩
  · subst e1; subst e2; subst h4
    exact List.mem_cons_self
  · refine List.mem_cons_of_mem _ (List.mem_filter.mpr ⟨(prs_mem ls 0 j u).mpr ⟨j, z, e2, h2, by omega, h4⟩, ?_⟩)
    subst h4
    by_cases e : j + 1 = i
    · have := e3 e
      simp [e1, cv_cat, this]
    · simp [e1, e]
theorem prs_storeL {ad : Nat → Nat} {ls ls' : List Value} {i : Nat} {v : Value} (h : ∀ (j : Nat) (u : Value), ls'[j]? = some u → u ≠ .null → (j = i ∧ u = v) ∨ (j ≠ i ∧ j ≠ i + 1 ∧ ls[j]? = some u ∧ (j + 1 = i → u.category = 1))) :
    ∀ q ∈ prs ad 0 ls', q ∈ (i, cv ad v) :: (prs ad 0 ls).filter (fun q => !(q.1 == i) && (!(q.1 == i + 1) && !(q.1 + 1 == i && q.2.category == 2))) := by
  rintro ⟨j, u⟩ hq
  obtain ⟨k, z, h1, h2, h3, h4⟩ := (prs_mem ls' 0 j u).mp hq
  have hk : j = k := by omega
  subst hk
  rcases h j z h1 h2 with ⟨e1, e2⟩ | ⟨e1, e1b, e2, e3⟩
  · subst e1; subst e2; subst h4
    exact List.mem_cons_self
  · refine List.mem_cons_of_mem _ (List.mem_filter.mpr ⟨(prs_mem ls 0 j u).mpr ⟨j, z, e2, h2, by omega, h4⟩, ?_⟩)
    subst h4
    by_cases e : j + 1 = i
    · have := e3 e
      simp [e1, e1b, cv_cat, this]
    · simp [e1, e1b, e]
theorem aW_len {w : List aE} {ad : Nat → Nat} {dA : Nat → ClassId} {h : aH} : (aW w ad dA h).length = w.length := by simp [aW]
theorem aW_get {w : List aE} {ad : Nat → Nat} {dA : Nat → ClassId} {h : aH} {p : Nat} (hp : p < w.length) : (aW w ad dA h)[p]? = some (ad p, cE ad dA h p (shp w p)) := by
  simp [aW, List.getElem?_map, List.getElem?_range hp]
theorem aW_some {w : List aE} {ad : Nat → Nat} {dA : Nat → ClassId} {h : aH} {p : Nat} {q : Nat × va_E} (hq : (aW w ad dA h)[p]? = some q) : p < w.length ∧ q = (ad p, cE ad dA h p (shp w p)) := by
  have hp : p < w.length := by
    have := (List.getElem?_eq_some_iff.mp hq).1
    rwa [aW_len] at this
  refine ⟨hp, ?_⟩
  rw [aW_get hp] at hq
  exact (Option.some.inj hq).symm
theorem aW_set {w : List aE} {ad : Nat → Nat} {dA : Nat → ClassId} {h h' : aH} {p : Nat} {e : va_E} (ho : ∀ q, q ≠ p → cE ad dA h q (shp w q) = cE ad dA h' q (shp w q)) (he : cE ad dA h' p (shp w p) = e) : (aW w ad dA h).set p (ad p, e) = aW w ad dA h' := by
  apply List.ext_getElem?
  intro k
  rw [List.getElem?_set]
  by_cases hk : p = k
  · subst hk
    rw [if_pos rfl]
    by_cases hl : p < w.length
    · rw [if_pos (by rw [aW_len]; exact hl), aW_get hl, he]
    · rw [if_neg (by rw [aW_len]; exact hl), List.getElem?_eq_none (by rw [aW_len]; omega)]
  · rw [if_neg hk]
    by_cases hl : k < w.length
    · rw [aW_get hl, aW_get hl, ho k (fun q => hk q.symm)]
    · rw [List.getElem?_eq_none (by rw [aW_len]; omega), List.getElem?_eq_none (by rw [aW_len]; omega)]
theorem aW_D {w : List aE} {ad : Nat → Nat} {dA : Nat → ClassId} {h : aH} (hN : aN w ad) : va_D (aA w ad) (aW w ad dA h) := by
  refine ⟨fun i j x y hi hj hxy => ?_, fun k x hk => ?_⟩
  · obtain ⟨h1, rfl⟩ := aW_some hi
    obtain ⟨h2, rfl⟩ := aW_some hj
    exact hN i j h1 h2 hxy
  · obtain ⟨h1, rfl⟩ := aW_some hk
    exact ⟨k, h1, rfl⟩
theorem shp_lt {w : List aE} {p : Nat} (h : shp w p ≠ .inr (9, 0, 0)) : p < w.length := by
  rcases Nat.lt_or_ge p w.length with h1 | h1
  · exact h1
  · exact absurd (by simp [shp, List.getD, List.getElem?_eq_none h1]) h
theorem lenK_sp {w : List aE} {kd p : Nat} (h : 0 < lenK w kd p) (hk : kd ≠ 9) : ∃ b, shp w p = .inr (kd, lenK w kd p, b) ∧ p < w.length := by
  unfold lenK at h ⊢
  split at h
  · rename_i k n b hs
    by_cases e : k = kd
    · subst e
      simp only [hs, if_pos] 
      exact ⟨b, rfl, shp_lt (by rw [hs]; intro q; injection q with q; injection q with q1 q2; exact hk q1)⟩
    · rw [if_neg e] at h
      exact absurd h (by omega)
  · exact absurd h (by omega)
theorem vp_pos {i : Int32} {n : Nat} (h : vp_in i n) : 0 < n := by
  rcases Nat.eq_zero_or_pos n with e | e
  · subst e; exact absurd (Or.inr (Nat.zero_le _)) h
  · exact e
theorem vp_lt {i : Int32} {n : Nat} (h : vp_in i n) : i.toNatClampNeg < n := Nat.not_le.mp fun q => h (Or.inr q)
theorem rcv_sp {w : List aE} {cl : List vw_C} {p : Nat} {y : MethodName} (h : rcv w cl p y = true) : ∃ c rs q, shp w p = .inl (c, rs) ∧ cl[c]? = some q ∧ q.1 = y.cls ∧ p < w.length := by
  unfold rcv at h
  split at h
  · rename_i c rs hs
    split at h
    · rename_i q hq
      exact ⟨c, rs, q, hs, hq, by simpa using h, shp_lt (by rw [hs]; intro z; cases z)⟩
    · cases h
  · cases h
theorem fval_sp {w : List aE} {h : aH} {p : Nat} {o : Option (Nat × Nat × Bool)} {v : Value} (hv : fval w h p o = some v) : ∃ ci k b rs, o = some (ci, k, b) ∧ shp w p = .inl (ci, rs) ∧ p < w.length ∧ k < rs.length ∧ ∀ ad : Nat → Nat, (match rs[k]? with | some (some q) => Value.ref (ad q) | _ => Value.int (fI h p k)) = cv ad v := by
  unfold fval at hv
  split at hv
  · rename_i ci k b
    split at hv
    · rename_i c rs hs
      by_cases e : c = ci
      · subst e
        rw [if_pos rfl] at hv
        refine ⟨c, k, b, rs, rfl, hs, shp_lt (by rw [hs]; intro z; cases z), ?_, ?_⟩
        · cases hr : rs[k]? with
          | none => rw [hr] at hv; cases hv
          | some z => exact (List.getElem?_eq_some_iff.mp hr).1
        · intro ad
          cases hr : rs[k]? with
          | none => rw [hr] at hv; cases hv
          | some z =>
            rw [hr] at hv
            cases z with
            | none => cases hv; rfl
            | some q => cases hv; rfl
      · rw [if_neg e] at hv; cases hv
    · cases hv
  · cases hv
theorem pfok_sp {w : List aE} {p k : Nat} {o : Option (Nat × Nat × Bool)} (hv : pfok w p o = some k) : ∃ ci rs, o = some (ci, k, true) ∧ shp w p = .inl (ci, rs) ∧ p < w.length ∧ rs[k]? = some none := by
  unfold pfok at hv
  split at hv
  · rename_i ci k2 b
    split at hv
    · rename_i c rs hs
      by_cases e : c = ci
      · subst e
        rw [if_pos rfl] at hv
        by_cases e2 : b = true
        · subst e2
          rw [if_pos rfl] at hv
          split at hv
          · rename_i hr
            cases hv
            exact ⟨c, rs, rfl, hs, shp_lt (by rw [hs]; intro z; cases z), hr⟩
          · cases hv
        · rw [if_neg e2] at hv; cases hv
      · rw [if_neg e] at hv; cases hv
    · cases hv
  · cases hv
