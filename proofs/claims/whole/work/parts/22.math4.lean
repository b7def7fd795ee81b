/-! THE MATHEMATICS of the test -/
theorem q_l0 : (0 : Int64) = lN 0 := (rfl)
theorem q_l1 : (1 : Int64) = lN 1 := (rfl)
theorem q_l64 {n : Nat} (h : n < 2147483648) : (nI n).toInt64 = lN n := nI_l h
theorem q_lmul {a b : Nat} : lN a * lN b = lN (a * b) := lN_mul a b
theorem q_ladd {a b : Nat} : lN a + lN b = lN (a + b) := lN_add a b
theorem lN_ti2 {n : Nat} (h : n < 9223372036854775808) : (lN n).toInt = (n : Int) := pk_lT h
theorem q_lcle {a b : Nat} (ha : a < 9223372036854775808) (hb : b < 9223372036854775808) : (lg_cmp (lN a) (lN b) ≤ nI 0) = (a ≤ b) := by
  have h1 := lg_cmp_le (lN a) (lN b)
  have h2 := pk_lLE ha hb
  exact propext (h1.trans h2)
theorem q_lcge {a b : Nat} (ha : a < 9223372036854775808) (hb : b < 9223372036854775808) : (nI 0 ≤ lg_cmp (lN a) (lN b)) = (b ≤ a) := by
  have h1 := lg_cmp_ge (lN a) (lN b)
  have h2 := pk_lLE hb ha
  exact propext (h1.trans h2)
theorem q_lc0 {a b : Nat} (ha : a < 9223372036854775808) (hb : b < 9223372036854775808) : (lg_cmp (lN a) (lN b) = nI 0) = (a = b) := by
  have h1 := q_lcle ha hb
  have h2 := q_lcge ha hb
  have h3 : (lg_cmp (lN a) (lN b) = nI 0) = (lg_cmp (lN a) (lN b) ≤ nI 0 ∧ nI 0 ≤ lg_cmp (lN a) (lN b)) := by
    apply propext
    simp only [Int32.le_iff_toInt_le, i32_eq]
    omega
  rw [h3, h1, h2]
  apply propext
  omega
/-- how many are left -/
def lf (T : TT) (wt : Nat → Nat) : Nat := cnt (fun s => decide (0 < wt s)) (2 ^ tn T)
/-- how many of those have an item -/
def hv (T : TT) (wt : Nat → Nat) (i : Nat) : Nat := cnt (fun s => decide (0 < wt s) && s.testBit i) (2 ^ tn T)
def okW (T : TT) (wt : Nat → Nat) (un : Nat) : Prop := un ≤ 6 ∧ (∀ s, wt s ≤ 100 ^ un) ∧ (∀ s, 0 < wt s → isSt T s = true) ∧ 0 < lf T wt
theorem okW_b {T : TT} {wt : Nat → Nat} {un : Nat} (h : okW T wt un) (s : Nat) : wt s < 9223372036854775808 := by
  have h1 := h.2.1 s
  have h2 : 100 ^ un ≤ 100 ^ 6 := Nat.pow_le_pow_right (by omega) h.1
  have h3 : (100 : Nat) ^ 6 = 1000000000000 := by decide
  omega
theorem cnt_cong {p q : Nat → Bool} : ∀ {n : Nat}, (∀ i, i < n → p i = q i) → cnt p n = cnt q n := by
  intro n
  induction n with
  | zero => intro _; rfl
  | succ n ih =>
    intro h
    rw [cnt, cnt, h n (by omega), ih (fun i hi => h i (by omega))]
theorem fst_cnt {p q : Nat → Bool} : ∀ {n : Nat}, fst p (fun a s => if q s = true then a + 1 else a) 0 n = cnt (fun s => p s && q s) n := by
  intro n
  induction n with
  | zero => rfl
  | succ n ih =>
    rw [fst, cnt, ih]
    cases p n <;> cases q n <;> simp
theorem hv_le {T : TT} {wt : Nat → Nat} {i : Nat} : hv T wt i ≤ lf T wt := by
  unfold hv lf
  generalize 2 ^ tn T = n
  induction n with
  | zero => exact Nat.le_refl 0
  | succ n ih =>
    rw [cnt, cnt]
    cases decide (0 < wt n) <;> cases n.testBit i <;> simp <;> omega
theorem hv_st {T : TT} {wt : Nat → Nat} {un i : Nat} (h : okW T wt un) : fst (isSt T) (fun a s => if (decide (0 < wt s) && s.testBit i) = true then a + 1 else a) 0 (2 ^ tn T) = hv T wt i := by
  rw [fst_cnt]
  unfold hv
  refine cnt_cong (fun s _ => ?_)
  by_cases e : 0 < wt s
  · rw [h.2.2.1 s e]; simp
  · simp [e]
theorem lf_le {T : TT} (hT : okT T) {wt : Nat → Nat} : lf T wt ≤ 4096 := Nat.le_trans (cnt_le _ _) (pw_le hT.1)
/-- the weights, when an item is answered -/
def wgh (wt : Nat → Nat) (i a b : Nat) : Nat → Nat := fun s => wt s * (if s.testBit i = true then a else b)
theorem lf_wgh {T : TT} {wt : Nat → Nat} {i a b : Nat} : lf T (wgh wt i a b) = (if a = 0 then 0 else hv T wt i) + (if b = 0 then 0 else lf T wt - hv T wt i) := by
  have key : ∀ n, cnt (fun s => decide (0 < wgh wt i a b s)) n + (if b = 0 then 0 else cnt (fun s => decide (0 < wt s) && s.testBit i) n) = (if a = 0 then 0 else cnt (fun s => decide (0 < wt s) && s.testBit i) n) + (if b = 0 then 0 else cnt (fun s => decide (0 < wt s)) n) := by
    intro n
    induction n with
    | zero => simp [cnt]
    | succ n ih =>
      rw [cnt, cnt, cnt]
      have e : (0 < wgh wt i a b n) = (0 < wt n ∧ 0 < (if n.testBit i = true then a else b)) := by
        unfold wgh
        simp only [Nat.pos_iff_ne_zero, ne_eq, Nat.mul_eq_zero, not_or]
      simp only [e]
      have hq : cnt (fun s => decide (0 < wt s) && s.testBit i) n ≤ cnt (fun s => decide (0 < wt s)) n := by
        clear ih e
        induction n with
        | zero => exact Nat.le_refl 0
        | succ n ih =>
          rw [cnt, cnt]
          cases decide (0 < wt n) <;> cases n.testBit i <;> simp <;> omega
      by_cases ea : a = 0 <;> by_cases eb : b = 0 <;> cases n.testBit i <;> by_cases ew : 0 < wt n <;> simp [ea, eb, ew, Nat.pos_iff_ne_zero] at ih ⊢ <;> omega
  have := key (2 ^ tn T)
  have h2 := hv_le (T := T) (wt := wt) (i := i)
  unfold lf hv at *
  by_cases e : b = 0
  · simp [e] at this ⊢; omega
  · simp [e] at this ⊢; omega
/-- f where p holds below a, else g -/
def stU {α : Type} (p : Nat → Bool) (f g : Nat → α) (a : Nat) : Nat → α := fun s => if (decide (s < a) && p s) = true then f s else g s
theorem stU_0 {α : Type} {p : Nat → Bool} {f g : Nat → α} : stU p f g 0 = g := by funext s; simp [stU]
theorem stU_none {α : Type} {p : Nat → Bool} {f g : Nat → α} {a b : Nat} (h : a ≤ b) (hn : ∀ z, a ≤ z → z < b → p z = false) : stU p f g b = stU p f g a := by
  funext s
  unfold stU
  by_cases e : s < a
  · simp [e, show s < b by omega]
  · by_cases e2 : s < b
    · simp [e, e2, hn s (by omega) e2]
    · simp [e, e2]
theorem stU_L {p : Nat → Bool} {f g : Nat → Int64} {a : Nat} (h : p a = true) : vp_updL (stU p f g a) a (f a) = stU p f g (a + 1) := by
  funext s
  unfold stU vp_updL
  by_cases e : s = a
  · subst e; simp [h]
  · by_cases e2 : s < a
    · simp [e, e2, show s < a + 1 by omega]
    · simp [e, e2, show ¬ s < a + 1 by omega]
theorem stU_I {p : Nat → Bool} {f g : Nat → Int32} {a : Nat} (h : p a = true) : upd (stU p f g a) a (f a) = stU p f g (a + 1) := by
  funext s
  unfold stU upd
  by_cases e : s = a
  · subst e; simp [h]
  · by_cases e2 : s < a
    · simp [e, e2, show s < a + 1 by omega]
    · simp [e, e2, show ¬ s < a + 1 by omega]
/-- the best item, by the items below k: which, and its greater half -/
def bsU (T : TT) (wt : Nat → Nat) : Nat → Option Nat × Nat
  | 0 => (none, lf T wt + 1)
  | k + 1 => if max (hv T wt k) (lf T wt - hv T wt k) < (bsU T wt k).2 then (some k, max (hv T wt k) (lf T wt - hv T wt k)) else bsU T wt k
theorem bsU_le {T : TT} {wt : Nat → Nat} : ∀ k, (bsU T wt k).2 ≤ lf T wt + 1 := by
  intro k
  induction k with
  | zero => exact Nat.le_refl _
  | succ k ih =>
    rw [bsU]
    split
    · have := hv_le (T := T) (wt := wt) (i := k)
      dsimp only
      omega
    · exact ih
