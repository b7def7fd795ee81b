/-! THE MATHEMATICS of states -/
def cnt (p : Nat → Bool) : Nat → Nat
  | 0 => 0
  | k + 1 => cnt p k + (if p k = true then 1 else 0)
theorem cnt_le (p : Nat → Bool) : ∀ n, cnt p n ≤ n := by
  intro n
  induction n with
  | zero => exact Nat.le_refl 0
  | succ n ih => rw [cnt]; split <;> omega
theorem cnt_mono (p : Nat → Bool) {a b : Nat} (h : a ≤ b) : cnt p a ≤ cnt p b := by
  induction b with
  | zero => rw [show a = 0 by omega]; exact Nat.le_refl _
  | succ b ih =>
    by_cases e : a = b + 1
    · rw [e]; exact Nat.le_refl _
    · have := ih (by omega)
      rw [cnt]
      omega
theorem cnt_none {p : Nat → Bool} {a : Nat} : ∀ {b : Nat}, a ≤ b → (∀ z, a ≤ z → z < b → p z = false) → cnt p b = cnt p a := by
  intro b
  induction b with
  | zero => intro h _; rw [show a = 0 by omega]
  | succ b ih =>
    intro h hn
    by_cases e : a = b + 1
    · rw [e]
    · rw [cnt, hn b (by omega) (by omega), ih (by omega) (fun z h1 h2 => hn z h1 (by omega))]
      simp
/-- the next one with p, from a on -/
theorem cnt_next {p : Nat → Bool} : ∀ {b a : Nat}, a ≤ b → cnt p a < cnt p b → ∃ s, a ≤ s ∧ s < b ∧ p s = true ∧ cnt p s = cnt p a ∧ ∀ z, a ≤ z → z < s → p z = false := by
  intro b
  induction b with
  | zero => intro a h hc; rw [show a = 0 by omega] at hc; omega
  | succ b ih =>
    intro a h hc
    by_cases e : a = b + 1
    · rw [e] at hc; omega
    · by_cases e2 : cnt p a < cnt p b
      · obtain ⟨s, h1, h2, h3, h4, h5⟩ := ih (by omega) e2
        exact ⟨s, h1, by omega, h3, h4, h5⟩
      · have hm := cnt_mono p (show a ≤ b by omega)
        have he : cnt p b = cnt p a := by omega
        rw [cnt] at hc
        have hp : p b = true := by
          cases hb : p b with
          | true => rfl
          | false => rw [hb] at hc; simp at hc; omega
        refine ⟨b, by omega, by omega, hp, he, fun z h1 h2 => ?_⟩
        cases hz : p z with
        | false => rfl
        | true =>
          have g1 := cnt_mono p (show z + 1 ≤ b by omega)
          have g2 := cnt_mono p h1
          rw [cnt, hz] at g1
          simp at g1
          omega
/-- a fold over those with p -/
def fst {α : Type} (p : Nat → Bool) (f : α → Nat → α) (a : α) : Nat → α
  | 0 => a
  | s + 1 => if p s = true then f (fst p f a s) s else fst p f a s
theorem fst_none {α : Type} {p : Nat → Bool} {f : α → Nat → α} {x : α} {a : Nat} : ∀ {b : Nat}, a ≤ b → (∀ z, a ≤ z → z < b → p z = false) → fst p f x b = fst p f x a := by
  intro b
  induction b with
  | zero => intro h _; rw [show a = 0 by omega]
  | succ b ih =>
    intro h hn
    by_cases e : a = b + 1
    · rw [e]
    · rw [fst, hn b (by omega) (by omega), ih (by omega) (fun z h1 h2 => hn z h1 (by omega))]
      simp
theorem fst_cong {α : Type} {p q : Nat → Bool} {f g : α → Nat → α} {x : α} : ∀ {b : Nat}, (∀ z, z < b → p z = q z) → (∀ a z, z < b → p z = true → f a z = g a z) → fst p f x b = fst q g x b := by
  intro b
  induction b with
  | zero => intro _ _; rfl
  | succ b ih =>
    intro h1 h2
    rw [fst, fst, ← h1 b (by omega), ih (fun z hz => h1 z (by omega)) (fun a z hz hp => h2 a z (by omega) hp)]
    by_cases e : p b = true
    · rw [if_pos e, if_pos e, h2 _ b (by omega) e]
    · rw [if_neg e, if_neg e]
/-- a loop over the states by their index is a fold over all sets -/
theorem st_loop {α : Type} {p : Nat → Bool} {N : Nat} {f : α → Nat → α} {x : α} (P : Nat → α → Prop)
    (hend : P (cnt p N) (fst p f x N)) (hstep : ∀ s a, s < N → p s = true → P (cnt p s + 1) (f a s) → P (cnt p s) a) : P 0 x := by
  have key : ∀ d a, a ≤ N → cnt p a + d = cnt p N → P (cnt p a) (fst p f x a) := by
    intro d
    induction d with
    | zero =>
      intro a ha hd
      have hn : ∀ z, a ≤ z → z < N → p z = false := fun z h1 h2 => by
        cases hz : p z with
        | false => rfl
        | true =>
          have g1 := cnt_mono p (show z + 1 ≤ N by omega)
          have g2 := cnt_mono p h1
          rw [cnt, hz] at g1
          simp at g1
          omega
      rw [← fst_none ha hn, show cnt p a = cnt p N by omega]
      exact hend
    | succ d ih =>
      intro a ha hd
      obtain ⟨s, h1, h2, h3, h4, h5⟩ := cnt_next ha (show cnt p a < cnt p N by omega)
      have e1 : cnt p (s + 1) = cnt p s + 1 := by rw [cnt, h3]; simp
      have e2 : fst p f x (s + 1) = f (fst p f x s) s := by rw [fst, h3]; simp
      have := ih (s + 1) (by omega) (by omega)
      rw [e1, e2] at this
      rw [← fst_none h1 h5, ← h4]
      exact hstep s _ h2 h3 this
  exact key (cnt p N) 0 (Nat.zero_le N) (by rw [cnt]; omega)
/-- whether one below n has p -/
def exU (p : Nat → Bool) : Nat → Bool
  | 0 => false
  | k + 1 => exU p k || p k
theorem exU_sp {p : Nat → Bool} : ∀ {n : Nat}, exU p n = true ↔ ∃ i, i < n ∧ p i = true := by
  intro n
  induction n with
  | zero => simp [exU]
  | succ n ih =>
    rw [exU, Bool.or_eq_true, ih]
    constructor
    · rintro (⟨i, h1, h2⟩ | h)
      · exact ⟨i, by omega, h2⟩
      · exact ⟨n, by omega, h⟩
    · rintro ⟨i, h1, h2⟩
      by_cases e : i = n
      · subst e; exact Or.inr h2
      · exact Or.inl ⟨i, by omega, h2⟩
/-- whether a lesson, told by its leading item, fits a set -/
def nxt (T : TT) (s i : Nat) : Bool := lea T i && fit T (les T i) s
/-- the lessons that fit a set, told by their leading items -/
def nx (T : TT) (s : Nat) : Nat := mask (nxt T s) (tn T)
theorem nx_tb {T : TT} {s i : Nat} : (nx T s).testBit i = (decide (i < tn T) && nxt T s i) := mask_tb _ _ _
theorem nx_lt {T : TT} (hT : okT T) (s : Nat) : nx T s < 4096 := Nat.lt_of_lt_of_le (mask_lt _ _) (pw_le hT.1)
/-- the marks, when the sets below s are done -/
def mk (T : TT) : Nat → Nat → Bool
  | 0, z => decide (z = bot T)
  | s + 1, z => mk T s z || (mk T s s && exU (fun i => nxt T s i && decide (z = s ||| les T i)) (tn T))
def isSt (T : TT) (z : Nat) : Bool := mk T z z
theorem fit_gt {T : TT} {s i : Nat} (hi : i < tn T) (h : fit T (les T i) s = true) : s < s ||| les T i := by
  unfold fit at h
  simp only [Bool.and_eq_true, decide_eq_true_eq] at h
  have h1 : s ≤ s ||| les T i := Nat.left_le_or
  rcases Nat.lt_or_ge s (s ||| les T i) with h2 | h2
  · exact h2
  · have e : s ||| les T i = s := by omega
    have b1 := congrArg (fun z => z.testBit i) e
    have b2 := congrArg (fun z => z.testBit i) h.1
    simp only [Nat.testBit_or, Nat.testBit_and, les_self hi, Bool.or_true, Bool.true_and, Nat.zero_testBit] at b1 b2
    rw [b2] at b1
    cases b1
theorem nxt_gt {T : TT} {s i : Nat} (hi : i < tn T) (h : nxt T s i = true) : s < s ||| les T i := by
  unfold nxt at h
  rw [Bool.and_eq_true] at h
  exact fit_gt hi h.2
theorem mk_keep {T : TT} {s z : Nat} (h : z ≤ s) : mk T (s + 1) z = mk T s z := by
  rw [mk]
  have : exU (fun i => nxt T s i && decide (z = s ||| les T i)) (tn T) = false := by
    rw [Bool.eq_false_iff]
    intro q
    obtain ⟨i, h1, h2⟩ := exU_sp.mp q
    rw [Bool.and_eq_true, decide_eq_true_eq] at h2
    have := nxt_gt h1 h2.1
    omega
  rw [this, Bool.and_false, Bool.or_false]
theorem mk_st {T : TT} {z : Nat} : ∀ {s : Nat}, z ≤ s → mk T s z = isSt T z := by
  intro s
  induction s with
  | zero => intro h; rw [show z = 0 by omega]; rfl
  | succ s ih =>
    intro h
    by_cases e : z = s + 1
    · rw [e]; rfl
    · rw [mk_keep (by omega)]
      exact ih (by omega)
theorem mk_lt {T : TT} : ∀ {s z : Nat}, mk T s z = true → z < 2 ^ tn T := by
  intro s
  induction s with
  | zero =>
    intro z h
    rw [mk, decide_eq_true_eq] at h
    rw [h]; exact bot_lt T
  | succ s ih =>
    intro z h
    rw [mk, Bool.or_eq_true, Bool.and_eq_true] at h
    rcases h with h | ⟨h1, h2⟩
    · exact ih h
    · obtain ⟨i, -, h4⟩ := exU_sp.mp h2
      rw [Bool.and_eq_true, decide_eq_true_eq] at h4
      rw [h4.2]
      exact or_lt (ih h1) (les_lt i)
theorem isSt_lt {T : TT} {z : Nat} (h : isSt T z = true) : z < 2 ^ tn T := mk_lt h
theorem isSt_12 {T : TT} (hT : okT T) {z : Nat} (h : isSt T z = true) : z < 4096 := Nat.lt_of_lt_of_le (isSt_lt h) (pw_le hT.1)
theorem mk_low {T : TT} : ∀ {s : Nat}, s ≤ bot T → ∀ z, mk T s z = decide (z = bot T) := by
  intro s
  induction s with
  | zero => intro _ z; rfl
  | succ s ih =>
    intro h z
    rw [mk, ih (by omega), ih (by omega)]
    have e : ¬ s = bot T := by omega
    simp [e]
theorem st_bot (T : TT) : isSt T (bot T) = true := by
  unfold isSt
  rw [mk_low (Nat.le_refl _)]
  simp
theorem st_low {T : TT} {z : Nat} (h : z < bot T) : isSt T z = false := by
  unfold isSt
  rw [mk_low (by omega)]
  simp; omega
/-- the states: the bottom, and what a lesson that fits leads to -/
theorem st_step {T : TT} {z : Nat} : isSt T z = true ↔ z = bot T ∨ ∃ s i, s < z ∧ i < tn T ∧ isSt T s = true ∧ nxt T s i = true ∧ z = s ||| les T i := by
  have up : ∀ s, mk T s z = true ↔ z = bot T ∨ ∃ t i, t < s ∧ i < tn T ∧ isSt T t = true ∧ nxt T t i = true ∧ z = t ||| les T i := by
    intro s
    induction s with
    | zero =>
      rw [mk, decide_eq_true_eq]
      constructor
      · exact Or.inl
      · rintro (h | ⟨t, i, h, -⟩)
        · exact h
        · omega
    | succ s ih =>
      rw [mk, Bool.or_eq_true, ih, Bool.and_eq_true, exU_sp]
      constructor
      · rintro ((h | ⟨t, i, h1, h2⟩) | ⟨h1, i, h2, h3⟩)
        · exact Or.inl h
        · exact Or.inr ⟨t, i, by omega, h2⟩
        · rw [Bool.and_eq_true, decide_eq_true_eq] at h3
          exact Or.inr ⟨s, i, by omega, h2, h1, h3.1, h3.2⟩
      · rintro (h | ⟨t, i, h1, h2, h3, h4, h5⟩)
        · exact Or.inl (Or.inl h)
        · by_cases e : t = s
          · subst e
            exact Or.inr ⟨h3, i, h2, by rw [h4, h5]; simp⟩
          · exact Or.inl (Or.inr ⟨t, i, by omega, h2, h3, h4, h5⟩)
  exact up z
theorem st_sup {T : TT} {z : Nat} : isSt T z = true → sub (bot T) z = true := by
  intro h
  induction z using Nat.strongRecOn with
  | _ z ih =>
    rcases st_step.mp h with rfl | ⟨s, i, h1, h2, h3, h4, h5⟩
    · rw [sub_tb]; exact fun i hi => hi
    · have := ih s h1 h3
      rw [sub_tb] at this ⊢
      intro j hj
      rw [h5, Nat.testBit_or, this j hj]
      rfl
