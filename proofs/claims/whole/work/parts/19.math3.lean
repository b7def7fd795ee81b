/-! THE MATHEMATICS of what is near -/
theorem pcn_flip {x y i : Nat} (h : ∀ j, j ≠ i → x.testBit j = y.testBit j) (hx : x.testBit i = true) (hy : y.testBit i = false) : ∀ n, pcn x n = pcn y n + (if i < n then 1 else 0) := by
  intro n
  induction n with
  | zero => rfl
  | succ n ih =>
    rw [pcn, pcn, ih]
    by_cases e : n = i
    · subst e
      rw [hx, hy]
      simp
    · rw [h n e]
      by_cases e2 : i < n
      · rw [if_pos e2, if_pos (by omega)]; omega
      · rw [if_neg e2, if_neg (by omega)]; omega
theorem pop_flip {x y i : Nat} (h : ∀ j, j ≠ i → x.testBit j = y.testBit j) (hx : x.testBit i = true) (hy : y.testBit i = false) (hi : i < 12) : pop x = pop y + 1 := by
  unfold pop
  rw [pcn_flip h hx hy, if_pos hi]
theorem pcn_le (x : Nat) : ∀ n, pcn x n ≤ n := by
  intro n
  induction n with
  | zero => exact Nat.le_refl 0
  | succ n ih =>
    rw [pcn]
    have : (x.testBit n).toNat ≤ 1 := Bool.toNat_le _
    omega
theorem pop_le (x : Nat) : pop x ≤ 12 := pcn_le x 12
theorem pcn_0 : ∀ n, pcn 0 n = 0 := by
  intro n
  induction n with
  | zero => rfl
  | succ n ih => rw [pcn, ih]; simp
theorem pop_0 : pop 0 = 0 := pcn_0 12
/-- how far, and which -/
def nk (s z : Nat) : Nat := pop (s ^^^ z) * 4096 + z
def mnU (f : Nat → Nat) (p : Nat → Bool) : Nat → Nat
  | 0 => 1048576
  | k + 1 => if p k = true then min (mnU f p k) (f k) else mnU f p k
theorem mnU_le {f : Nat → Nat} {p : Nat → Bool} : ∀ {n z : Nat}, z < n → p z = true → mnU f p n ≤ f z := by
  intro n
  induction n with
  | zero => intro z h; omega
  | succ n ih =>
    intro z h hp
    rw [mnU]
    by_cases e : z = n
    · subst e
      rw [if_pos hp]
      exact Nat.min_le_right _ _
    · have := ih (show z < n by omega) hp
      split
      · exact Nat.le_trans (Nat.min_le_left _ _) this
      · exact this
theorem mnU_at {f : Nat → Nat} {p : Nat → Bool} : ∀ {n : Nat}, (∃ z, z < n ∧ p z = true ∧ mnU f p n = f z) ∨ mnU f p n = 1048576 := by
  intro n
  induction n with
  | zero => exact Or.inr rfl
  | succ n ih =>
    rw [mnU]
    by_cases e : p n = true
    · rw [if_pos e]
      rcases Nat.le_total (mnU f p n) (f n) with h | h
      · rw [Nat.min_eq_left h]
        rcases ih with ⟨z, h1, h2, h3⟩ | h1
        · exact Or.inl ⟨z, by omega, h2, h3⟩
        · exact Or.inr h1
      · rw [Nat.min_eq_right h]
        exact Or.inl ⟨n, by omega, e, rfl⟩
    · rw [if_neg e]
      rcases ih with ⟨z, h1, h2, h3⟩ | h1
      · exact Or.inl ⟨z, by omega, h2, h3⟩
      · exact Or.inr h1
/-- the nearest state of a set: how far it is, and the state -/
def nr (T : TT) (s : Nat) : Nat := mnU (nk s) (isSt T) (2 ^ tn T)
def nrD (T : TT) (s : Nat) : Nat := nr T s / 4096
def nrS (T : TT) (s : Nat) : Nat := nr T s % 4096
theorem nk_lt {s z : Nat} (h : z < 4096) : nk s z < 13 * 4096 := by
  unfold nk
  have := pop_le (s ^^^ z)
  omega
theorem nr_sp {T : TT} (hT : okT T) (s : Nat) : ∃ z, isSt T z = true ∧ nr T s = nk s z ∧ ∀ y, isSt T y = true → nk s z ≤ nk s y := by
  have hb := st_bot T
  have h1 := mnU_le (f := nk s) (isSt_lt hb) hb
  have h2 := nk_lt (s := s) (isSt_12 hT hb)
  rcases mnU_at (f := nk s) (p := isSt T) (n := 2 ^ tn T) with ⟨z, h3, h4, h5⟩ | h3
  · exact ⟨z, h4, h5, fun y hy => by rw [← h5]; exact mnU_le (isSt_lt hy) hy⟩
  · omega
theorem nr_of {T : TT} {s z : Nat} (hT : okT T) (hz : isSt T z = true) (h : ∀ y, isSt T y = true → nk s z ≤ nk s y) : nr T s = nk s z := by
  obtain ⟨y, h1, h2, h3⟩ := nr_sp hT s
  have a := h y h1
  have b := h3 z hz
  omega
theorem nr_lt {T : TT} (hT : okT T) (s : Nat) : nr T s < 13 * 4096 := by
  obtain ⟨y, h1, h2, h3⟩ := nr_sp hT s
  rw [h2]
  exact nk_lt (isSt_12 hT h1)
/-- the rounds of the sweep: v is the least key of a state that is like s from bit i on -/
def NB (T : TT) (i s v : Nat) : Prop := (∀ z, isSt T z = true → (∀ j, i ≤ j → z.testBit j = s.testBit j) → v ≤ nk s z) ∧ ((∃ z, isSt T z = true ∧ (∀ j, i ≤ j → z.testBit j = s.testBit j) ∧ v = nk s z) ∨ 1048576 ≤ v) ∧ v ≤ 1048576 + 4096 * i
theorem NB_0 {T : TT} (hT : okT T) {s : Nat} (hs : s < 4096) : NB T 0 s (if isSt T s = true then s else 1048576) := by
  have e0 : nk s s = s := by unfold nk; rw [Nat.xor_self, pop_0]; omega
  have eq : ∀ z, (∀ j, 0 ≤ j → z.testBit j = s.testBit j) → z = s := fun z hz => Nat.eq_of_testBit_eq (fun j => hz j (Nat.zero_le j))
  by_cases h : isSt T s = true
  · rw [if_pos h]
    refine ⟨fun z _ ha => by rw [eq z ha, e0]; exact Nat.le_refl s, Or.inl ⟨s, h, fun _ _ => rfl, e0.symm⟩, by omega⟩
  · rw [if_neg h]
    refine ⟨fun z hz ha => ?_, Or.inr (Nat.le_refl _), by omega⟩
    rw [eq z ha] at hz
    exact absurd hz h
theorem NB_n {T : TT} (hT : okT T) {s v : Nat} (hs : s < 2 ^ tn T) (h : NB T (tn T) s v) : v = nr T s := by
  have ag : ∀ z, isSt T z = true → ∀ j, tn T ≤ j → z.testBit j = s.testBit j := fun z hz j hj => by
    rw [Nat.testBit_lt_two_pow (Nat.lt_of_lt_of_le (isSt_lt hz) (Nat.pow_le_pow_right (by omega) hj)), Nat.testBit_lt_two_pow (Nat.lt_of_lt_of_le hs (Nat.pow_le_pow_right (by omega) hj))]
  obtain ⟨h1, h2, h3⟩ := h
  obtain ⟨y, g1, g2, g3⟩ := nr_sp hT s
  have g4 := h1 y g1 (ag y g1)
  have g5 := nk_lt (s := s) (isSt_12 hT g1)
  rcases h2 with ⟨z, f1, f2, f3⟩ | h2
  · have := g3 z f1
    omega
  · omega
theorem xor_flip {s z i : Nat} (hs : s.testBit i = false) : ∀ j, j ≠ i → (s ^^^ z).testBit j = ((s ||| 2 ^ i) ^^^ z).testBit j := by
  intro j hj
  have : ¬ i = j := fun q => hj q.symm
  simp [Nat.testBit_xor, Nat.testBit_or, Nat.testBit_two_pow, this]
/-- a state with the bit is nearer by one to the set with it -/
theorem nk_b {s z i : Nat} (hi : i < 12) (hs : s.testBit i = false) (hz : z.testBit i = true) : nk s z = nk (s ||| 2 ^ i) z + 4096 := by
  have := pop_flip (x := s ^^^ z) (y := (s ||| 2 ^ i) ^^^ z) (i := i) (xor_flip hs) (by simp [Nat.testBit_xor, hs, hz]) (by simp [Nat.testBit_xor, Nat.testBit_or, Nat.testBit_two_pow, hz]) hi
  unfold nk
  omega
theorem nk_a {s z i : Nat} (hi : i < 12) (hs : s.testBit i = false) (hz : z.testBit i = false) : nk (s ||| 2 ^ i) z = nk s z + 4096 := by
  have := pop_flip (x := (s ||| 2 ^ i) ^^^ z) (y := s ^^^ z) (i := i) (fun j hj => (xor_flip hs j hj).symm) (by simp [Nat.testBit_xor, Nat.testBit_or, Nat.testBit_two_pow, hz]) (by simp [Nat.testBit_xor, hs, hz]) hi
  unfold nk
  omega
theorem NB_lo {T : TT} {i s x y : Nat} (hi : i < 12) (hs : s.testBit i = false) (hx : NB T i s x) (hy : NB T i (s ||| 2 ^ i) y) : NB T (i + 1) s (min x (y + 4096)) := by
  obtain ⟨x1, x2, x3⟩ := hx
  obtain ⟨y1, y2, y3⟩ := hy
  have tb : ∀ j, i + 1 ≤ j → (s ||| 2 ^ i).testBit j = s.testBit j := fun j hj => by
    rw [Nat.testBit_or, Nat.testBit_two_pow]
    simp
    omega
  have tbi : (s ||| 2 ^ i).testBit i = true := by simp [Nat.testBit_or, Nat.testBit_two_pow]
  refine ⟨fun z hz ha => ?_, ?_, ?_⟩
  · cases hb : z.testBit i with
    | false =>
      have := x1 z hz (fun j hj => by
        by_cases e : j = i
        · rw [e, hb, hs]
        · exact ha j (by omega))
      omega
    | true =>
      have := y1 z hz (fun j hj => by
        by_cases e : j = i
        · rw [e, hb, tbi]
        · rw [ha j (by omega), tb j (by omega)])
      rw [nk_b hi hs hb]
      omega
  · rcases Nat.le_total x (y + 4096) with h | h
    · rw [Nat.min_eq_left h]
      rcases x2 with ⟨z, f1, f2, f3⟩ | x2
      · exact Or.inl ⟨z, f1, fun j hj => f2 j (by omega), f3⟩
      · exact Or.inr x2
    · rw [Nat.min_eq_right h]
      rcases y2 with ⟨z, f1, f2, f3⟩ | y2
      · refine Or.inl ⟨z, f1, fun j hj => by rw [f2 j (by omega), tb j hj], ?_⟩
        have hb : z.testBit i = true := by rw [f2 i (Nat.le_refl i), tbi]
        rw [nk_b hi hs hb, f3]
      · exact Or.inr (by omega)
  · omega
theorem NB_hi {T : TT} {i s x y : Nat} (hi : i < 12) (hs : s.testBit i = false) (hx : NB T i s x) (hy : NB T i (s ||| 2 ^ i) y) : NB T (i + 1) (s ||| 2 ^ i) (min y (x + 4096)) := by
  obtain ⟨x1, x2, x3⟩ := hx
  obtain ⟨y1, y2, y3⟩ := hy
  have tb : ∀ j, i + 1 ≤ j → (s ||| 2 ^ i).testBit j = s.testBit j := fun j hj => by
    rw [Nat.testBit_or, Nat.testBit_two_pow]
    simp
    omega
  have tbi : (s ||| 2 ^ i).testBit i = true := by simp [Nat.testBit_or, Nat.testBit_two_pow]
  refine ⟨fun z hz ha => ?_, ?_, ?_⟩
  · cases hb : z.testBit i with
    | true =>
      have := y1 z hz (fun j hj => by
        by_cases e : j = i
        · rw [e, hb, tbi]
        · exact ha j (by omega))
      omega
    | false =>
      have := x1 z hz (fun j hj => by
        by_cases e : j = i
        · rw [e, hb, hs]
        · rw [ha j (by omega), tb j (by omega)])
      rw [nk_a hi hs hb]
      omega
  · rcases Nat.le_total y (x + 4096) with h | h
    · rw [Nat.min_eq_left h]
      rcases y2 with ⟨z, f1, f2, f3⟩ | y2
      · exact Or.inl ⟨z, f1, fun j hj => f2 j (by omega), f3⟩
      · exact Or.inr y2
    · rw [Nat.min_eq_right h]
      rcases x2 with ⟨z, f1, f2, f3⟩ | x2
      · refine Or.inl ⟨z, f1, fun j hj => by rw [f2 j (by omega), tb j hj], ?_⟩
        have hb : z.testBit i = false := by rw [f2 i (Nat.le_refl i), hs]
        rw [nk_a hi hs hb, f3]
      · exact Or.inr (by omega)
  · omega
