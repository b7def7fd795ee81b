/-! THE MATHEMATICS of the worst: 12 questions are enough to begin with -/
theorem hm_tb {wt : Nat → Nat} {i f : Nat} : ∀ n, (hm wt i n).testBit f = true ↔ ∃ s, s < n ∧ 0 < wt s ∧ cnt (fun z => decide (0 < wt z)) s = f ∧ s.testBit i = true := by
  intro n
  induction n with
  | zero => simp [hm]
  | succ n ih =>
    rw [hm]
    split
    · rename_i h
      rw [Nat.testBit_or, Bool.or_eq_true, ih, Nat.testBit_two_pow, decide_eq_true_eq]
      constructor
      · rintro (⟨s, h1, h2⟩ | q)
        · exact ⟨s, by omega, h2⟩
        · exact ⟨n, by omega, h.1, q, h.2⟩
      · rintro ⟨s, h1, h2, h3, h4⟩
        by_cases e : s = n
        · subst e; exact Or.inr h3
        · exact Or.inl ⟨s, by omega, h2, h3, h4⟩
    · rename_i h
      rw [ih]
      constructor
      · rintro ⟨s, h1, h2⟩; exact ⟨s, by omega, h2⟩
      · rintro ⟨s, h1, h2, h3, h4⟩
        by_cases e : s = n
        · subst e; exact absurd ⟨h2, h4⟩ h
        · exact ⟨s, by omega, h2, h3, h4⟩
theorem cnt_inj {p : Nat → Bool} {a b : Nat} (ha : p a = true) (hb : p b = true) (h : cnt p a = cnt p b) : a = b := by
  rcases Nat.lt_trichotomy a b with e | e | e
  · have := cnt_mono p (show a + 1 ≤ b by omega)
    rw [cnt, if_pos ha] at this
    omega
  · exact e
  · have := cnt_mono p (show b + 1 ≤ a by omega)
    rw [cnt, if_pos hb] at this
    omega
/-- two places among those left: an item tells them apart -/
theorem hm_sep {T : TT} {wt : Nat → Nat} {f g : Nat} (hf : f < lf T wt) (hg : g < lf T wt) (h : f ≠ g) : ∃ i, i < tn T ∧ (hm wt i (2 ^ tn T)).testBit f ≠ (hm wt i (2 ^ tn T)).testBit g := by
  obtain ⟨a, a1, a2, a3⟩ := cnt_ex hf
  obtain ⟨b, b1, b2, b3⟩ := cnt_ex hg
  have hab : a ≠ b := fun e => by rw [e, b3] at a3; exact h a3.symm
  have hbit : ∀ (s : Nat) (f : Nat) (i : Nat), s < 2 ^ tn T → decide (0 < wt s) = true → cnt (fun s => decide (0 < wt s)) s = f → (hm wt i (2 ^ tn T)).testBit f = s.testBit i := fun s f i h1 h2 h3 => by
    rw [Bool.eq_iff_iff, hm_tb]
    constructor
    · rintro ⟨z, z1, z2, z3, z4⟩
      have := cnt_inj (p := fun s => decide (0 < wt s)) (a := z) (b := s) (by simpa using z2) h2 (by rw [z3, h3])
      rw [← this]; exact z4
    · intro q
      exact ⟨s, h1, by simpa using h2, h3, q⟩
  by_cases hx : ∃ i, i < tn T ∧ a.testBit i ≠ b.testBit i
  · obtain ⟨i, i1, i2⟩ := hx
    refine ⟨i, i1, ?_⟩
    rw [hbit a f i a1 a2 a3, hbit b g i b1 b2 b3]
    exact i2
  · exfalso
    apply hab
    apply Nat.eq_of_testBit_eq
    intro i
    rcases Nat.lt_or_ge i (tn T) with q | q
    · cases h1 : a.testBit i <;> cases h2 : b.testBit i <;> first | rfl | exact absurd ⟨i, q, by rw [h1, h2]; decide⟩ hx
    · rw [Nat.testBit_lt_two_pow (Nat.lt_of_lt_of_le a1 (Nat.pow_le_pow_right (by omega) q)), Nat.testBit_lt_two_pow (Nat.lt_of_lt_of_le b1 (Nat.pow_le_pow_right (by omega) q))]
/-- whether an item splits a part -/
def spl (H : Nat → Nat) (part i : Nat) : Bool := decide (¬ (part &&& H i = 0 ∨ dif part (H i) = 0))
theorem cnt_ltp {p q : Nat → Bool} {i : Nat} (h : ∀ j, p j = true → q j = true) (hp : p i = false) (hq : q i = true) : ∀ {n : Nat}, i < n → cnt p n < cnt q n := by
  intro n
  induction n with
  | zero => intro q; omega
  | succ n ih =>
    intro hi
    rw [cnt, cnt]
    by_cases e : i = n
    · subst e
      rw [hp, hq]
      have : cnt p i ≤ cnt q i := by
        clear ih hi hp hq
        induction i with
        | zero => exact Nat.le_refl 0
        | succ k ih2 =>
          rw [cnt, cnt]
          cases e : p k with
          | false => simp only [Bool.false_eq_true, if_false]; omega
          | true => rw [h k e]; simp only [if_true]; omega
      simp
      omega
    · have := ih (by omega)
      cases e2 : p n with
      | false => simp; omega
      | true => rw [h n e2]; simp; omega
theorem and_ne {a b : Nat} : ¬ a &&& b = 0 ↔ ∃ j, a.testBit j = true ∧ b.testBit j = true := by
  constructor
  · intro h
    obtain ⟨j, hj⟩ := Nat.exists_testBit_of_ne_zero h
    rw [Nat.testBit_and, Bool.and_eq_true] at hj
    exact ⟨j, hj⟩
  · rintro ⟨j, h1, h2⟩ q
    have := congrArg (fun z => z.testBit j) q
    simp [Nat.testBit_and, h1, h2] at this
theorem dif_ne {a b : Nat} : ¬ dif a b = 0 ↔ ∃ j, a.testBit j = true ∧ b.testBit j = false := by
  constructor
  · intro h
    obtain ⟨j, hj⟩ := Nat.exists_testBit_of_ne_zero h
    rw [dif_tb, Bool.and_eq_true, Bool.not_eq_true'] at hj
    exact ⟨j, hj⟩
  · rintro ⟨j, h1, h2⟩ q
    have := congrArg (fun z => z.testBit j) q
    simp [dif_tb, h1, h2] at this
theorem spl_iff {H : Nat → Nat} {part i : Nat} : spl H part i = true ↔ (∃ j, part.testBit j = true ∧ (H i).testBit j = true) ∧ ∃ j, part.testBit j = true ∧ (H i).testBit j = false := by
  unfold spl
  rw [decide_eq_true_eq, not_or, and_ne, dif_ne]
theorem spl_lt {H : Nat → Nat} {part i n r : Nat} (hi : i < n) (hs : spl H part i = true) (hr : ∀ j, r.testBit j = true → part.testBit j = true) (hno : (∀ j, r.testBit j = true → (H i).testBit j = true) ∨ ∀ j, r.testBit j = true → (H i).testBit j = false) : cnt (spl H r) n < cnt (spl H part) n := by
  refine cnt_ltp (i := i) (fun j hj => ?_) ?_ hs hi
  · rw [spl_iff] at *
    obtain ⟨⟨a, a1, a2⟩, ⟨b, b1, b2⟩⟩ := hj
    exact ⟨⟨a, hr a a1, a2⟩, ⟨b, hr b b1, b2⟩⟩
  · rw [Bool.eq_false_iff]
    intro q
    rw [spl_iff] at q
    obtain ⟨⟨a, a1, a2⟩, ⟨b, b1, b2⟩⟩ := q
    rcases hno with h | h
    · rw [h b b1] at b2; cases b2
    · rw [h a a1] at a2; cases a2
theorem fwU_at {H q : Nat → Nat} {st part i : Nat} (hs : spl H part i = true) : ∀ {n : Nat}, i < n → fwU H q st part n ≤ 1 + max (q (part &&& H i)) (q (dif part (H i))) := by
  intro n
  induction n with
  | zero => intro h; omega
  | succ n ih =>
    intro hi
    rw [fwU]
    by_cases e : i = n
    · subst e
      unfold spl at hs
      rw [if_neg (of_decide_eq_true hs)]
      exact Nat.min_le_right _ _
    · have := ih (by omega)
      split
      · exact this
      · exact Nat.le_trans (Nat.min_le_left _ _) this
theorem fwU_min {H q r : Nat → Nat} {part : Nat} (hq : ∀ z, z < part → q z = r z) : ∀ n, fwU H q 12 part n = min 12 (fwU H r 99 part n) := by
  intro n
  induction n with
  | zero => rfl
  | succ n ih =>
    rw [fwU, fwU]
    by_cases h : part &&& H n = 0 ∨ dif part (H n) = 0
    · rw [if_pos h, if_pos h, ih]
    · rw [if_neg h, if_neg h, ih]
      rw [not_or] at h
      rw [hq _ (and_dif h.2), hq _ (dif_and h.1)]
      omega
theorem qb_at {n st : Nat} {H : Nat → Nat} {z : Nat} : ∀ {k : Nat}, z < k → qb n H st k z = fw n H (qb n H st z) st z := by
  intro k
  induction k with
  | zero => intro h; omega
  | succ k ih =>
    intro h
    rw [qb, up_at]
    by_cases e : z = k
    · rw [if_pos e, e]
    · rw [if_neg e]
      exact ih (by omega)
theorem pop_2 {x : Nat} (hx : ∀ i, 12 ≤ i → x.testBit i = false) (h : ¬ pop x ≤ 1) : ∃ f g, f ≠ g ∧ x.testBit f = true ∧ x.testBit g = true := by
  unfold pop at h
  have key : ∀ n, 1 ≤ pcn x n → ∃ f, f < n ∧ x.testBit f = true := by
    intro n
    induction n with
    | zero => intro h; simp [pcn] at h
    | succ n ih =>
      intro h
      rw [pcn] at h
      cases e : x.testBit n with
      | true => exact ⟨n, by omega, e⟩
      | false =>
        rw [e] at h
        obtain ⟨f, f1, f2⟩ := ih h
        exact ⟨f, by omega, f2⟩
  have key2 : ∀ n, 2 ≤ pcn x n → ∃ f g, f < g ∧ x.testBit f = true ∧ x.testBit g = true := by
    intro n
    induction n with
    | zero => intro h; simp [pcn] at h
    | succ n ih =>
      intro h
      rw [pcn] at h
      cases e : x.testBit n with
      | true =>
        rw [e] at h
        obtain ⟨f, f1, f2⟩ := key n (by have : true.toNat = 1 := rfl
                                        omega)
        exact ⟨f, n, f1, f2, e⟩
      | false =>
        rw [e] at h
        exact ih h
  obtain ⟨f, g, h1, h2, h3⟩ := key2 12 (by omega)
  exact ⟨f, g, by omega, h2, h3⟩
theorem qb_12 {T : TT} {wt : Nat → Nat} (hT : okT T) (h10 : lf T wt ≤ 10) : ∀ z, z < 2 ^ lf T wt → ∀ k, z < k → qb (tn T) (fun i => hm wt i (2 ^ tn T)) 99 k z ≤ cnt (spl (fun i => hm wt i (2 ^ tn T)) z) (tn T) ∧ qb (tn T) (fun i => hm wt i (2 ^ tn T)) 12 k z = qb (tn T) (fun i => hm wt i (2 ^ tn T)) 99 k z := by
  have hsep := fun f g => hm_sep (T := T) (wt := wt) (f := f) (g := g)
  generalize hH : (fun i => hm wt i (2 ^ tn T)) = H at *
  have hn := hT.1
  intro z
  induction z using Nat.strongRecOn with
  | _ z ih =>
    intro hz k hk
    have hbit : ∀ i, lf T wt ≤ i → z.testBit i = false := fun i hi => Nat.testBit_lt_two_pow (Nat.lt_of_lt_of_le hz (Nat.pow_le_pow_right (by omega) hi))
    rw [qb_at hk, qb_at hk]
    unfold fw
    by_cases hp : pop z ≤ 1
    · rw [if_pos hp, if_pos hp]
      exact ⟨Nat.zero_le _, rfl⟩
    · rw [if_neg hp, if_neg hp]
      obtain ⟨f, g, f1, f2, f3⟩ := pop_2 (fun i hi => hbit i (by omega)) hp
      have hf : f < lf T wt := by
        rcases Nat.lt_or_ge f (lf T wt) with q | q
        · exact q
        · rw [hbit f q] at f2; cases f2
      have hg : g < lf T wt := by
        rcases Nat.lt_or_ge g (lf T wt) with q | q
        · exact q
        · rw [hbit g q] at f3; cases f3
      obtain ⟨i, i1, i2⟩ := hsep f g hf hg f1
      have eHi : hm wt i (2 ^ tn T) = H i := by rw [← hH]
      rw [eHi] at i2
      have hs : spl H z i = true := by
        rw [spl_iff]
        cases e1 : (H i).testBit f <;> cases e2 : (H i).testBit g
        · rw [e1, e2] at i2; exact absurd rfl i2
        · exact ⟨⟨g, f3, e2⟩, ⟨f, f2, e1⟩⟩
        · exact ⟨⟨f, f2, e1⟩, ⟨g, f3, e2⟩⟩
        · rw [e1, e2] at i2; exact absurd rfl i2
      have hs2 := hs
      unfold spl at hs2
      rw [decide_eq_true_eq, not_or] at hs2
      have l1 := and_dif hs2.2
      have l2 := dif_and hs2.1
      have c1 := (ih _ l1 (by omega) z l1).1
      have c2 := (ih _ l2 (by omega) z l2).1
      have d1 : cnt (spl H (z &&& H i)) (tn T) < cnt (spl H z) (tn T) := spl_lt i1 hs (fun j hj => by
        rw [Nat.testBit_and, Bool.and_eq_true] at hj; exact hj.1) (Or.inl (fun j hj => by
        rw [Nat.testBit_and, Bool.and_eq_true] at hj; exact hj.2))
      have d2 : cnt (spl H (dif z (H i))) (tn T) < cnt (spl H z) (tn T) := spl_lt i1 hs (fun j hj => by
        rw [dif_tb, Bool.and_eq_true] at hj; exact hj.1) (Or.inr (fun j hj => by
        rw [dif_tb, Bool.and_eq_true, Bool.not_eq_true'] at hj; exact hj.2))
      have hfw := fwU_at (q := qb (tn T) H 99 z) (st := 99) hs i1
      have hle : fwU H (qb (tn T) H 99 z) 99 z (tn T) ≤ cnt (spl H z) (tn T) := by omega
      refine ⟨hle, ?_⟩
      rw [fwU_min (r := qb (tn T) H 99 z) (fun y hy => (ih y hy (by omega) z hy).2)]
      have := cnt_le (spl H z) (tn T)
      omega
theorem wor_99 {T : TT} {wt : Nat → Nat} (hT : okT T) (h10 : lf T wt ≤ 10) : wor T wt 12 = wor T wt 99 := by
  unfold wor
  have := pw_pos (lf T wt)
  exact (qb_12 hT h10 _ (by omega) _ (by omega)).2
