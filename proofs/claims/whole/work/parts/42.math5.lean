/-! THE MATHEMATICS of lessons and of states: what the reference wants of them -/
theorem grp_eq {T : TT} {i k : Nat} (h : grp T i k = true) : grp T k = grp T i := by
  funext j
  rw [Bool.eq_iff_iff]
  unfold grp at *
  simp only [Bool.or_eq_true, Bool.and_eq_true, decide_eq_true_eq] at *
  rcases h with rfl | ⟨⟨a, b⟩, c⟩
  · exact Iff.rfl
  · constructor
    · rintro (rfl | ⟨⟨d, e⟩, f⟩)
      · exact Or.inr ⟨⟨a, b⟩, c⟩
      · exact Or.inr ⟨⟨a, e⟩, by omega⟩
    · rintro (rfl | ⟨⟨d, e⟩, f⟩)
      · exact Or.inr ⟨⟨b, a⟩, by omega⟩
      · exact Or.inr ⟨⟨b, e⟩, by omega⟩
theorem les_eq {T : TT} {i k : Nat} (h : (les T i).testBit k = true) : les T k = les T i := by
  rw [les_tb, Bool.and_eq_true] at h
  unfold les
  rw [grp_eq h.2]
theorem les_bit {T : TT} {i k : Nat} (h : (les T i).testBit k = true) : k < tn T := by
  rw [les_tb, Bool.and_eq_true, decide_eq_true_eq] at h
  exact h.1
/-- two lessons are the same or have nothing in common -/
theorem les_or_no {T : TT} (i k : Nat) : les T i = les T k ∨ ∀ j, (les T i).testBit j = true → (les T k).testBit j = false := by
  by_cases h : ∃ j, (les T i).testBit j = true ∧ (les T k).testBit j = true
  · obtain ⟨j, h1, h2⟩ := h
    exact Or.inl (by rw [← les_eq h1, ← les_eq h2])
  · refine Or.inr (fun j hj => ?_)
    cases e : (les T k).testBit j with
    | false => rfl
    | true => exact absurd ⟨j, hj, e⟩ h
theorem lea_iff {T : TT} {i : Nat} : lea T i = true ↔ ∀ j, j < i → (les T i).testBit j = false := by
  unfold lea
  rw [decide_eq_true_eq]
  constructor
  · intro h j hj
    have := congrArg (fun z => z.testBit j) h
    simp only [Nat.testBit_and, Nat.testBit_two_pow_sub_one, hj, decide_true, Bool.and_true, Nat.zero_testBit] at this
    exact this
  · intro h
    apply Nat.eq_of_testBit_eq
    intro j
    rw [Nat.testBit_and, Nat.testBit_two_pow_sub_one, Nat.zero_testBit]
    by_cases e : j < i
    · rw [h j e]; rfl
    · simp [e]
theorem les_lead {T : TT} {i : Nat} (hi : i < tn T) : ∃ m, m ≤ i ∧ m < tn T ∧ les T m = les T i ∧ lea T m = true ∧ (les T i).testBit m = true := by
  have key : ∀ d m, m ≤ d → (les T i).testBit m = true → ∃ m', m' ≤ m ∧ les T m' = les T i ∧ lea T m' = true ∧ (les T i).testBit m' = true := by
    intro d
    induction d with
    | zero =>
      intro m hm h
      exact ⟨m, Nat.le_refl m, les_eq h, lea_iff.mpr (fun j hj => by omega), h⟩
    | succ d ih =>
      intro m hm h
      by_cases hx : ∃ j, j < m ∧ (les T i).testBit j = true
      · obtain ⟨j, h1, h2⟩ := hx
        obtain ⟨m', a, b⟩ := ih j (by omega) h2
        exact ⟨m', by omega, b⟩
      · refine ⟨m, Nat.le_refl m, les_eq h, lea_iff.mpr (fun j hj => ?_), h⟩
        rw [les_eq h]
        cases e : (les T i).testBit j with
        | false => rfl
        | true => exact absurd ⟨j, hj, e⟩ hx
  obtain ⟨m, h1, h2, h3, h4⟩ := key i i (Nat.le_refl i) (les_self hi)
  exact ⟨m, h1, by omega, h2, h3, h4⟩
/-- two leading items of one lesson are the same -/
theorem lead_one {T : TT} {i k : Nat} (hi : i < tn T) (hk : k < tn T) (h1 : lea T i = true) (h2 : lea T k = true) (h : les T i = les T k) : i = k := by
  have a := lea_iff.mp h1
  have b := lea_iff.mp h2
  rcases Nat.lt_trichotomy i k with e | e | e
  · have := b i e
    rw [← h, les_self hi] at this
    cases this
  · exact e
  · have := a k e
    rw [h, les_self hk] at this
    cases this
theorem allO_tb {T : TT} {L j : Nat} : ∀ k, (allO T L k).testBit j = true ↔ ∃ i, i < k ∧ L.testBit i = true ∧ (les T i).testBit j = true := by
  intro k
  induction k with
  | zero => simp [allO]
  | succ k ih =>
    rw [allO]
    split
    · rename_i h
      rw [Nat.testBit_or, Bool.or_eq_true, ih]
      constructor
      · rintro (⟨i, h1, h2⟩ | h2)
        · exact ⟨i, by omega, h2⟩
        · exact ⟨k, by omega, h, h2⟩
      · rintro ⟨i, h1, h2, h3⟩
        by_cases e : i = k
        · subst e; exact Or.inr h3
        · exact Or.inl ⟨i, by omega, h2, h3⟩
    · rename_i h
      rw [ih]
      constructor
      · rintro ⟨i, h1, h2⟩
        exact ⟨i, by omega, h2⟩
      · rintro ⟨i, h1, h2, h3⟩
        by_cases e : i = k
        · subst e; exact absurd h2 h
        · exact ⟨i, by omega, h2, h3⟩
/-- all lessons with p, told by all of their items -/
def allP (T : TT) (p : Nat → Bool) : Nat → Nat
  | 0 => 0
  | k + 1 => if p k = true then allP T p k ||| les T k else allP T p k
theorem allP_tb {T : TT} {p : Nat → Bool} {j : Nat} : ∀ k, (allP T p k).testBit j = true ↔ ∃ i, i < k ∧ p i = true ∧ (les T i).testBit j = true := by
  intro k
  induction k with
  | zero => simp [allP]
  | succ k ih =>
    rw [allP]
    split
    · rename_i h
      rw [Nat.testBit_or, Bool.or_eq_true, ih]
      constructor
      · rintro (⟨i, h1, h2⟩ | h2)
        · exact ⟨i, by omega, h2⟩
        · exact ⟨k, by omega, h, h2⟩
      · rintro ⟨i, h1, h2, h3⟩
        by_cases e : i = k
        · subst e; exact Or.inr h3
        · exact Or.inl ⟨i, by omega, h2, h3⟩
    · rename_i h
      rw [ih]
      constructor
      · rintro ⟨i, h1, h2⟩
        exact ⟨i, by omega, h2⟩
      · rintro ⟨i, h1, h2, h3⟩
        by_cases e : i = k
        · subst e; exact absurd h2 h
        · exact ⟨i, by omega, h2, h3⟩
theorem allP_lt {T : TT} {p : Nat → Bool} : ∀ k, allP T p k < 2 ^ tn T := by
  intro k
  induction k with
  | zero => exact pw_pos _
  | succ k ih =>
    rw [allP]
    split
    · exact or_lt ih (les_lt k)
    · exact ih
/-- a property of lessons: by the leading items alone it is the same -/
theorem allP_O {T : TT} {p q : Nat → Bool} (hq : ∀ i, i < tn T → q i = (lea T i && p i)) (hp : ∀ i k, i < tn T → k < tn T → les T i = les T k → p i = p k) : allP T p (tn T) = allO T (mask q (tn T)) (tn T) := by
  apply Nat.eq_of_testBit_eq
  intro j
  rw [Bool.eq_iff_iff, allP_tb, allO_tb]
  constructor
  · rintro ⟨i, h1, h2, h3⟩
    obtain ⟨m, a, b, c, d, e⟩ := les_lead h1
    refine ⟨m, b, ?_, by rw [c]; exact h3⟩
    rw [mask_tb, hq m b, d, hp m i b h1 c, h2]
    simp [b]
  · rintro ⟨i, h1, h2, h3⟩
    rw [mask_tb, Bool.and_eq_true, hq i h1, Bool.and_eq_true] at h2
    exact ⟨i, h1, h2.2.2, h3⟩
theorem next_O {T : TT} {s : Nat} : allP T (fun i => fit T (les T i) s) (tn T) = allO T (nx T s) (tn T) :=
  allP_O (q := nxt T s) (fun i _ => rfl) (fun i k _ _ h => by rw [h])
/-- whether the lesson of an item is a last one -/
def lsI (T : TT) (s i : Nat) : Bool := sub (les T i) s && (isSt T (dif s (les T i)) && fit T (les T i) (dif s (les T i)))
theorem lst_I {T : TT} {s i : Nat} : lst T s i = (lea T i && lsI T s i) := by
  unfold lst lsI nxt
  cases lea T i <;> simp
theorem last_O {T : TT} {s : Nat} : allP T (lsI T s) (tn T) = allO T (lstM T s) (tn T) :=
  allP_O (q := lst T s) (fun i _ => lst_I) (fun i k _ _ h => by unfold lsI; rw [h])
/-- what fits a set and is not in a greater one fits that -/
theorem sub_t {a b c : Nat} (h1 : sub a b = true) (h2 : sub b c = true) : sub a c = true := by
  rw [sub_tb] at *
  exact fun i hi => h2 i (h1 i hi)
theorem sub_r {a : Nat} : sub a a = true := sub_tb.mpr (fun _ h => h)
theorem sub_as {a b : Nat} (h1 : sub a b = true) (h2 : sub b a = true) : a = b := by
  rw [sub_tb] at *
  apply Nat.eq_of_testBit_eq
  intro i
  rw [Bool.eq_iff_iff]
  exact ⟨h1 i, h2 i⟩
theorem sub_ol {a b : Nat} : sub a (a ||| b) = true := sub_tb.mpr (fun i h => by rw [Nat.testBit_or, h]; rfl)
theorem sub_or {a b : Nat} : sub b (a ||| b) = true := sub_tb.mpr (fun i h => by rw [Nat.testBit_or, h, Bool.or_true])
theorem sub_oo {a b c d : Nat} (h1 : sub a c = true) (h2 : sub b d = true) : sub (a ||| b) (c ||| d) = true := by
  rw [sub_tb] at *
  intro i h
  rw [Nat.testBit_or, Bool.or_eq_true] at *
  exact h.imp (h1 i) (h2 i)
theorem srv_mono {T : TT} {i s t : Nat} (h : sub s t = true) (hs : srv T i s = true) : srv T i t = true := by
  unfold srv at *
  rw [Bool.or_eq_true] at *
  refine hs.imp (fun q => sub_t q h) (fun q => ?_)
  obtain ⟨k, h1, h2, h3⟩ := (anyF_sp _ _ _).mp q
  exact (anyF_sp _ _ _).mpr ⟨k, h1, h2, sub_t h3 h⟩
theorem fit_iff {T : TT} {l s : Nat} : fit T l s = true ↔ l &&& s = 0 ∧ ∀ k, k < tn T → l.testBit k = true → srv T k (s ||| l) = true := by
  unfold fit
  rw [Bool.and_eq_true, decide_eq_true_eq, Bool.not_eq_true', Bool.eq_false_iff]
  refine and_congr Iff.rfl ?_
  constructor
  · intro h k hk hb
    cases e : srv T k (s ||| l) with
    | true => rfl
    | false => exact absurd ((anyF_sp _ _ _).mpr ⟨k, by omega, by omega, by simp [hb, e]⟩) h
  · intro h q
    obtain ⟨k, h1, h2, h3⟩ := (anyF_sp _ _ _).mp q
    rw [Bool.and_eq_true] at h3
    rw [h k (by omega) h3.1] at h3
    simp at h3
theorem fit_mono {T : TT} {l s t : Nat} (h : sub s t = true) (hd : l &&& t = 0) (hf : fit T l s = true) : fit T l t = true := by
  rw [fit_iff] at *
  exact ⟨hd, fun k hk hb => srv_mono (sub_oo h sub_r) (hf.2 k hk hb)⟩
/-- a state has all of a lesson, or nothing -/
theorem st_les {T : TT} {z : Nat} (h : isSt T z = true) : ∀ i k, i < tn T → (les T i).testBit k = true → z.testBit k = z.testBit i := by
  induction z using Nat.strongRecOn with
  | _ z ih =>
    intro i k hi hk
    have hk2 := les_bit hk
    rcases st_step.mp h with rfl | ⟨s, j, h1, h2, h3, h4, rfl⟩
    · unfold bot
      rw [mask_tb, mask_tb]
      rw [les_tb, Bool.and_eq_true] at hk
      have g := hk.2
      unfold grp at g
      simp only [Bool.or_eq_true, Bool.and_eq_true, decide_eq_true_eq] at g
      rcases g with rfl | ⟨⟨a, b⟩, c⟩
      · rfl
      · simp [a, b]
    · rw [Nat.testBit_or, Nat.testBit_or, ih s h1 h3 i k hi hk]
      have : (les T j).testBit k = (les T j).testBit i := by
        rcases les_or_no (T := T) i j with e | e
        · rw [← e, hk, les_self hi]
        · rw [e k hk, e i (les_self hi)]
      rw [this]
theorem st_dis {T : TT} {z i : Nat} (h : isSt T z = true) (hi : i < tn T) : sub (les T i) z = true ∨ les T i &&& z = 0 := by
  cases e : z.testBit i with
  | true =>
    left
    rw [sub_tb]
    intro k hk
    rw [st_les h i k hi hk, e]
  | false =>
    right
    apply Nat.eq_of_testBit_eq
    intro k
    rw [Nat.testBit_and, Nat.zero_testBit]
    cases hk : (les T i).testBit k with
    | false => rfl
    | true => rw [st_les h i k hi hk, e]; rfl
theorem dif_or {s l : Nat} (h : l &&& s = 0) : dif (s ||| l) l = s := by
  apply Nat.eq_of_testBit_eq
  intro j
  have := congrArg (fun z => z.testBit j) h
  simp only [Nat.testBit_and, Nat.zero_testBit] at this
  rw [dif_tb, Nat.testBit_or]
  revert this
  cases s.testBit j <;> cases l.testBit j <;> simp
theorem or_dif {s l : Nat} (h : sub l s = true) : dif s l ||| l = s := by
  apply Nat.eq_of_testBit_eq
  intro j
  have := sub_tb.mp h j
  rw [Nat.testBit_or, dif_tb]
  revert this
  cases s.testBit j <;> cases l.testBit j <;> simp
theorem nxt_st {T : TT} {s i : Nat} (hi : i < tn T) (hs : isSt T s = true) (h : nxt T s i = true) : isSt T (s ||| les T i) = true :=
  st_step.mpr (Or.inr ⟨s, i, nxt_gt hi h, hi, hs, h, rfl⟩)
/-- states with one another: the union is a state; and where it is more than the first, it has a last lesson with nothing of the first -/
theorem st_or {T : TT} {t : Nat} (ht : isSt T t = true) {s : Nat} (hs : isSt T s = true) : isSt T (t ||| s) = true ∧ (t ||| s = t ∨ ∃ j, j < tn T ∧ lst T (t ||| s) j = true ∧ les T j &&& t = 0) := by
  induction s using Nat.strongRecOn with
  | _ s ih =>
    rcases st_step.mp hs with rfl | ⟨u, j, h1, h2, h3, h4, rfl⟩
    · have e : t ||| bot T = t := sub_as (by
        rw [sub_tb]
        intro i hi
        rw [Nat.testBit_or, Bool.or_eq_true] at hi
        exact hi.elim id (fun q => sub_tb.mp (st_sup ht) i q)) sub_ol
      rw [e]
      exact ⟨ht, Or.inl rfl⟩
    · obtain ⟨a, b⟩ := ih u h1 h3
      rw [← Nat.or_assoc]
      rcases st_dis a h2 with e | e
      · have e2 : t ||| u ||| les T j = t ||| u := sub_as (by
          rw [sub_tb] at e ⊢
          intro i hi
          rw [Nat.testBit_or, Bool.or_eq_true] at hi
          exact hi.elim id (e i)) sub_ol
        rw [e2]
        exact ⟨a, b⟩
      · have h4' := h4
        unfold nxt at h4'
        rw [Bool.and_eq_true] at h4'
        have hf : nxt T (t ||| u) j = true := by
          unfold nxt
          rw [h4'.1, fit_mono sub_or e h4'.2]; rfl
        refine ⟨nxt_st h2 a hf, Or.inr ⟨j, h2, ?_, ?_⟩⟩
        · unfold lst
          rw [dif_or e, a, hf, h4'.1, sub_or]; rfl
        · apply Nat.eq_of_testBit_eq
          intro i
          have := congrArg (fun z => z.testBit i) e
          simp only [Nat.testBit_and, Nat.testBit_or, Nat.zero_testBit] at this ⊢
          revert this
          cases (les T j).testBit i <;> cases t.testBit i <;> simp
theorem pcn_0i {x : Nat} : ∀ {n : Nat}, pcn x n = 0 ↔ ∀ i, i < n → x.testBit i = false := by
  intro n
  induction n with
  | zero => simp [pcn]
  | succ n ih =>
    rw [pcn, Nat.add_eq_zero_iff, ih]
    constructor
    · rintro ⟨h1, h2⟩ i hi
      by_cases e : i = n
      · subst e
        cases h : x.testBit i with
        | false => rfl
        | true => rw [h] at h2; cases h2
      · exact h1 i (by omega)
    · intro h
      exact ⟨fun i hi => h i (by omega), by rw [h n (by omega)]; rfl⟩
theorem pcn_1i {x : Nat} : ∀ {n : Nat}, pcn x n = 1 ↔ ∃ i, i < n ∧ x.testBit i = true ∧ ∀ j, j < n → x.testBit j = true → j = i := by
  intro n
  induction n with
  | zero =>
    simp [pcn]
  | succ n ih =>
    rw [pcn]
    cases h : x.testBit n with
    | false =>
      rw [show pcn x n + false.toNat = pcn x n from rfl, ih]
      constructor
      · rintro ⟨i, h1, h2, h3⟩
        refine ⟨i, by omega, h2, fun j hj hb => ?_⟩
        by_cases e : j = n
        · rw [e, h] at hb; cases hb
        · exact h3 j (by omega) hb
      · rintro ⟨i, h1, h2, h3⟩
        have : i ≠ n := fun e => by rw [e, h] at h2; cases h2
        exact ⟨i, by omega, h2, fun j hj hb => h3 j (by omega) hb⟩
    | true =>
      rw [show pcn x n + true.toNat = pcn x n + 1 from rfl]
      constructor
      · intro e
        have e0 : pcn x n = 0 := by omega
        rw [pcn_0i] at e0
        refine ⟨n, by omega, h, fun j hj hb => ?_⟩
        by_cases q : j = n
        · exact q
        · rw [e0 j (by omega)] at hb; cases hb
      · rintro ⟨i, h1, h2, h3⟩
        have := h3 n (by omega) h
        subst this
        have e0 : pcn x n = 0 := pcn_0i.mpr (fun j hj => by
          cases hb : x.testBit j with
          | false => rfl
          | true => have := h3 j (by omega) hb; omega)
        omega
theorem pop_1 {x : Nat} (hx : x < 4096) : pop x = 1 ↔ ∃ i, x.testBit i = true ∧ ∀ j, x.testBit j = true → j = i := by
  unfold pop
  rw [pcn_1i]
  have hb : ∀ j, x.testBit j = true → j < 12 := fun j hj => by
    rcases Nat.lt_or_ge j 12 with h | h
    · exact h
    · rw [Nat.testBit_lt_two_pow (Nat.lt_of_lt_of_le hx (show 4096 ≤ 2 ^ j from Nat.pow_le_pow_right (n := 2) (by omega) h))] at hj
      cases hj
  constructor
  · rintro ⟨i, h1, h2, h3⟩
    exact ⟨i, h2, fun j hj => h3 j (hb j hj) hj⟩
  · rintro ⟨i, h2, h3⟩
    exact ⟨i, hb i h2, h2, fun j _ hj => h3 j hj⟩
theorem lst_sp {T : TT} {z i : Nat} (h : lst T z i = true) : lea T i = true ∧ sub (les T i) z = true ∧ isSt T (dif z (les T i)) = true ∧ nxt T (dif z (les T i)) i = true := by
  unfold lst at h
  simp only [Bool.and_eq_true] at h
  exact ⟨h.1, h.2.1, h.2.2.1, h.2.2.2⟩
theorem lstM_tb {T : TT} {z i : Nat} : (lstM T z).testBit i = true ↔ i < tn T ∧ lst T z i = true := by
  unfold lstM
  rw [mask_tb, Bool.and_eq_true, decide_eq_true_eq]
theorem dif_ltl {T : TT} {z i : Nat} (hi : i < tn T) (h : sub (les T i) z = true) : dif z (les T i) < z := by
  rcases Nat.lt_or_ge (dif z (les T i)) z with q | q
  · exact q
  · have e : dif z (les T i) = z := Nat.le_antisymm dif_le q
    have := congrArg (fun y => y.testBit i) e
    simp [dif_tb, les_self hi, sub_tb.mp h i (les_self hi)] at this
theorem base_iff {T : TT} {z U : Nat} (hT : okT T) (hz : isSt T z = true) (hU : ∀ j, U.testBit j = true ↔ ∃ y, isSt T y = true ∧ sub y z = true ∧ y < z ∧ y.testBit j = true) : (¬ z = bot T ∧ ¬ U = z) ↔ pop (lstM T z) = 1 := by
  rw [pop_1 (lstM_lt hT z)]
  constructor
  · rintro ⟨hb, hu⟩
    rcases st_step.mp hz with e | ⟨s, i, h1, h2, h3, h4, h5⟩
    · exact absurd e hb
    · have h4' := h4
      unfold nxt at h4'
      rw [Bool.and_eq_true, fit_iff] at h4'
      have hl : lst T z i = true := by
        unfold lst
        rw [h5, dif_or h4'.2.1, h3, h4, h4'.1, sub_or]; rfl
      refine ⟨i, lstM_tb.mpr ⟨h2, hl⟩, fun k hk => ?_⟩
      obtain ⟨k1, k2⟩ := lstM_tb.mp hk
      by_cases hki : k = i
      · exact hki
      · exfalso
        obtain ⟨a1, a2, a3, a4⟩ := lst_sp hl
        obtain ⟨b1, b2, b3, b4⟩ := lst_sp k2
        have hdis : ∀ j, (les T i).testBit j = true → (les T k).testBit j = false := by
          rcases les_or_no (T := T) i k with e | e
          · exact absurd (lead_one h2 k1 a1 b1 e).symm hki
          · exact e
        refine hu (sub_as (sub_tb.mpr (fun j hj => ?_)) (sub_tb.mpr (fun j hj => ?_)))
        · obtain ⟨y, -, y2, -, y4⟩ := (hU j).mp hj
          exact sub_tb.mp y2 j y4
        · rw [hU]
          cases e : (les T i).testBit j with
          | true => exact ⟨dif z (les T k), b3, dif_sub, dif_ltl k1 b2, by rw [dif_tb, hj, hdis j e]; rfl⟩
          | false => exact ⟨dif z (les T i), a3, dif_sub, dif_ltl h2 a2, by rw [dif_tb, hj, e]; rfl⟩
  · rintro ⟨i, h1, h2⟩
    obtain ⟨k1, k2⟩ := lstM_tb.mp h1
    obtain ⟨a1, a2, a3, a4⟩ := lst_sp k2
    have hi := sub_tb.mp a2 i (les_self k1)
    refine ⟨fun e => ?_, fun e => ?_⟩
    · have := sub_tb.mp (st_sup a3) i (by rw [← e]; exact hi)
      rw [dif_tb, les_self k1] at this
      simp at this
    · rw [← e, hU i] at hi
      obtain ⟨y, y1, y2, y3, y4⟩ := hi
      have e2 : y ||| z = z := sub_as (sub_tb.mpr (fun j hj => by
        rw [Nat.testBit_or, Bool.or_eq_true] at hj
        exact hj.elim (sub_tb.mp y2 j) id)) sub_or
      rcases (st_or y1 hz).2 with q | ⟨j, q1, q2, q3⟩
      · omega
      · rw [e2] at q2
        have := h2 j (lstM_tb.mpr ⟨q1, q2⟩)
        subst this
        have := congrArg (fun x => x.testBit j) q3
        simp [Nat.testBit_and, les_self q1, y4] at this
theorem odd_part : ∀ s : Nat, 0 < s → ∃ b q, s = 2 ^ b * q ∧ q % 2 = 1 := by
  intro s
  induction s using Nat.strongRecOn with
  | _ s ih =>
    intro h
    by_cases e : s % 2 = 1
    · exact ⟨0, s, by omega, e⟩
    · obtain ⟨b, q, h1, h2⟩ := ih (s / 2) (by omega) (by omega)
      refine ⟨b + 1, q, ?_, h2⟩
      rw [Nat.pow_succ, Nat.mul_right_comm, ← h1]
      omega
/-- the sets within a set: the one before -/
theorem sub_next {m s z : Nat} (hs : sub s m = true) (hz : sub z m = true) (h : z < s) : z ≤ (s - 1) &&& m := by
  obtain ⟨b, q, rfl, hq⟩ := odd_part s (by omega)
  have hP := pw_pos b
  have e1 : 2 ^ b * q - 1 = 2 ^ b * (q - 1) + (2 ^ b - 1) := by
    obtain ⟨k, rfl⟩ : ∃ k, q = k + 1 := ⟨q - 1, by omega⟩
    rw [Nat.add_sub_cancel, Nat.mul_succ]
    omega
  have hzq : z / 2 ^ b ≤ q - 1 := by
    have : z / 2 ^ b < q := (Nat.div_lt_iff_lt_mul hP).mpr (by rw [Nat.mul_comm]; exact h)
    omega
  have hz2 : z = 2 ^ b * (z / 2 ^ b) + z % 2 ^ b := (Nat.div_add_mod z (2 ^ b)).symm
  have hm : z % 2 ^ b ≤ m % 2 ^ b := sub_le (by
    rw [sub_tb] at *
    intro i hi
    rw [Nat.testBit_mod_two_pow, Bool.and_eq_true] at *
    exact ⟨hi.1, hz i hi.2⟩)
  have h2 : 2 ^ b * (q - 1) + m % 2 ^ b ≤ (2 ^ b * q - 1) &&& m := sub_le (by
    rw [sub_tb]
    intro i hi
    rw [Nat.testBit_and, e1]
    have lm : m % 2 ^ b < 2 ^ b := Nat.mod_lt _ hP
    rw [Nat.testBit_two_pow_mul_add _ lm] at hi
    rw [Nat.testBit_two_pow_mul_add _ (by omega)]
    by_cases c : i < b
    · rw [if_pos c] at hi ⊢
      rw [Nat.testBit_mod_two_pow, Bool.and_eq_true] at hi
      rw [Nat.testBit_two_pow_sub_one, hi.2]
      simp [c]
    · rw [if_neg c] at hi ⊢
      rw [hi, Bool.true_and]
      refine sub_tb.mp hs i ?_
      have e3 : 2 ^ b * q = 2 ^ b * q + 0 := rfl
      rw [e3, Nat.testBit_two_pow_mul_add _ hP, if_neg c]
      obtain ⟨k, rfl⟩ : ∃ k, q = 2 * k + 1 := ⟨q / 2, by omega⟩
      rw [Nat.add_sub_cancel] at hi
      cases hj : i - b with
      | zero => rw [hj] at hi; simp at hi
      | succ j =>
        rw [hj, Nat.testBit_succ] at hi
        rw [Nat.testBit_succ]
        rw [show (2 * k + 1) / 2 = 2 * k / 2 by omega]
        exact hi)
  have h3 : 2 ^ b * (z / 2 ^ b) ≤ 2 ^ b * (q - 1) := Nat.mul_le_mul_left _ hzq
  omega
theorem fst_or {p q : Nat → Bool} {b j : Nat} : ∀ n, (fst p (fun a z => if q z = true then a ||| z else a) b n).testBit j = true ↔ b.testBit j = true ∨ ∃ z, z < n ∧ p z = true ∧ q z = true ∧ z.testBit j = true := by
  intro n
  induction n with
  | zero => simp [fst]
  | succ n ih =>
    rw [fst]
    have ex : (∃ z, z < n + 1 ∧ p z = true ∧ q z = true ∧ z.testBit j = true) ↔ (∃ z, z < n ∧ p z = true ∧ q z = true ∧ z.testBit j = true) ∨ (p n = true ∧ q n = true ∧ n.testBit j = true) := by
      constructor
      · rintro ⟨z, h1, h2⟩
        by_cases e : z = n
        · subst e; exact Or.inr h2
        · exact Or.inl ⟨z, by omega, h2⟩
      · rintro (⟨z, h1, h2⟩ | h2)
        · exact ⟨z, by omega, h2⟩
        · exact ⟨n, by omega, h2⟩
    rw [ex, ← or_assoc, ← ih]
    split
    · rename_i h1
      split
      · rename_i h2
        rw [Nat.testBit_or, Bool.or_eq_true]
        simp [h1, h2]
      · rename_i h2
        simp [h2]
    · rename_i h1
      simp [h1]
/-- the union of states of a set, if there are any -/
def isC (T : TT) (s : Nat) (o : Option Nat) : Prop := match o with
  | none => ∀ z, isSt T z = true → sub z s = true → False
  | some a => (∃ z, isSt T z = true ∧ sub z s = true) ∧ ∀ j, a.testBit j = true ↔ ∃ z, isSt T z = true ∧ sub z s = true ∧ z.testBit j = true
theorem cor_of {T : TT} {s : Nat} {o : Option Nat} (h : isC T s o) : cor T s = o := by
  unfold cor
  cases o with
  | none =>
    rw [if_neg (fun q => h _ (st_bot T) q)]
  | some a =>
    obtain ⟨⟨z, h1, h2⟩, h3⟩ := h
    have hb : sub (bot T) s = true := sub_t (st_sup h1) h2
    rw [if_pos hb, Option.some.injEq]
    apply Nat.eq_of_testBit_eq
    intro j
    rw [Bool.eq_iff_iff, h3, fst_or]
    constructor
    · rintro (q | ⟨z, q1, q2, q3, q4⟩)
      · exact ⟨bot T, st_bot T, hb, q⟩
      · exact ⟨z, q2, q3, q4⟩
    · rintro ⟨z, q1, q2, q3⟩
      exact Or.inr ⟨z, isSt_lt q1, q1, q2, q3⟩
