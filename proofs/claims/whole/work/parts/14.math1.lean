/-! THE MATHEMATICS: sets as numbers, items, lessons, what fits -/
def sub (a b : Nat) : Bool := decide (dif a b = 0)
theorem sub_tb {a b : Nat} : sub a b = true ↔ ∀ i, a.testBit i = true → b.testBit i = true := by
  unfold sub
  rw [decide_eq_true_eq]
  constructor
  · intro h i hi
    have := congrArg (fun z => z.testBit i) h
    simp only [dif_tb, Nat.zero_testBit, hi, Bool.true_and, Bool.not_eq_false'] at this
    exact this
  · intro h
    apply Nat.eq_of_testBit_eq
    intro i
    rw [dif_tb, Nat.zero_testBit]
    cases e : a.testBit i with
    | false => rfl
    | true => rw [h i e]; rfl
theorem sub_and {a b : Nat} : sub a b = decide (b &&& a = a) := by
  rw [Bool.eq_iff_iff, sub_tb, decide_eq_true_eq]
  constructor
  · intro h
    apply Nat.eq_of_testBit_eq
    intro i
    rw [Nat.testBit_and]
    cases e : a.testBit i with
    | false => simp
    | true => rw [h i e]; rfl
  · intro h i hi
    have := congrArg (fun z => z.testBit i) h
    simpa [Nat.testBit_and, hi] using this
theorem pw_le {n : Nat} (h : n ≤ 12) : 2 ^ n ≤ 4096 := Nat.pow_le_pow_right (n := 2) (by omega) h
theorem pw_lt {i n : Nat} (h : i < n) : 2 ^ i < 2 ^ n := Nat.pow_lt_pow_right (by omega) h
theorem pw_pos (n : Nat) : 0 < 2 ^ n := Nat.two_pow_pos n
theorem or_lt {a b n : Nat} (ha : a < 2 ^ n) (hb : b < 2 ^ n) : a ||| b < 2 ^ n := Nat.or_lt_two_pow ha hb
theorem sub_le {a b : Nat} (h : sub a b = true) : a ≤ b := by
  have e : a ||| b = b := by
    apply Nat.eq_of_testBit_eq
    intro i
    rw [Nat.testBit_or]
    cases e : a.testBit i with
    | false => simp
    | true => rw [sub_tb.mp h i e]; rfl
  rw [← e]
  exact Nat.left_le_or
theorem dif_sub {a b : Nat} : sub (dif a b) a = true := by
  rw [sub_tb]
  intro i hi
  rw [dif_tb, Bool.and_eq_true] at hi
  exact hi.1
theorem dif_le {a b : Nat} : dif a b ≤ a := sub_le dif_sub
/-- the set of all k below n with p -/
def mask (p : Nat → Bool) : Nat → Nat
  | 0 => 0
  | k + 1 => mask p k ||| (if p k then 2 ^ k else 0)
theorem mask_tb (p : Nat → Bool) : ∀ n i, (mask p n).testBit i = (decide (i < n) && p i) := by
  intro n
  induction n with
  | zero => intro i; simp [mask]
  | succ n ih =>
    intro i
    rw [mask, Nat.testBit_or, ih]
    by_cases e : i = n
    · subst e
      cases h : p i <;> simp [h, Nat.testBit_two_pow]
    · have : (if p n = true then 2 ^ n else 0 : Nat).testBit i = false := by
        split
        · rw [Nat.testBit_two_pow]; simp; omega
        · simp
      rw [this, Bool.or_false]
      by_cases h : i < n
      · simp [h, Nat.lt_succ_of_lt h]
      · simp [h, show ¬ i < n + 1 by omega]
theorem mask_lt (p : Nat → Bool) (n : Nat) : mask p n < 2 ^ n := by
  apply Nat.lt_pow_two_of_testBit
  intro i hi
  rw [mask_tb]
  simp
  omega
theorem mask_cong {p q : Nat → Bool} {n : Nat} (h : ∀ i, i < n → p i = q i) : mask p n = mask q n := by
  apply Nat.eq_of_testBit_eq
  intro i
  rw [mask_tb, mask_tb]
  by_cases e : i < n
  · rw [h i e]
  · simp [e]
/-- whether one of k, k + 1 .. (d of them) has p -/
def anyF (p : Nat → Bool) : Nat → Nat → Bool
  | 0, _ => false
  | d + 1, k => p k || anyF p d (k + 1)
theorem anyF_sp (p : Nat → Bool) : ∀ d k, anyF p d k = true ↔ ∃ i, k ≤ i ∧ i < k + d ∧ p i = true := by
  intro d
  induction d with
  | zero => intro k; simp [anyF]; intro i h1 h2; omega
  | succ d ih =>
    intro k
    rw [anyF, Bool.or_eq_true, ih]
    constructor
    · rintro (h | ⟨i, h1, h2, h3⟩)
      · exact ⟨k, Nat.le_refl k, by omega, h⟩
      · exact ⟨i, by omega, by omega, h3⟩
    · rintro ⟨i, h1, h2, h3⟩
      by_cases e : i = k
      · subst e; exact Or.inl h3
      · exact Or.inr ⟨i, by omega, by omega, h3⟩
theorem anyF_cong {p q : Nat → Bool} : ∀ {d k : Nat}, (∀ i, k ≤ i → i < k + d → p i = q i) → anyF p d k = anyF q d k := by
  intro d
  induction d with
  | zero => intro k h; rfl
  | succ d ih =>
    intro k h
    rw [anyF, anyF, h k (Nat.le_refl k) (by omega), ih (fun i h1 h2 => h i (by omega) (by omega))]
/-- items: how many; kind, needs, extra, hours, how many other sets, those -/
abbrev TT : Type := Nat × (Nat → Nat) × (Nat → Nat) × (Nat → Nat) × (Nat → Nat) × (Nat → Nat) × (Nat → Nat → Nat)
def tn (T : TT) : Nat := T.1
def tk (T : TT) : Nat → Nat := T.2.1
def td (T : TT) : Nat → Nat := T.2.2.1
def tx (T : TT) : Nat → Nat := T.2.2.2.1
def th (T : TT) : Nat → Nat := T.2.2.2.2.1
def tm (T : TT) : Nat → Nat := T.2.2.2.2.2.1
def to (T : TT) : Nat → Nat → Nat := T.2.2.2.2.2.2
def okT (T : TT) : Prop := tn T ≤ 12 ∧ ∀ i, i < tn T → tk T i ≤ 4 ∧ td T i < 4096 ∧ tx T i ≤ 50 ∧ 1 ≤ th T i ∧ th T i ≤ 100 ∧ tm T i ≤ 4 ∧ (∀ k, k < tm T i → to T i k < 4096) ∧ (tk T i = 4 → td T i = 0) ∧ (¬ tk T i = 1 → tm T i = 0)
/-- whether an item is served by a set -/
def srv (T : TT) (i s : Nat) : Bool := sub (td T i) s || anyF (fun k => sub (to T i k) s) (tm T i) 0
/-- whether two items are learnt in one lesson -/
def grp (T : TT) (i k : Nat) : Bool := decide (k = i) || (decide (tk T i = 2) && decide (tk T k = 2) && decide (tx T k = tx T i))
def les (T : TT) (i : Nat) : Nat := mask (grp T i) (tn T)
def lea (T : TT) (i : Nat) : Bool := decide (les T i &&& (2 ^ i - 1) = 0)
def fit (T : TT) (l s : Nat) : Bool := decide (l &&& s = 0) && !anyF (fun k => l.testBit k && !srv T k (s ||| l)) (tn T) 0
def bot (T : TT) : Nat := mask (fun k => decide (tk T k = 4)) (tn T)
/-- the items, as the class holds them -/
def ItC (h : aH) (T : TT) : Prop := fI h 1 7 = nI (tn T) ∧ (∀ i, i < tn T → aI h 8 i = nI (tk T i)) ∧ (∀ i, i < tn T → aI h 9 i = nI (td T i)) ∧ (∀ i, i < tn T → aI h 10 i = nI (tx T i)) ∧ (∀ i, i < tn T → aI h 11 i = nI (th T i)) ∧
  (∀ i, i < tn T → aI h 12 i = nI (tm T i)) ∧ (∀ i, i < tn T → aI h 13 i = nI (les T i)) ∧ (∀ i, i < tn T → ∀ k, k < tm T i → aI h (15 + i) k = nI (to T i k)) ∧ ∀ i, tn T ≤ i → i < 12 → aI h 12 i = nI 0
/-- the same, as the reference holds them -/
def ItM (h : aH) (T : TT) : Prop := fI h 0 0 = nI (tn T) ∧ (∀ i, i < tn T → aI h 1 i = nI (tk T i)) ∧ (∀ i, i < tn T → aI h 2 i = nI (td T i)) ∧ (∀ i, i < tn T → aI h 3 i = nI (tx T i)) ∧ (∀ i, i < tn T → aI h 4 i = nI (th T i)) ∧
  (∀ i, i < tn T → aI h 5 i = nI (tm T i)) ∧ (∀ i, i < tn T → ∀ k, k < tm T i → aI h 6 (4 * i + k) = nI (to T i k)) ∧ ∀ i, tn T ≤ i → i < 12 → aI h 5 i = nI 0
theorem les_tb {T : TT} {i k : Nat} : (les T i).testBit k = (decide (k < tn T) && grp T i k) := mask_tb _ _ _
theorem les_lt {T : TT} (i : Nat) : les T i < 2 ^ tn T := mask_lt _ _
theorem les_self {T : TT} {i : Nat} (h : i < tn T) : (les T i).testBit i = true := by rw [les_tb]; simp [h, grp]
theorem les_12 {T : TT} (hT : okT T) (i : Nat) : les T i < 4096 := Nat.lt_of_lt_of_le (les_lt i) (pw_le hT.1)
theorem bot_lt (T : TT) : bot T < 2 ^ tn T := mask_lt _ _
theorem len_row {i : Nat} (h : i < 12) : lenK wC 0 (15 + i) = 4 := by
  have : ∀ i, i < 12 → lenK wC 0 (15 + i) = 4 := by decide +kernel
  exact this i h
theorem len_mark {i : Nat} (h : i < 4) : lenK wC 0 (39 + i) = 40 := by
  have : ∀ i, i < 4 → lenK wC 0 (39 + i) = 40 := by decide +kernel
  exact this i h
theorem q_ds {a b : Nat} (ha : a < 2147483648) : (nI (dif a b) = nI 0) = (sub a b = true) := by
  have := dif_le (a := a) (b := b)
  rw [q_eq (by omega) (by omega)]
  unfold sub
  rw [decide_eq_true_eq]
/-- an answer, or NONE -/
def oI : Option Nat → Int32
  | none => mI 1
  | some a => nI a
theorem oI_none : oI none = mI 1 := (rfl)
theorem oI_some {a : Nat} : oI (some a) = nI a := (rfl)
theorem oI_m1 {o : Option Nat} (h : ∀ a, o = some a → a < 2147483648) : (oI o = mI 1) = (o = none) := by
  cases o with
  | none => simp [oI]
  | some a => rw [oI, q_nm (h a rfl) (k := 1) (by omega) (by omega)]; simp
/-- the first of the other sets, from k on, that lies in s -/
def svsF (T : TT) (i s : Nat) : Nat → Nat → Option Nat
  | 0, _ => none
  | d + 1, k => if sub (to T i k) s = true then some (to T i k) else svsF T i s d (k + 1)
def svs (T : TT) (i s : Nat) : Option Nat := if sub (td T i) s = true then some (td T i) else svsF T i s (tm T i) 0
theorem svsF_b {T : TT} {i s : Nat} : ∀ {d k a : Nat}, svsF T i s d k = some a → ∃ z, k ≤ z ∧ z < k + d ∧ a = to T i z := by
  intro d
  induction d with
  | zero => intro k a h; cases h
  | succ d ih =>
    intro k a h
    rw [svsF] at h
    split at h
    · cases h; exact ⟨k, Nat.le_refl k, by omega, rfl⟩
    · obtain ⟨z, h1, h2, h3⟩ := ih h
      exact ⟨z, by omega, by omega, h3⟩
theorem svs_b {T : TT} (hT : okT T) {i s a : Nat} (hi : i < tn T) (h : svs T i s = some a) : a < 4096 := by
  obtain ⟨-, b1, -, -, -, b2, b3, -, -⟩ := hT.2 i hi
  unfold svs at h
  split at h
  · cases h; exact b1
  · obtain ⟨z, h1, h2, h3⟩ := svsF_b h
    rw [h3]; exact b3 z (by omega)
theorem svsF_n {T : TT} {i s : Nat} : ∀ {d k : Nat}, (svsF T i s d k = none) = (anyF (fun k => sub (to T i k) s) d k = false) := by
  intro d
  induction d with
  | zero => intro k; simp [svsF, anyF]
  | succ d ih =>
    intro k
    rw [svsF, anyF]
    by_cases e : sub (to T i k) s = true
    · simp [e]
    · simp [e, ih]
theorem svs_n {T : TT} {i s : Nat} : (svs T i s = none) = (srv T i s = false) := by
  unfold svs srv
  by_cases e : sub (td T i) s = true
  · simp [e]
  · simp [e, svsF_n]
/-- all items of lessons of which the leading items are told -/
def allO (T : TT) (L : Nat) : Nat → Nat
  | 0 => 0
  | k + 1 => if L.testBit k = true then allO T L k ||| les T k else allO T L k
def hrs (T : TT) (l : Nat) : Nat → Nat
  | 0 => 0
  | k + 1 => if l.testBit k = true then hrs T l k + th T k else hrs T l k
theorem allO_lt {T : TT} {L : Nat} : ∀ k, allO T L k < 2 ^ tn T := by
  intro k
  induction k with
  | zero => exact pw_pos _
  | succ k ih =>
    rw [allO]
    split
    · exact or_lt ih (les_lt k)
    · exact ih
theorem hrs_le {T : TT} (hT : okT T) {l : Nat} : ∀ k, k ≤ tn T → hrs T l k ≤ 100 * k := by
  intro k
  induction k with
  | zero => intro _; exact Nat.le_refl 0
  | succ k ih =>
    intro hk
    have := ih (by omega)
    obtain ⟨-, -, -, -, b, -⟩ := hT.2 k (by omega)
    rw [hrs]
    split <;> omega
