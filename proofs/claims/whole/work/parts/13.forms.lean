/-! forms of contracts; numbers told by Nat -/
/-- the negative numbers -/
def mI (n : Nat) : Int32 := - nI n
theorem ci_m1 : Int32.ofInt (-1) = mI 1 := by decide
theorem ci_0 : Int32.ofInt 0 = nI 0 := by decide
theorem ci_1 : Int32.ofInt 1 = nI 1 := by decide
theorem ci_2 : Int32.ofInt 2 = nI 2 := by decide
theorem ci_3 : Int32.ofInt 3 = nI 3 := by decide
theorem ci_4 : Int32.ofInt 4 = nI 4 := by decide
theorem ci_5 : Int32.ofInt 5 = nI 5 := by decide
theorem ci_6 : Int32.ofInt 6 = nI 6 := by decide
theorem ci_8 : Int32.ofInt 8 = nI 8 := by decide
theorem ci_16 : Int32.ofInt 16 = nI 16 := by decide
theorem cb_m10 : (Int8.ofInt (-10)).toInt32 = mI 10 := by decide
theorem cb_m4 : (Int8.ofInt (-4)).toInt32 = mI 4 := by decide
theorem cb_m3 : (Int8.ofInt (-3)).toInt32 = mI 3 := by decide
theorem cb_m2 : (Int8.ofInt (-2)).toInt32 = mI 2 := by decide
theorem cb_6 : (Int8.ofInt 6).toInt32 = nI 6 := by decide
theorem cb_7 : (Int8.ofInt 7).toInt32 = nI 7 := by decide
theorem cb_8 : (Int8.ofInt 8).toInt32 = nI 8 := by decide
theorem cb_10 : (Int8.ofInt 10).toInt32 = nI 10 := by decide
theorem cb_12 : (Int8.ofInt 12).toInt32 = nI 12 := by decide
theorem cb_13 : (Int8.ofInt 13).toInt32 = nI 13 := by decide
theorem cb_16 : (Int8.ofInt 16).toInt32 = nI 16 := by decide
theorem cb_32 : (Int8.ofInt 32).toInt32 = nI 32 := by decide
theorem cb_40 : (Int8.ofInt 40).toInt32 = nI 40 := by decide
theorem cb_48 : (Int8.ofInt 48).toInt32 = nI 48 := by decide
theorem cb_50 : (Int8.ofInt 50).toInt32 = nI 50 := by decide
theorem cb_63 : (Int8.ofInt 63).toInt32 = nI 63 := by decide
theorem cb_99 : (Int8.ofInt 99).toInt32 = nI 99 := by decide
theorem cb_100 : (Int8.ofInt 100).toInt32 = nI 100 := by decide
theorem cs_160 : (Int16.ofInt 160).toInt32 = nI 160 := by decide
theorem cs_256 : (Int16.ofInt 256).toInt32 = nI 256 := by decide
theorem cs_1024 : (Int16.ofInt 1024).toInt32 = nI 1024 := by decide
theorem cs_4095 : (Int16.ofInt 4095).toInt32 = nI 4095 := by decide
theorem cs_4096 : (Int16.ofInt 4096).toInt32 = nI 4096 := by decide
theorem q_0 : (0 : Int32) = nI 0 := by decide
theorem q_1 : (1 : Int32) = nI 1 := by decide
theorem q_2 : (2 : Int32) = nI 2 := by decide
theorem q_3 : (3 : Int32) = nI 3 := by decide
theorem q_4 : (4 : Int32) = nI 4 := by decide
theorem q_5 : (5 : Int32) = nI 5 := by decide
theorem q_6 : (6 : Int32) = nI 6 := by decide
theorem q_7 : (7 : Int32) = nI 7 := by decide
theorem q_8 : (8 : Int32) = nI 8 := by decide
theorem q_10 : (10 : Int32) = nI 10 := by decide
theorem q_12 : (12 : Int32) = nI 12 := by decide
theorem q_13 : (13 : Int32) = nI 13 := by decide
theorem q_16 : (16 : Int32) = nI 16 := by decide
theorem q_31 : (31 : Int32) = nI 31 := by decide
theorem q_32 : (32 : Int32) = nI 32 := by decide
theorem q_40 : (40 : Int32) = nI 40 := by decide
theorem q_48 : (48 : Int32) = nI 48 := by decide
theorem q_50 : (50 : Int32) = nI 50 := by decide
theorem q_63 : (63 : Int32) = nI 63 := by decide
theorem q_64 : (64 : Int32) = nI 64 := by decide
theorem q_99 : (99 : Int32) = nI 99 := by decide
theorem q_100 : (100 : Int32) = nI 100 := by decide
theorem q_160 : (160 : Int32) = nI 160 := by decide
theorem q_256 : (256 : Int32) = nI 256 := by decide
theorem q_1024 : (1024 : Int32) = nI 1024 := by decide
theorem q_4095 : (4095 : Int32) = nI 4095 := by decide
theorem q_4096 : (4096 : Int32) = nI 4096 := by decide
theorem q_1048576 : (1048576 : Int32) = nI 1048576 := by decide
theorem q_m1 : (-1 : Int32) = mI 1 := by decide
theorem q_m2 : (-2 : Int32) = mI 2 := by decide
theorem q_m3 : (-3 : Int32) = mI 3 := by decide
theorem q_m4 : (-4 : Int32) = mI 4 := by decide
theorem q_m10 : (-10 : Int32) = mI 10 := by decide
theorem q_least : (-2147483648 : Int32) = mI 2147483648 := by decide
def bI (b : Bool) : Int32 := if b then nI 1 else nI 0
theorem bI_t : bI true = nI 1 := rfl
theorem bI_f : bI false = nI 0 := rfl
theorem bI_e0 {b : Bool} : (bI b = nI 0) = (b = false) := by cases b <;> simp [bI, nI]
theorem bI_0e {b : Bool} : (nI 0 = bI b) = (b = false) := by cases b <;> simp [bI, nI]
theorem bI_1e {b : Bool} : (nI 1 = bI b) = (b = true) := by cases b <;> simp [bI, nI]
theorem bI_e1 {b : Bool} : (bI b = nI 1) = (b = true) := by cases b <;> simp [bI, nI]
theorem bI_bb {a b : Bool} : (bI a = bI b) = (a = b) := by cases a <;> cases b <;> simp [bI, nI]
theorem rI_i {v r : Int32} {h h0 : aH} : rI r h0 (some (.int v)) h = (v = r ∧ h = h0) := by
  unfold rI
  rw [Option.some.injEq, Value.int.injEq]
theorem rJ_i {v r : Int64} {h h0 : aH} : rJ r h0 (some (.long v)) h = (v = r ∧ h = h0) := by
  unfold rJ
  rw [Option.some.injEq, Value.long.injEq]
theorem rV_i {h h0 : aH} : rV h0 none h = (h = h0) := by
  unfold rV
  rw [eq_self, true_and]
theorem rk_00 {P : Prop} : ((0 : Nat) = 0 ∨ P) = True := by simp
theorem rk_10 {P : Prop} : (((1 : Nat) = 0) ∨ ((1 : Nat) = 1 ∧ P)) = P := by simp
theorem bI_01 {b : Bool} : (bI b = nI 0 ∨ bI b = nI 1) = True := by cases b <;> simp [bI]
abbrev SC (l : Launch) (d : Nat) (y : MethodName) (as : List Value) (h : aH) (Q : Option Value → aH → Prop) : Prop := Sat l vwCl wC tkC d y as h Q
abbrev SM (l : Launch) (d : Nat) (y : MethodName) (as : List Value) (h : aH) (Q : Option Value → aH → Prop) : Prop := Sat l vwCl wM tkM d y as h Q
theorem q_le {a b : Nat} (ha : a < 2147483648) (hb : b < 2147483648) : (nI a ≤ nI b) = (a ≤ b) := propext (nI_leI ha hb)
theorem q_lt {a b : Nat} (ha : a < 2147483648) (hb : b < 2147483648) : (nI a < nI b) = (a < b) := propext (nI_ltI ha hb)
theorem q_eq {a b : Nat} (ha : a < 2147483648) (hb : b < 2147483648) : (nI a = nI b) = (a = b) := propext (nI_eq ha hb)
theorem q_cl {n : Nat} (h : n < 2147483648) : (nI n).toNatClampNeg = n := nI_clamp h
theorem q_in {a N : Nat} (h : a < N) (hN : N < 2147483648) : vp_in (nI a) N = True := eq_true (vp_in_nI h hN)
theorem q_add {a b : Nat} : nI a + nI b = nI (a + b) := nI_add a b
theorem q_sub {a b : Nat} (h : b ≤ a) : nI a - nI b = nI (a - b) := pk_sub h
theorem q_mul {a b : Nat} : nI a * nI b = nI (a * b) := pk_mul a b
theorem nI_bv (a : Nat) : (nI a).toBitVec = BitVec.ofNat 32 a := rfl
theorem i32_ext {x y : Int32} (h : x.toBitVec = y.toBitVec) : x = y := Int32.toBitVec_inj.mp h
theorem q_and {a b : Nat} : nI a &&& nI b = nI (a &&& b) := by
  apply i32_ext
  rw [Int32.toBitVec_and, nI_bv, nI_bv, nI_bv]
  apply BitVec.eq_of_getLsbD_eq
  intro i hi
  simp [BitVec.getLsbD_ofNat, hi]
theorem q_or {a b : Nat} : nI a ||| nI b = nI (a ||| b) := by
  apply i32_ext
  rw [Int32.toBitVec_or, nI_bv, nI_bv, nI_bv]
  apply BitVec.eq_of_getLsbD_eq
  intro i hi
  simp [BitVec.getLsbD_ofNat, hi]
theorem q_xor {a b : Nat} : nI a ^^^ nI b = nI (a ^^^ b) := by
  apply i32_ext
  rw [Int32.toBitVec_xor, nI_bv, nI_bv, nI_bv]
  apply BitVec.eq_of_getLsbD_eq
  intro i hi
  simp [BitVec.getLsbD_ofNat, hi]
/-- a set less another -/
def dif (a b : Nat) : Nat := a ^^^ (a &&& b)
theorem dif_tb {a b i : Nat} : (dif a b).testBit i = (a.testBit i && !b.testBit i) := by
  unfold dif
  rw [Nat.testBit_xor, Nat.testBit_and]
  cases a.testBit i <;> cases b.testBit i <;> rfl
theorem m1_bv : (mI 1).toBitVec = BitVec.allOnes 32 := by decide
theorem q_dif {a b : Nat} : nI a &&& (nI b ^^^ mI 1) = nI (dif a b) := by
  apply i32_ext
  rw [Int32.toBitVec_and, Int32.toBitVec_xor, m1_bv, nI_bv, nI_bv, nI_bv]
  apply BitVec.eq_of_getLsbD_eq
  intro i hi
  simp only [BitVec.getLsbD_and, BitVec.getLsbD_xor, BitVec.getLsbD_allOnes, BitVec.getLsbD_ofNat, hi, decide_true, Bool.true_and, dif_tb, Bool.xor_true]
theorem and31 {k : Nat} (h : k < 32) : k &&& 31 = k := by
  rw [show (31 : Nat) = 2 ^ 5 - 1 from rfl, Nat.and_two_pow_sub_one_eq_mod]
  exact Nat.mod_eq_of_lt h
theorem sm32 : ∀ k, k < 32 → ((nI k).toBitVec.smod 32).toNat = k := by decide +kernel
theorem q_shl {a k : Nat} (hk : k < 32) : nI a <<< nI (k &&& 31) = nI (a * 2 ^ k) := by
  rw [and31 hk]
  apply i32_ext
  apply BitVec.eq_of_toNat_eq
  rw [pk_shl _ _ k (sm32 k hk), nI_bv, nI_bv, BitVec.toNat_ofNat, BitVec.toNat_ofNat, Nat.mod_mul_mod]
theorem q_shr {a k : Nat} (ha : a < 2147483648) (hk : k < 32) : nI a >>> nI (k &&& 31) = nI (a >>> k) := by
  rw [and31 hk, pk_shrN (by omega) _ k (sm32 k hk), Nat.shiftRight_eq_div_pow]
theorem q_one {k : Nat} : 1 * 2 ^ k = 2 ^ k := Nat.one_mul _
theorem q_b1 {a k : Nat} : a >>> k &&& 1 = (a.testBit k).toNat := by
  rw [Nat.testBit, Nat.and_comm 1, Nat.and_one_is_mod]
  rcases Nat.mod_two_eq_zero_or_one (a >>> k) with h | h <;> rw [h] <;> rfl
theorem q_t1 {b : Bool} : (nI b.toNat = nI 1) = (b = true) := by cases b <;> simp [nI]
theorem q_t0 {b : Bool} : (nI b.toNat = nI 0) = (b = false) := by cases b <;> simp [nI]
theorem q_bt {b : Bool} : nI b.toNat = bI b := by cases b <;> rfl
theorem tb_pow {l k : Nat} : (l &&& 2 ^ k = 0) = (l.testBit k = false) := by
  apply propext
  constructor
  · intro h
    have := congrArg (fun z => z.testBit k) h
    simpa [Nat.testBit_and, Nat.testBit_two_pow] using this
  · intro h
    apply Nat.eq_of_testBit_eq
    intro i
    rw [Nat.testBit_and, Nat.testBit_two_pow, Nat.zero_testBit]
    by_cases e : k = i
    · subst e; rw [h]; rfl
    · simp [e]
theorem q_tb {l k : Nat} (hk : k < 31) : (nI (l &&& 2 ^ k) = nI 0) = (l.testBit k = false) := by
  have hb : l &&& 2 ^ k < 2147483648 := Nat.lt_of_le_of_lt Nat.and_le_right (show 2 ^ k < 2 ^ 31 from Nat.pow_lt_pow_right (by omega) hk)
  rw [q_eq hb (by omega), tb_pow]
theorem mI_bv {k : Nat} (h0 : 0 < k) (h : k ≤ 2147483648) : (mI k).toInt = -(k : Int) := by
  unfold mI nI
  rcases Nat.lt_or_ge k 2147483648 with h1 | h1
  · have e : (Int32.ofNat k).toInt = k := Int32.toInt_ofNat_of_lt h1
    rw [Int32.toInt_neg, e]
    rw [Int.bmod_def]
    split <;> omega
  · obtain rfl : k = 2147483648 := by omega
    decide
theorem q_ti0 : (nI 0).toInt = 0 := by decide
theorem nI_ti {n : Nat} (h : n < 2147483648) : (nI n).toInt = (n : Int) := nI_toInt h
theorem q_nm {a k : Nat} (ha : a < 2147483648) (h0 : 0 < k) (h : k ≤ 2147483648) : (nI a = mI k) = False := by
  apply eq_false
  intro e
  have := congrArg Int32.toInt e
  rw [nI_ti ha, mI_bv h0 h] at this
  omega
theorem q_mn {a k : Nat} (ha : a < 2147483648) (h0 : 0 < k) (h : k ≤ 2147483648) : (mI k = nI a) = False := by
  apply eq_false
  intro e
  exact (q_nm ha h0 h).mp e.symm
theorem q_mm {a k : Nat} (h0 : 0 < a) (h : a ≤ 2147483648) (k0 : 0 < k) (hk : k ≤ 2147483648) : (mI a = mI k) = (a = k) := by
  apply propext
  constructor
  · intro e
    have := congrArg Int32.toInt e
    rw [mI_bv h0 h, mI_bv k0 hk] at this
    omega
  · intro e; rw [e]
theorem q_mlt {a k : Nat} (ha : a < 2147483648) (h0 : 0 < k) (h : k ≤ 2147483648) : (mI k < nI a) = True := by
  apply eq_true
  rw [Int32.lt_iff_toInt_lt, nI_ti ha, mI_bv h0 h]
  omega
theorem q_mle {a k : Nat} (ha : a < 2147483648) (h0 : 0 < k) (h : k ≤ 2147483648) : (mI k ≤ nI a) = True := by
  apply eq_true
  rw [Int32.le_iff_toInt_le, nI_ti ha, mI_bv h0 h]
  omega
theorem q_nlt {a k : Nat} (ha : a < 2147483648) (h0 : 0 < k) (h : k ≤ 2147483648) : (nI a < mI k) = False := by
  apply eq_false
  rw [Int32.lt_iff_toInt_lt, nI_ti ha, mI_bv h0 h]
  omega
theorem q_nle {a k : Nat} (ha : a < 2147483648) (h0 : 0 < k) (h : k ≤ 2147483648) : (nI a ≤ mI k) = False := by
  apply eq_false
  rw [Int32.le_iff_toInt_le, nI_ti ha, mI_bv h0 h]
  omega
theorem q_bp {c A B : Prop} (h : c) : ((c → A) ∧ (¬ c → B)) = A := by simp [h]
theorem q_bn {c A B : Prop} (h : ¬ c) : ((c → A) ∧ (¬ c → B)) = B := by simp [h]
theorem q_np {c A B : Prop} (h : c) : ((¬ c → A) ∧ (c → B)) = B := by simp [h]
theorem q_nn {c A B : Prop} (h : ¬ c) : ((¬ c → A) ∧ (c → B)) = A := by simp [h]
theorem ne12 : ((1 : Nat) = 2) = False := by simp
theorem ne13 : ((1 : Nat) = 3) = False := by simp
theorem ne14 : ((1 : Nat) = 4) = False := by simp
theorem ne21 : ((2 : Nat) = 1) = False := by simp
theorem ne23 : ((2 : Nat) = 3) = False := by simp
theorem ne24 : ((2 : Nat) = 4) = False := by simp
theorem ne31 : ((3 : Nat) = 1) = False := by simp
theorem ne32 : ((3 : Nat) = 2) = False := by simp
theorem ne34 : ((3 : Nat) = 4) = False := by simp
theorem ne41 : ((4 : Nat) = 1) = False := by simp
theorem ne42 : ((4 : Nat) = 2) = False := by simp
theorem ne43 : ((4 : Nat) = 3) = False := by simp
/-- f below i, g from i on -/
def fl {α : Type} (f g : Nat → α) (i : Nat) : Nat → α := fun k => if k < i then f k else g k
theorem fl_0 {α : Type} (f g : Nat → α) : fl f g 0 = g := by funext k; simp [fl]
theorem fl_lt {α : Type} {f g : Nat → α} {i k : Nat} (h : k < i) : fl f g i k = f k := if_pos h
theorem fl_ge {α : Type} {f g : Nat → α} {i k : Nat} (h : ¬ k < i) : fl f g i k = g k := if_neg h
theorem fl_s (f g : Nat → Int32) (i : Nat) : upd (fl f g i) i (f i) = fl f g (i + 1) := by
  funext k
  unfold upd fl
  by_cases e : k = i
  · subst e; simp
  · by_cases h : k < i
    · simp [e, h, Nat.lt_succ_of_lt h]
    · simp [e, h, show ¬ k < i + 1 by omega]
theorem fl_sL (f g : Nat → Int64) (i : Nat) : vp_updL (fl f g i) i (f i) = fl f g (i + 1) := by
  funext k
  unfold vp_updL fl
  by_cases e : k = i
  · subst e; simp
  · by_cases h : k < i
    · simp [e, h, Nat.lt_succ_of_lt h]
    · simp [e, h, show ¬ k < i + 1 by omega]
theorem sA_sA {h : aH} {p : Nat} {f g : Nat → Int32} : sA (sA h p f) p g = sA h p g := by
  unfold sA
  refine Prod.ext rfl (Prod.ext ?_ rfl)
  funext q
  by_cases e : q = p <;> simp [e]
theorem sL_sL {h : aH} {p : Nat} {f g : Nat → Int64} : sL (sL h p f) p g = sL h p g := by
  unfold sL
  refine Prod.ext rfl (Prod.ext rfl ?_)
  funext q
  by_cases e : q = p <;> simp [e]
theorem sF_sF {h : aH} {p k : Nat} {u v : Int32} : sF (sF h p k u) p k v = sF h p k v := by
  unfold sF
  refine Prod.ext ?_ rfl
  funext q j
  by_cases e : q = p
  · subst e
    by_cases e2 : j = k <;> simp [e2]
  · simp [e]
theorem sA_self {h : aH} {p : Nat} : sA h p (aI h p) = h := by
  unfold sA aI
  refine Prod.ext rfl (Prod.ext ?_ rfl)
  funext q
  by_cases e : q = p
  · subst e; simp
  · simp [e]
theorem sL_self {h : aH} {p : Nat} : sL h p (aL h p) = h := by
  unfold sL aL
  refine Prod.ext rfl (Prod.ext rfl ?_)
  funext q
  by_cases e : q = p
  · subst e; simp
  · simp [e]
theorem sF_self {h : aH} {p k : Nat} : sF h p k (fI h p k) = h := by
  unfold sF fI
  refine Prod.ext ?_ rfl
  funext q j
  by_cases e : q = p
  · subst e
    by_cases e2 : j = k <;> simp [e2]
  · simp [e]
theorem aI_sAs {h : aH} {p : Nat} {g : Nat → Int32} : aI (sA h p g) p = g := by unfold aI sA; simp
theorem aL_sLs {h : aH} {p : Nat} {g : Nat → Int64} : aL (sL h p g) p = g := by unfold aL sL; simp
theorem fI_sFs {h : aH} {p k : Nat} {v : Int32} : fI (sF h p k v) p k = v := by unfold fI sF; simp
/-- what an int is: an index below n, or not -/
def okI (x : Int32) (n : Nat) : Bool := decide (nI 0 ≤ x ∧ x < nI n)
theorem okI_t {x : Int32} {n : Nat} (hn : n < 2147483648) (h : okI x n = true) : ∃ j, j < n ∧ x = nI j := by
  unfold okI at h
  have h := of_decide_eq_true h
  obtain ⟨j, hj, rfl⟩ := nI_of (x := x) (fun q => by
    rw [Int32.lt_iff_toInt_lt] at q
    have h1 := h.1
    rw [Int32.le_iff_toInt_le] at h1
    have e : (nI 0).toInt = 0 := by decide
    have e2 : (0 : Int32).toInt = 0 := by decide
    omega)
  refine ⟨j, ?_, rfl⟩
  have h2 := h.2
  rwa [q_lt hj hn] at h2
theorem okI_n {j n : Nat} (hj : j < 2147483648) (hn : n < 2147483648) : okI (nI j) n = decide (j < n) := by
  unfold okI
  simp only [q_le (show 0 < 2147483648 by omega) hj, q_lt hj hn]
  simp
