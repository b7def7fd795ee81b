/-! THE LAW's cases -/
theorem law_0 {p : Program} {l : Launch} {e : Env} {s : State} {m : MethodId} {below : List Frame} {meth : Method} {c : Code} {b L : Nat} {xs : Nat → Int32} {D : va_G} {dA : Nat → ClassId} {aC aM : Nat → Nat} {cN sN : Nat} {hC hM : aH} {σ : MS} {n : Nat} (C0 : lw_At p s m meth c b L xs) (B : lwB s D dA aC aM cN sN) (hL : L ≤ 3072) (hn : n + 5 < L) (hσ : ClS hC σ) (hτ : MoS hM σ) (next : ∀ hC hM σ, ClS hC σ → MoS hM σ → LW p l e s m below meth c b D dA aC aM cN sN 1528 (nI n) [] hC hM) : LW p l e s m below meth c b D dA aC aM cN sN 228 (nI n) [] hC hM := by
  refine lw_ld1 C0 (by decide +kernel) ?_
  refine lw_arg (k := 1) (kk := 1) C0 hL hn (by omega) (by decide +kernel) (by decide +kernel) (by decide +kernel) (by decide) (by decide +kernel) (by decide +kernel) ?_
  refine lw_arg (k := 2) (kk := 2) C0 hL hn (by omega) (by decide +kernel) (by decide +kernel) (by decide +kernel) (by decide) (by decide +kernel) (by decide +kernel) ?_
  refine lw_arg (k := 3) (kk := 3) C0 hL hn (by omega) (by decide +kernel) (by decide +kernel) (by decide +kernel) (by decide) (by decide +kernel) (by decide +kernel) ?_
  refine lw_callC (as := [.int (xs (n + 1)), .int (xs (n + 2)), .int (xs (n + 3))]) (x := (r_item σ (xs (n + 1)) (xs (n + 2)) (xs (n + 3)))) (τ := (n_item σ (xs (n + 1)) (xs (n + 2)) (xs (n + 3)))) (d := 7) (y := yX7_item) (j := 13) C0 B (by decide) (by decide +kernel) rfl rfl rfl (by simp [Value.category]) (c_item hσ) (fun hC1 hCσ => ?_)
  refine lw_ld2 C0 (by decide +kernel) ?_
  refine lw_arg (k := 1) (kk := 1) C0 hL hn (by omega) (by decide +kernel) (by decide +kernel) (by decide +kernel) (by decide) (by decide +kernel) (by decide +kernel) ?_
  refine lw_arg (k := 2) (kk := 2) C0 hL hn (by omega) (by decide +kernel) (by decide +kernel) (by decide +kernel) (by decide) (by decide +kernel) (by decide +kernel) ?_
  refine lw_arg (k := 3) (kk := 3) C0 hL hn (by omega) (by decide +kernel) (by decide +kernel) (by decide +kernel) (by decide) (by decide +kernel) (by decide +kernel) ?_
  refine lw_callM (as := [.int (xs (n + 1)), .int (xs (n + 2)), .int (xs (n + 3))]) (x := (r_item σ (xs (n + 1)) (xs (n + 2)) (xs (n + 3)))) (τ := (n_item σ (xs (n + 1)) (xs (n + 2)) (xs (n + 3)))) (d := 7) (y := yX8_item) (j := 17) C0 B (by decide) (by decide +kernel) rfl rfl rfl (by simp [Value.category]) (m_item hτ) (fun hM1 hMσ => ?_)
  refine lw_cmp C0 (off := 1262) (tgt := 1528) (by decide +kernel) (by decide) ?_
  exact next _ _ _ hCσ hMσ
theorem law_1 {p : Program} {l : Launch} {e : Env} {s : State} {m : MethodId} {below : List Frame} {meth : Method} {c : Code} {b L : Nat} {xs : Nat → Int32} {D : va_G} {dA : Nat → ClassId} {aC aM : Nat → Nat} {cN sN : Nat} {hC hM : aH} {σ : MS} {n : Nat} (C0 : lw_At p s m meth c b L xs) (B : lwB s D dA aC aM cN sN) (hL : L ≤ 3072) (hn : n + 5 < L) (hσ : ClS hC σ) (hτ : MoS hM σ) (next : ∀ hC hM σ, ClS hC σ → MoS hM σ → LW p l e s m below meth c b D dA aC aM cN sN 1528 (nI n) [] hC hM) : LW p l e s m below meth c b D dA aC aM cN sN 271 (nI n) [] hC hM := by
  refine lw_ld1 C0 (by decide +kernel) ?_
  refine lw_arg (k := 1) (kk := 1) C0 hL hn (by omega) (by decide +kernel) (by decide +kernel) (by decide +kernel) (by decide) (by decide +kernel) (by decide +kernel) ?_
  refine lw_arg (k := 2) (kk := 2) C0 hL hn (by omega) (by decide +kernel) (by decide +kernel) (by decide +kernel) (by decide) (by decide +kernel) (by decide +kernel) ?_
  refine lw_callC (as := [.int (xs (n + 1)), .int (xs (n + 2))]) (x := (r_other σ (xs (n + 1)) (xs (n + 2)))) (τ := (n_other σ (xs (n + 1)) (xs (n + 2)))) (d := 7) (y := yX7_other) (j := 18) C0 B (by decide) (by decide +kernel) rfl rfl rfl (by simp [Value.category]) (c_other hσ) (fun hC1 hCσ => ?_)
  refine lw_ld2 C0 (by decide +kernel) ?_
  refine lw_arg (k := 1) (kk := 1) C0 hL hn (by omega) (by decide +kernel) (by decide +kernel) (by decide +kernel) (by decide) (by decide +kernel) (by decide +kernel) ?_
  refine lw_arg (k := 2) (kk := 2) C0 hL hn (by omega) (by decide +kernel) (by decide +kernel) (by decide +kernel) (by decide) (by decide +kernel) (by decide +kernel) ?_
  refine lw_callM (as := [.int (xs (n + 1)), .int (xs (n + 2))]) (x := (r_other σ (xs (n + 1)) (xs (n + 2)))) (τ := (n_other σ (xs (n + 1)) (xs (n + 2)))) (d := 7) (y := yX8_other) (j := 22) C0 B (by decide) (by decide +kernel) rfl rfl rfl (by simp [Value.category]) (m_other hτ) (fun hM1 hMσ => ?_)
  refine lw_cmp C0 (off := 1229) (tgt := 1528) (by decide +kernel) (by decide) ?_
  exact next _ _ _ hCσ hMσ
theorem law_2 {p : Program} {l : Launch} {e : Env} {s : State} {m : MethodId} {below : List Frame} {meth : Method} {c : Code} {b L : Nat} {xs : Nat → Int32} {D : va_G} {dA : Nat → ClassId} {aC aM : Nat → Nat} {cN sN : Nat} {hC hM : aH} {σ : MS} {n : Nat} (C0 : lw_At p s m meth c b L xs) (B : lwB s D dA aC aM cN sN) (hL : L ≤ 3072) (hn : n + 5 < L) (hσ : ClS hC σ) (hτ : MoS hM σ) (next : ∀ hC hM σ, ClS hC σ → MoS hM σ → LW p l e s m below meth c b D dA aC aM cN sN 1528 (nI n) [] hC hM) : LW p l e s m below meth c b D dA aC aM cN sN 304 (nI n) [] hC hM := by
  refine lw_ld1 C0 (by decide +kernel) ?_
  refine lw_arg (k := 1) (kk := 1) C0 hL hn (by omega) (by decide +kernel) (by decide +kernel) (by decide +kernel) (by decide) (by decide +kernel) (by decide +kernel) ?_
  refine lw_arg (k := 2) (kk := 2) C0 hL hn (by omega) (by decide +kernel) (by decide +kernel) (by decide +kernel) (by decide) (by decide +kernel) (by decide +kernel) ?_
  refine lw_callC (as := [.int (xs (n + 1)), .int (xs (n + 2))]) (x := (r_hours σ (xs (n + 1)) (xs (n + 2)))) (τ := (n_hours σ (xs (n + 1)) (xs (n + 2)))) (d := 7) (y := yX7_hours) (j := 23) C0 B (by decide) (by decide +kernel) rfl rfl rfl (by simp [Value.category]) (c_hours hσ) (fun hC1 hCσ => ?_)
  refine lw_ld2 C0 (by decide +kernel) ?_
  refine lw_arg (k := 1) (kk := 1) C0 hL hn (by omega) (by decide +kernel) (by decide +kernel) (by decide +kernel) (by decide) (by decide +kernel) (by decide +kernel) ?_
  refine lw_arg (k := 2) (kk := 2) C0 hL hn (by omega) (by decide +kernel) (by decide +kernel) (by decide +kernel) (by decide) (by decide +kernel) (by decide +kernel) ?_
  refine lw_callM (as := [.int (xs (n + 1)), .int (xs (n + 2))]) (x := (r_hours σ (xs (n + 1)) (xs (n + 2)))) (τ := (n_hours σ (xs (n + 1)) (xs (n + 2)))) (d := 7) (y := yX8_hours) (j := 26) C0 B (by decide) (by decide +kernel) rfl rfl rfl (by simp [Value.category]) (m_hours hτ) (fun hM1 hMσ => ?_)
  refine lw_cmp C0 (off := 1196) (tgt := 1528) (by decide +kernel) (by decide) ?_
  exact next _ _ _ hCσ hMσ
theorem law_3 {p : Program} {l : Launch} {e : Env} {s : State} {m : MethodId} {below : List Frame} {meth : Method} {c : Code} {b L : Nat} {xs : Nat → Int32} {D : va_G} {dA : Nat → ClassId} {aC aM : Nat → Nat} {cN sN : Nat} {hC hM : aH} {σ : MS} {n : Nat} (C0 : lw_At p s m meth c b L xs) (B : lwB s D dA aC aM cN sN) (hL : L ≤ 3072) (hn : n + 5 < L) (hσ : ClS hC σ) (hτ : MoS hM σ) (next : ∀ hC hM σ, ClS hC σ → MoS hM σ → LW p l e s m below meth c b D dA aC aM cN sN 1528 (nI n) [] hC hM) : LW p l e s m below meth c b D dA aC aM cN sN 337 (nI n) [] hC hM := by
  refine lw_ld1 C0 (by decide +kernel) ?_
  refine lw_arg (k := 1) (kk := 1) C0 hL hn (by omega) (by decide +kernel) (by decide +kernel) (by decide +kernel) (by decide) (by decide +kernel) (by decide +kernel) ?_
  refine lw_arg (k := 2) (kk := 2) C0 hL hn (by omega) (by decide +kernel) (by decide +kernel) (by decide +kernel) (by decide) (by decide +kernel) (by decide +kernel) ?_
  refine lw_callC (as := [.int (xs (n + 1)), .int (xs (n + 2))]) (x := (r_about σ (xs (n + 1)) (xs (n + 2)))) (τ := σ) (d := 2) (y := yX7_about) (j := 27) C0 B (by decide) (by decide +kernel) rfl rfl rfl (by simp [Value.category]) (c_about hσ) (fun hC1 hCσ => ?_)
  refine lw_ld2 C0 (by decide +kernel) ?_
  refine lw_arg (k := 1) (kk := 1) C0 hL hn (by omega) (by decide +kernel) (by decide +kernel) (by decide +kernel) (by decide) (by decide +kernel) (by decide +kernel) ?_
  refine lw_arg (k := 2) (kk := 2) C0 hL hn (by omega) (by decide +kernel) (by decide +kernel) (by decide +kernel) (by decide) (by decide +kernel) (by decide +kernel) ?_
  refine lw_callM (as := [.int (xs (n + 1)), .int (xs (n + 2))]) (x := (r_about σ (xs (n + 1)) (xs (n + 2)))) (τ := σ) (d := 3) (y := yX8_about) (j := 30) C0 B (by decide) (by decide +kernel) rfl rfl rfl (by simp [Value.category]) (m_about hτ) (fun hM1 hMσ => ?_)
  refine lw_cmp C0 (off := 1163) (tgt := 1528) (by decide +kernel) (by decide) ?_
  exact next _ _ _ hCσ hMσ
theorem law_4 {p : Program} {l : Launch} {e : Env} {s : State} {m : MethodId} {below : List Frame} {meth : Method} {c : Code} {b L : Nat} {xs : Nat → Int32} {D : va_G} {dA : Nat → ClassId} {aC aM : Nat → Nat} {cN sN : Nat} {hC hM : aH} {σ : MS} {n : Nat} (C0 : lw_At p s m meth c b L xs) (B : lwB s D dA aC aM cN sN) (hL : L ≤ 3072) (hn : n + 5 < L) (hσ : ClS hC σ) (hτ : MoS hM σ) (next : ∀ hC hM σ, ClS hC σ → MoS hM σ → LW p l e s m below meth c b D dA aC aM cN sN 1528 (nI n) [] hC hM) : LW p l e s m below meth c b D dA aC aM cN sN 370 (nI n) [] hC hM := by
  refine lw_ld1 C0 (by decide +kernel) ?_
  refine lw_arg (k := 1) (kk := 1) C0 hL hn (by omega) (by decide +kernel) (by decide +kernel) (by decide +kernel) (by decide) (by decide +kernel) (by decide +kernel) ?_
  refine lw_arg (k := 2) (kk := 2) C0 hL hn (by omega) (by decide +kernel) (by decide +kernel) (by decide +kernel) (by decide) (by decide +kernel) (by decide +kernel) ?_
  refine lw_callC (as := [.int (xs (n + 1)), .int (xs (n + 2))]) (x := (r_served σ (xs (n + 1)) (xs (n + 2)))) (τ := σ) (d := 7) (y := yX7_served) (j := 31) C0 B (by decide) (by decide +kernel) rfl rfl rfl (by simp [Value.category]) (c_served hσ) (fun hC1 hCσ => ?_)
  refine lw_ld2 C0 (by decide +kernel) ?_
  refine lw_arg (k := 1) (kk := 1) C0 hL hn (by omega) (by decide +kernel) (by decide +kernel) (by decide +kernel) (by decide) (by decide +kernel) (by decide +kernel) ?_
  refine lw_arg (k := 2) (kk := 2) C0 hL hn (by omega) (by decide +kernel) (by decide +kernel) (by decide +kernel) (by decide) (by decide +kernel) (by decide +kernel) ?_
  refine lw_callM (as := [.int (xs (n + 1)), .int (xs (n + 2))]) (x := (r_served σ (xs (n + 1)) (xs (n + 2)))) (τ := σ) (d := 7) (y := yX8_served) (j := 34) C0 B (by decide) (by decide +kernel) rfl rfl rfl (by simp [Value.category]) (m_served hτ) (fun hM1 hMσ => ?_)
  refine lw_cmp C0 (off := 1130) (tgt := 1528) (by decide +kernel) (by decide) ?_
  exact next _ _ _ hCσ hMσ
theorem law_5 {p : Program} {l : Launch} {e : Env} {s : State} {m : MethodId} {below : List Frame} {meth : Method} {c : Code} {b L : Nat} {xs : Nat → Int32} {D : va_G} {dA : Nat → ClassId} {aC aM : Nat → Nat} {cN sN : Nat} {hC hM : aH} {σ : MS} {n : Nat} (C0 : lw_At p s m meth c b L xs) (B : lwB s D dA aC aM cN sN) (hL : L ≤ 3072) (hn : n + 5 < L) (hσ : ClS hC σ) (hτ : MoS hM σ) (next : ∀ hC hM σ, ClS hC σ → MoS hM σ → LW p l e s m below meth c b D dA aC aM cN sN 1528 (nI n) [] hC hM) : LW p l e s m below meth c b D dA aC aM cN sN 403 (nI n) [] hC hM := by
  refine lw_ld1 C0 (by decide +kernel) ?_
  refine lw_callC (as := []) (x := (r_states σ)) (τ := σ) (d := 7) (y := yX7_states) (j := 35) C0 B (by decide) (by decide +kernel) rfl rfl rfl (by simp [Value.category]) (c_states hσ) (fun hC1 hCσ => ?_)
  refine lw_ld2 C0 (by decide +kernel) ?_
  refine lw_callM (as := []) (x := (r_states σ)) (τ := σ) (d := 7) (y := yX8_states) (j := 39) C0 B (by decide) (by decide +kernel) rfl rfl rfl (by simp [Value.category]) (m_states hτ) (fun hM1 hMσ => ?_)
  refine lw_cmp C0 (off := 1117) (tgt := 1528) (by decide +kernel) (by decide) ?_
  exact next _ _ _ hCσ hMσ
theorem law_6 {p : Program} {l : Launch} {e : Env} {s : State} {m : MethodId} {below : List Frame} {meth : Method} {c : Code} {b L : Nat} {xs : Nat → Int32} {D : va_G} {dA : Nat → ClassId} {aC aM : Nat → Nat} {cN sN : Nat} {hC hM : aH} {σ : MS} {n : Nat} (C0 : lw_At p s m meth c b L xs) (B : lwB s D dA aC aM cN sN) (hL : L ≤ 3072) (hn : n + 5 < L) (hσ : ClS hC σ) (hτ : MoS hM σ) (next : ∀ hC hM σ, ClS hC σ → MoS hM σ → LW p l e s m below meth c b D dA aC aM cN sN 1528 (nI n) [] hC hM) : LW p l e s m below meth c b D dA aC aM cN sN 416 (nI n) [] hC hM := by
  refine lw_ld1 C0 (by decide +kernel) ?_
  refine lw_arg (k := 1) (kk := 1) C0 hL hn (by omega) (by decide +kernel) (by decide +kernel) (by decide +kernel) (by decide) (by decide +kernel) (by decide +kernel) ?_
  refine lw_callC (as := [.int (xs (n + 1))]) (x := (r_state σ (xs (n + 1)))) (τ := σ) (d := 7) (y := yX7_state) (j := 40) C0 B (by decide) (by decide +kernel) rfl rfl rfl (by simp [Value.category]) (c_state hσ) (fun hC1 hCσ => ?_)
  refine lw_ld2 C0 (by decide +kernel) ?_
  refine lw_arg (k := 1) (kk := 1) C0 hL hn (by omega) (by decide +kernel) (by decide +kernel) (by decide +kernel) (by decide) (by decide +kernel) (by decide +kernel) ?_
  refine lw_callM (as := [.int (xs (n + 1))]) (x := (r_state σ (xs (n + 1)))) (τ := σ) (d := 7) (y := yX8_state) (j := 44) C0 B (by decide) (by decide +kernel) rfl rfl rfl (by simp [Value.category]) (m_state hτ) (fun hM1 hMσ => ?_)
  refine lw_cmp C0 (off := 1094) (tgt := 1528) (by decide +kernel) (by decide) ?_
  exact next _ _ _ hCσ hMσ
theorem law_7 {p : Program} {l : Launch} {e : Env} {s : State} {m : MethodId} {below : List Frame} {meth : Method} {c : Code} {b L : Nat} {xs : Nat → Int32} {D : va_G} {dA : Nat → ClassId} {aC aM : Nat → Nat} {cN sN : Nat} {hC hM : aH} {σ : MS} {n : Nat} (C0 : lw_At p s m meth c b L xs) (B : lwB s D dA aC aM cN sN) (hL : L ≤ 3072) (hn : n + 5 < L) (hσ : ClS hC σ) (hτ : MoS hM σ) (next : ∀ hC hM σ, ClS hC σ → MoS hM σ → LW p l e s m below meth c b D dA aC aM cN sN 1528 (nI n) [] hC hM) : LW p l e s m below meth c b D dA aC aM cN sN 439 (nI n) [] hC hM := by
  refine lw_ld1 C0 (by decide +kernel) ?_
  refine lw_arg (k := 1) (kk := 1) C0 hL hn (by omega) (by decide +kernel) (by decide +kernel) (by decide +kernel) (by decide) (by decide +kernel) (by decide +kernel) ?_
  refine lw_callC (as := [.int (xs (n + 1))]) (x := (r_at σ (xs (n + 1)))) (τ := σ) (d := 7) (y := yX7_at) (j := 45) C0 B (by decide) (by decide +kernel) rfl rfl rfl (by simp [Value.category]) (c_at hσ) (fun hC1 hCσ => ?_)
  refine lw_ld2 C0 (by decide +kernel) ?_
  refine lw_arg (k := 1) (kk := 1) C0 hL hn (by omega) (by decide +kernel) (by decide +kernel) (by decide +kernel) (by decide) (by decide +kernel) (by decide +kernel) ?_
  refine lw_callM (as := [.int (xs (n + 1))]) (x := (r_at σ (xs (n + 1)))) (τ := σ) (d := 7) (y := yX8_at) (j := 48) C0 B (by decide) (by decide +kernel) rfl rfl rfl (by simp [Value.category]) (m_at hτ) (fun hM1 hMσ => ?_)
  refine lw_cmp C0 (off := 1071) (tgt := 1528) (by decide +kernel) (by decide) ?_
  exact next _ _ _ hCσ hMσ
theorem law_8 {p : Program} {l : Launch} {e : Env} {s : State} {m : MethodId} {below : List Frame} {meth : Method} {c : Code} {b L : Nat} {xs : Nat → Int32} {D : va_G} {dA : Nat → ClassId} {aC aM : Nat → Nat} {cN sN : Nat} {hC hM : aH} {σ : MS} {n : Nat} (C0 : lw_At p s m meth c b L xs) (B : lwB s D dA aC aM cN sN) (hL : L ≤ 3072) (hn : n + 5 < L) (hσ : ClS hC σ) (hτ : MoS hM σ) (next : ∀ hC hM σ, ClS hC σ → MoS hM σ → LW p l e s m below meth c b D dA aC aM cN sN 1528 (nI n) [] hC hM) : LW p l e s m below meth c b D dA aC aM cN sN 462 (nI n) [] hC hM := by
  refine lw_ld1 C0 (by decide +kernel) ?_
  refine lw_callC (as := []) (x := (r_top σ)) (τ := σ) (d := 7) (y := yX7_top) (j := 49) C0 B (by decide) (by decide +kernel) rfl rfl rfl (by simp [Value.category]) (c_top hσ) (fun hC1 hCσ => ?_)
  refine lw_ld2 C0 (by decide +kernel) ?_
  refine lw_callM (as := []) (x := (r_top σ)) (τ := σ) (d := 7) (y := yX8_top) (j := 52) C0 B (by decide) (by decide +kernel) rfl rfl rfl (by simp [Value.category]) (m_top hτ) (fun hM1 hMσ => ?_)
  refine lw_cmp C0 (off := 1058) (tgt := 1528) (by decide +kernel) (by decide) ?_
  exact next _ _ _ hCσ hMσ
theorem law_9 {p : Program} {l : Launch} {e : Env} {s : State} {m : MethodId} {below : List Frame} {meth : Method} {c : Code} {b L : Nat} {xs : Nat → Int32} {D : va_G} {dA : Nat → ClassId} {aC aM : Nat → Nat} {cN sN : Nat} {hC hM : aH} {σ : MS} {n : Nat} (C0 : lw_At p s m meth c b L xs) (B : lwB s D dA aC aM cN sN) (hL : L ≤ 3072) (hn : n + 5 < L) (hσ : ClS hC σ) (hτ : MoS hM σ) (next : ∀ hC hM σ, ClS hC σ → MoS hM σ → LW p l e s m below meth c b D dA aC aM cN sN 1528 (nI n) [] hC hM) : LW p l e s m below meth c b D dA aC aM cN sN 475 (nI n) [] hC hM := by
  refine lw_ld1 C0 (by decide +kernel) ?_
  refine lw_arg (k := 1) (kk := 1) C0 hL hn (by omega) (by decide +kernel) (by decide +kernel) (by decide +kernel) (by decide) (by decide +kernel) (by decide +kernel) ?_
  refine lw_callC (as := [.int (xs (n + 1))]) (x := (r_next σ (xs (n + 1)))) (τ := σ) (d := 7) (y := yX7_next) (j := 53) C0 B (by decide) (by decide +kernel) rfl rfl rfl (by simp [Value.category]) (c_next hσ) (fun hC1 hCσ => ?_)
  refine lw_ld2 C0 (by decide +kernel) ?_
  refine lw_arg (k := 1) (kk := 1) C0 hL hn (by omega) (by decide +kernel) (by decide +kernel) (by decide +kernel) (by decide) (by decide +kernel) (by decide +kernel) ?_
  refine lw_callM (as := [.int (xs (n + 1))]) (x := (r_next σ (xs (n + 1)))) (τ := σ) (d := 7) (y := yX8_next) (j := 56) C0 B (by decide) (by decide +kernel) rfl rfl rfl (by simp [Value.category]) (m_next hτ) (fun hM1 hMσ => ?_)
  refine lw_cmp C0 (off := 1035) (tgt := 1528) (by decide +kernel) (by decide) ?_
  exact next _ _ _ hCσ hMσ
theorem law_10 {p : Program} {l : Launch} {e : Env} {s : State} {m : MethodId} {below : List Frame} {meth : Method} {c : Code} {b L : Nat} {xs : Nat → Int32} {D : va_G} {dA : Nat → ClassId} {aC aM : Nat → Nat} {cN sN : Nat} {hC hM : aH} {σ : MS} {n : Nat} (C0 : lw_At p s m meth c b L xs) (B : lwB s D dA aC aM cN sN) (hL : L ≤ 3072) (hn : n + 5 < L) (hσ : ClS hC σ) (hτ : MoS hM σ) (next : ∀ hC hM σ, ClS hC σ → MoS hM σ → LW p l e s m below meth c b D dA aC aM cN sN 1528 (nI n) [] hC hM) : LW p l e s m below meth c b D dA aC aM cN sN 498 (nI n) [] hC hM := by
  refine lw_ld1 C0 (by decide +kernel) ?_
  refine lw_arg (k := 1) (kk := 1) C0 hL hn (by omega) (by decide +kernel) (by decide +kernel) (by decide +kernel) (by decide) (by decide +kernel) (by decide +kernel) ?_
  refine lw_callC (as := [.int (xs (n + 1))]) (x := (r_last σ (xs (n + 1)))) (τ := σ) (d := 7) (y := yX7_last) (j := 57) C0 B (by decide) (by decide +kernel) rfl rfl rfl (by simp [Value.category]) (c_last hσ) (fun hC1 hCσ => ?_)
  refine lw_ld2 C0 (by decide +kernel) ?_
  refine lw_arg (k := 1) (kk := 1) C0 hL hn (by omega) (by decide +kernel) (by decide +kernel) (by decide +kernel) (by decide) (by decide +kernel) (by decide +kernel) ?_
  refine lw_callM (as := [.int (xs (n + 1))]) (x := (r_last σ (xs (n + 1)))) (τ := σ) (d := 7) (y := yX8_last) (j := 60) C0 B (by decide) (by decide +kernel) rfl rfl rfl (by simp [Value.category]) (m_last hτ) (fun hM1 hMσ => ?_)
  refine lw_cmp C0 (off := 1012) (tgt := 1528) (by decide +kernel) (by decide) ?_
  exact next _ _ _ hCσ hMσ
theorem law_11 {p : Program} {l : Launch} {e : Env} {s : State} {m : MethodId} {below : List Frame} {meth : Method} {c : Code} {b L : Nat} {xs : Nat → Int32} {D : va_G} {dA : Nat → ClassId} {aC aM : Nat → Nat} {cN sN : Nat} {hC hM : aH} {σ : MS} {n : Nat} (C0 : lw_At p s m meth c b L xs) (B : lwB s D dA aC aM cN sN) (hL : L ≤ 3072) (hn : n + 5 < L) (hσ : ClS hC σ) (hτ : MoS hM σ) (next : ∀ hC hM σ, ClS hC σ → MoS hM σ → LW p l e s m below meth c b D dA aC aM cN sN 1528 (nI n) [] hC hM) : LW p l e s m below meth c b D dA aC aM cN sN 521 (nI n) [] hC hM := by
  refine lw_ld1 C0 (by decide +kernel) ?_
  refine lw_arg (k := 1) (kk := 1) C0 hL hn (by omega) (by decide +kernel) (by decide +kernel) (by decide +kernel) (by decide) (by decide +kernel) (by decide +kernel) ?_
  refine lw_callC (as := [.int (xs (n + 1))]) (x := (r_core σ (xs (n + 1)))) (τ := σ) (d := 7) (y := yX7_core) (j := 61) C0 B (by decide) (by decide +kernel) rfl rfl rfl (by simp [Value.category]) (c_core hσ) (fun hC1 hCσ => ?_)
  refine lw_ld2 C0 (by decide +kernel) ?_
  refine lw_arg (k := 1) (kk := 1) C0 hL hn (by omega) (by decide +kernel) (by decide +kernel) (by decide +kernel) (by decide) (by decide +kernel) (by decide +kernel) ?_
  refine lw_callM (as := [.int (xs (n + 1))]) (x := (r_core σ (xs (n + 1)))) (τ := σ) (d := 7) (y := yX8_core) (j := 64) C0 B (by decide) (by decide +kernel) rfl rfl rfl (by simp [Value.category]) (m_core hτ) (fun hM1 hMσ => ?_)
  refine lw_cmp C0 (off := 989) (tgt := 1528) (by decide +kernel) (by decide) ?_
  exact next _ _ _ hCσ hMσ
theorem law_12 {p : Program} {l : Launch} {e : Env} {s : State} {m : MethodId} {below : List Frame} {meth : Method} {c : Code} {b L : Nat} {xs : Nat → Int32} {D : va_G} {dA : Nat → ClassId} {aC aM : Nat → Nat} {cN sN : Nat} {hC hM : aH} {σ : MS} {n : Nat} (C0 : lw_At p s m meth c b L xs) (B : lwB s D dA aC aM cN sN) (hL : L ≤ 3072) (hn : n + 5 < L) (hσ : ClS hC σ) (hτ : MoS hM σ) (next : ∀ hC hM σ, ClS hC σ → MoS hM σ → LW p l e s m below meth c b D dA aC aM cN sN 1528 (nI n) [] hC hM) : LW p l e s m below meth c b D dA aC aM cN sN 544 (nI n) [] hC hM := by
  refine lw_ld1 C0 (by decide +kernel) ?_
  refine lw_arg (k := 1) (kk := 1) C0 hL hn (by omega) (by decide +kernel) (by decide +kernel) (by decide +kernel) (by decide) (by decide +kernel) (by decide +kernel) ?_
  refine lw_arg (k := 2) (kk := 2) C0 hL hn (by omega) (by decide +kernel) (by decide +kernel) (by decide +kernel) (by decide) (by decide +kernel) (by decide +kernel) ?_
  refine lw_callC (as := [.int (xs (n + 1)), .int (xs (n + 2))]) (x := (r_reason σ (xs (n + 1)) (xs (n + 2)))) (τ := σ) (d := 7) (y := yX7_reason) (j := 65) C0 B (by decide) (by decide +kernel) rfl rfl rfl (by simp [Value.category]) (c_reason hσ) (fun hC1 hCσ => ?_)
  refine lw_ld2 C0 (by decide +kernel) ?_
  refine lw_arg (k := 1) (kk := 1) C0 hL hn (by omega) (by decide +kernel) (by decide +kernel) (by decide +kernel) (by decide) (by decide +kernel) (by decide +kernel) ?_
  refine lw_arg (k := 2) (kk := 2) C0 hL hn (by omega) (by decide +kernel) (by decide +kernel) (by decide +kernel) (by decide) (by decide +kernel) (by decide +kernel) ?_
  refine lw_callM (as := [.int (xs (n + 1)), .int (xs (n + 2))]) (x := (r_reason σ (xs (n + 1)) (xs (n + 2)))) (τ := σ) (d := 7) (y := yX8_reason) (j := 68) C0 B (by decide) (by decide +kernel) rfl rfl rfl (by simp [Value.category]) (m_reason hτ) (fun hM1 hMσ => ?_)
  refine lw_cmp C0 (off := 956) (tgt := 1528) (by decide +kernel) (by decide) ?_
  exact next _ _ _ hCσ hMσ
theorem law_13 {p : Program} {l : Launch} {e : Env} {s : State} {m : MethodId} {below : List Frame} {meth : Method} {c : Code} {b L : Nat} {xs : Nat → Int32} {D : va_G} {dA : Nat → ClassId} {aC aM : Nat → Nat} {cN sN : Nat} {hC hM : aH} {σ : MS} {n : Nat} (C0 : lw_At p s m meth c b L xs) (B : lwB s D dA aC aM cN sN) (hL : L ≤ 3072) (hn : n + 5 < L) (hσ : ClS hC σ) (hτ : MoS hM σ) (next : ∀ hC hM σ, ClS hC σ → MoS hM σ → LW p l e s m below meth c b D dA aC aM cN sN 1528 (nI n) [] hC hM) : LW p l e s m below meth c b D dA aC aM cN sN 577 (nI n) [] hC hM := by
  refine lw_ld1 C0 (by decide +kernel) ?_
  refine lw_arg (k := 1) (kk := 1) C0 hL hn (by omega) (by decide +kernel) (by decide +kernel) (by decide +kernel) (by decide) (by decide +kernel) (by decide +kernel) ?_
  refine lw_arg (k := 2) (kk := 2) C0 hL hn (by omega) (by decide +kernel) (by decide +kernel) (by decide +kernel) (by decide) (by decide +kernel) (by decide +kernel) ?_
  refine lw_callC (as := [.int (xs (n + 1)), .int (xs (n + 2))]) (x := (r_test σ (xs (n + 1)) (xs (n + 2)))) (τ := (n_test σ (xs (n + 1)) (xs (n + 2)))) (d := 7) (y := yX7_test) (j := 69) C0 B (by decide) (by decide +kernel) rfl rfl rfl (by simp [Value.category]) (c_test hσ) (fun hC1 hCσ => ?_)
  refine lw_ld2 C0 (by decide +kernel) ?_
  refine lw_arg (k := 1) (kk := 1) C0 hL hn (by omega) (by decide +kernel) (by decide +kernel) (by decide +kernel) (by decide) (by decide +kernel) (by decide +kernel) ?_
  refine lw_arg (k := 2) (kk := 2) C0 hL hn (by omega) (by decide +kernel) (by decide +kernel) (by decide +kernel) (by decide) (by decide +kernel) (by decide +kernel) ?_
  refine lw_callM (as := [.int (xs (n + 1)), .int (xs (n + 2))]) (x := (r_test σ (xs (n + 1)) (xs (n + 2)))) (τ := (n_test σ (xs (n + 1)) (xs (n + 2)))) (d := 7) (y := yX8_test) (j := 72) C0 B (by decide) (by decide +kernel) rfl rfl rfl (by simp [Value.category]) (m_test hτ) (fun hM1 hMσ => ?_)
  refine lw_cmp C0 (off := 923) (tgt := 1528) (by decide +kernel) (by decide) ?_
  exact next _ _ _ hCσ hMσ
theorem law_14 {p : Program} {l : Launch} {e : Env} {s : State} {m : MethodId} {below : List Frame} {meth : Method} {c : Code} {b L : Nat} {xs : Nat → Int32} {D : va_G} {dA : Nat → ClassId} {aC aM : Nat → Nat} {cN sN : Nat} {hC hM : aH} {σ : MS} {n : Nat} (C0 : lw_At p s m meth c b L xs) (B : lwB s D dA aC aM cN sN) (hL : L ≤ 3072) (hn : n + 5 < L) (hσ : ClS hC σ) (hτ : MoS hM σ) (next : ∀ hC hM σ, ClS hC σ → MoS hM σ → LW p l e s m below meth c b D dA aC aM cN sN 1528 (nI n) [] hC hM) : LW p l e s m below meth c b D dA aC aM cN sN 610 (nI n) [] hC hM := by
  refine lw_ld1 C0 (by decide +kernel) ?_
  refine lw_callC (as := []) (x := (r_left σ)) (τ := σ) (d := 7) (y := yX7_left) (j := 73) C0 B (by decide) (by decide +kernel) rfl rfl rfl (by simp [Value.category]) (c_left hσ) (fun hC1 hCσ => ?_)
  refine lw_ld2 C0 (by decide +kernel) ?_
  refine lw_callM (as := []) (x := (r_left σ)) (τ := σ) (d := 7) (y := yX8_left) (j := 76) C0 B (by decide) (by decide +kernel) rfl rfl rfl (by simp [Value.category]) (m_left hτ) (fun hM1 hMσ => ?_)
  refine lw_cmp C0 (off := 910) (tgt := 1528) (by decide +kernel) (by decide) ?_
  exact next _ _ _ hCσ hMσ
theorem law_15 {p : Program} {l : Launch} {e : Env} {s : State} {m : MethodId} {below : List Frame} {meth : Method} {c : Code} {b L : Nat} {xs : Nat → Int32} {D : va_G} {dA : Nat → ClassId} {aC aM : Nat → Nat} {cN sN : Nat} {hC hM : aH} {σ : MS} {n : Nat} (C0 : lw_At p s m meth c b L xs) (B : lwB s D dA aC aM cN sN) (hL : L ≤ 3072) (hn : n + 5 < L) (hσ : ClS hC σ) (hτ : MoS hM σ) (next : ∀ hC hM σ, ClS hC σ → MoS hM σ → LW p l e s m below meth c b D dA aC aM cN sN 1528 (nI n) [] hC hM) : LW p l e s m below meth c b D dA aC aM cN sN 623 (nI n) [] hC hM := by
  refine lw_ld1 C0 (by decide +kernel) ?_
  refine lw_callC (as := []) (x := (r_ask σ)) (τ := σ) (d := 7) (y := yX7_ask) (j := 77) C0 B (by decide) (by decide +kernel) rfl rfl rfl (by simp [Value.category]) (c_ask hσ) (fun hC1 hCσ => ?_)
  refine lw_ld2 C0 (by decide +kernel) ?_
  refine lw_callM (as := []) (x := (r_ask σ)) (τ := σ) (d := 7) (y := yX8_ask) (j := 80) C0 B (by decide) (by decide +kernel) rfl rfl rfl (by simp [Value.category]) (m_ask hτ) (fun hM1 hMσ => ?_)
  refine lw_cmp C0 (off := 897) (tgt := 1528) (by decide +kernel) (by decide) ?_
  exact next _ _ _ hCσ hMσ
theorem law_16 {p : Program} {l : Launch} {e : Env} {s : State} {m : MethodId} {below : List Frame} {meth : Method} {c : Code} {b L : Nat} {xs : Nat → Int32} {D : va_G} {dA : Nat → ClassId} {aC aM : Nat → Nat} {cN sN : Nat} {hC hM : aH} {σ : MS} {n : Nat} (C0 : lw_At p s m meth c b L xs) (B : lwB s D dA aC aM cN sN) (hL : L ≤ 3072) (hn : n + 5 < L) (hσ : ClS hC σ) (hτ : MoS hM σ) (next : ∀ hC hM σ, ClS hC σ → MoS hM σ → LW p l e s m below meth c b D dA aC aM cN sN 1528 (nI n) [] hC hM) : LW p l e s m below meth c b D dA aC aM cN sN 636 (nI n) [] hC hM := by
  refine lw_ld1 C0 (by decide +kernel) ?_
  refine lw_arg (k := 1) (kk := 1) C0 hL hn (by omega) (by decide +kernel) (by decide +kernel) (by decide +kernel) (by decide) (by decide +kernel) (by decide +kernel) ?_
  refine lw_arg (k := 2) (kk := 2) C0 hL hn (by omega) (by decide +kernel) (by decide +kernel) (by decide +kernel) (by decide) (by decide +kernel) (by decide +kernel) ?_
  refine lw_bool C0 (by decide +kernel) (by decide +kernel) (by decide +kernel) (by decide +kernel) ?_
  refine lw_callC (as := [.int (xs (n + 1)), .int (bI (decide (¬ xs (n + 2) = 0)))]) (x := (r_answer σ (xs (n + 1)) (decide (¬ xs (n + 2) = 0)))) (τ := (n_answer σ (xs (n + 1)) (decide (¬ xs (n + 2) = 0)))) (d := 7) (y := yX7_answer) (j := 81) C0 B (by decide) (by decide +kernel) rfl rfl rfl (by simp [Value.category]) (c_answer hσ) (fun hC1 hCσ => ?_)
  refine lw_ld2 C0 (by decide +kernel) ?_
  refine lw_arg (k := 1) (kk := 1) C0 hL hn (by omega) (by decide +kernel) (by decide +kernel) (by decide +kernel) (by decide) (by decide +kernel) (by decide +kernel) ?_
  refine lw_arg (k := 2) (kk := 2) C0 hL hn (by omega) (by decide +kernel) (by decide +kernel) (by decide +kernel) (by decide) (by decide +kernel) (by decide +kernel) ?_
  refine lw_bool C0 (by decide +kernel) (by decide +kernel) (by decide +kernel) (by decide +kernel) ?_
  refine lw_callM (as := [.int (xs (n + 1)), .int (bI (decide (¬ xs (n + 2) = 0)))]) (x := (r_answer σ (xs (n + 1)) (decide (¬ xs (n + 2) = 0)))) (τ := (n_answer σ (xs (n + 1)) (decide (¬ xs (n + 2) = 0)))) (d := 7) (y := yX8_answer) (j := 85) C0 B (by decide) (by decide +kernel) rfl rfl rfl (by simp [Value.category]) (m_answer hτ) (fun hM1 hMσ => ?_)
  refine lw_cmp C0 (off := 848) (tgt := 1528) (by decide +kernel) (by decide) ?_
  exact next _ _ _ hCσ hMσ
theorem law_17 {p : Program} {l : Launch} {e : Env} {s : State} {m : MethodId} {below : List Frame} {meth : Method} {c : Code} {b L : Nat} {xs : Nat → Int32} {D : va_G} {dA : Nat → ClassId} {aC aM : Nat → Nat} {cN sN : Nat} {hC hM : aH} {σ : MS} {n : Nat} (C0 : lw_At p s m meth c b L xs) (B : lwB s D dA aC aM cN sN) (hL : L ≤ 3072) (hn : n + 5 < L) (hσ : ClS hC σ) (hτ : MoS hM σ) (next : ∀ hC hM σ, ClS hC σ → MoS hM σ → LW p l e s m below meth c b D dA aC aM cN sN 1528 (nI n) [] hC hM) : LW p l e s m below meth c b D dA aC aM cN sN 685 (nI n) [] hC hM := by
  refine lw_ld1 C0 (by decide +kernel) ?_
  refine lw_arg (k := 1) (kk := 1) C0 hL hn (by omega) (by decide +kernel) (by decide +kernel) (by decide +kernel) (by decide) (by decide +kernel) (by decide +kernel) ?_
  refine lw_arg (k := 2) (kk := 2) C0 hL hn (by omega) (by decide +kernel) (by decide +kernel) (by decide +kernel) (by decide) (by decide +kernel) (by decide +kernel) ?_
  refine lw_bool C0 (by decide +kernel) (by decide +kernel) (by decide +kernel) (by decide +kernel) ?_
  refine lw_callC (as := [.int (xs (n + 1)), .int (bI (decide (¬ xs (n + 2) = 0)))]) (x := (r_unsure σ (xs (n + 1)) (decide (¬ xs (n + 2) = 0)))) (τ := (n_unsure σ (xs (n + 1)) (decide (¬ xs (n + 2) = 0)))) (d := 7) (y := yX7_unsure) (j := 86) C0 B (by decide) (by decide +kernel) rfl rfl rfl (by simp [Value.category]) (c_unsure hσ) (fun hC1 hCσ => ?_)
  refine lw_ld2 C0 (by decide +kernel) ?_
  refine lw_arg (k := 1) (kk := 1) C0 hL hn (by omega) (by decide +kernel) (by decide +kernel) (by decide +kernel) (by decide) (by decide +kernel) (by decide +kernel) ?_
  refine lw_arg (k := 2) (kk := 2) C0 hL hn (by omega) (by decide +kernel) (by decide +kernel) (by decide +kernel) (by decide) (by decide +kernel) (by decide +kernel) ?_
  refine lw_bool C0 (by decide +kernel) (by decide +kernel) (by decide +kernel) (by decide +kernel) ?_
  refine lw_callM (as := [.int (xs (n + 1)), .int (bI (decide (¬ xs (n + 2) = 0)))]) (x := (r_unsure σ (xs (n + 1)) (decide (¬ xs (n + 2) = 0)))) (τ := (n_unsure σ (xs (n + 1)) (decide (¬ xs (n + 2) = 0)))) (d := 7) (y := yX8_unsure) (j := 89) C0 B (by decide) (by decide +kernel) rfl rfl rfl (by simp [Value.category]) (m_unsure hτ) (fun hM1 hMσ => ?_)
  refine lw_cmp C0 (off := 799) (tgt := 1528) (by decide +kernel) (by decide) ?_
  exact next _ _ _ hCσ hMσ
theorem law_18 {p : Program} {l : Launch} {e : Env} {s : State} {m : MethodId} {below : List Frame} {meth : Method} {c : Code} {b L : Nat} {xs : Nat → Int32} {D : va_G} {dA : Nat → ClassId} {aC aM : Nat → Nat} {cN sN : Nat} {hC hM : aH} {σ : MS} {n : Nat} (C0 : lw_At p s m meth c b L xs) (B : lwB s D dA aC aM cN sN) (hL : L ≤ 3072) (hn : n + 5 < L) (hσ : ClS hC σ) (hτ : MoS hM σ) (next : ∀ hC hM σ, ClS hC σ → MoS hM σ → LW p l e s m below meth c b D dA aC aM cN sN 1528 (nI n) [] hC hM) : LW p l e s m below meth c b D dA aC aM cN sN 734 (nI n) [] hC hM := by
  refine lw_ld1 C0 (by decide +kernel) ?_
  refine lw_callC (as := []) (x := (r_likely σ)) (τ := σ) (d := 7) (y := yX7_likely) (j := 90) C0 B (by decide) (by decide +kernel) rfl rfl rfl (by simp [Value.category]) (c_likely hσ) (fun hC1 hCσ => ?_)
  refine lw_ld2 C0 (by decide +kernel) ?_
  refine lw_callM (as := []) (x := (r_likely σ)) (τ := σ) (d := 7) (y := yX8_likely) (j := 93) C0 B (by decide) (by decide +kernel) rfl rfl rfl (by simp [Value.category]) (m_likely hτ) (fun hM1 hMσ => ?_)
  refine lw_cmp C0 (off := 786) (tgt := 1528) (by decide +kernel) (by decide) ?_
  exact next _ _ _ hCσ hMσ
theorem law_19 {p : Program} {l : Launch} {e : Env} {s : State} {m : MethodId} {below : List Frame} {meth : Method} {c : Code} {b L : Nat} {xs : Nat → Int32} {D : va_G} {dA : Nat → ClassId} {aC aM : Nat → Nat} {cN sN : Nat} {hC hM : aH} {σ : MS} {n : Nat} (C0 : lw_At p s m meth c b L xs) (B : lwB s D dA aC aM cN sN) (hL : L ≤ 3072) (hn : n + 5 < L) (hσ : ClS hC σ) (hτ : MoS hM σ) (next : ∀ hC hM σ, ClS hC σ → MoS hM σ → LW p l e s m below meth c b D dA aC aM cN sN 1528 (nI n) [] hC hM) : LW p l e s m below meth c b D dA aC aM cN sN 747 (nI n) [] hC hM := by
  refine lw_ld1 C0 (by decide +kernel) ?_
  refine lw_arg (k := 1) (kk := 1) C0 hL hn (by omega) (by decide +kernel) (by decide +kernel) (by decide +kernel) (by decide) (by decide +kernel) (by decide +kernel) ?_
  refine lw_callCL (as := [.int (xs (n + 1))]) (x := (r_weight σ (xs (n + 1)))) (τ := σ) (d := 7) (y := yX7_weight) (j := 94) C0 B (by decide) (by decide +kernel) rfl rfl rfl (by simp [Value.category]) (c_weight hσ) (fun hC1 hCσ => ?_)
  refine lw_ld2 C0 (by decide +kernel) ?_
  refine lw_arg (k := 1) (kk := 1) C0 hL hn (by omega) (by decide +kernel) (by decide +kernel) (by decide +kernel) (by decide) (by decide +kernel) (by decide +kernel) ?_
  refine lw_callML (as := [.int (xs (n + 1))]) (x := (r_weight σ (xs (n + 1)))) (τ := σ) (d := 7) (y := yX8_weight) (j := 98) C0 B (by decide) (by decide +kernel) rfl rfl rfl (by simp [Value.category]) (m_weight hτ) (fun hM1 hMσ => ?_)
  refine lw_cmpL C0 (off := 762) (tgt := 1528) (by decide +kernel) (by decide +kernel) (by decide) ?_
  exact next _ _ _ hCσ hMσ
theorem law_20 {p : Program} {l : Launch} {e : Env} {s : State} {m : MethodId} {below : List Frame} {meth : Method} {c : Code} {b L : Nat} {xs : Nat → Int32} {D : va_G} {dA : Nat → ClassId} {aC aM : Nat → Nat} {cN sN : Nat} {hC hM : aH} {σ : MS} {n : Nat} (C0 : lw_At p s m meth c b L xs) (B : lwB s D dA aC aM cN sN) (hL : L ≤ 3072) (hn : n + 5 < L) (hσ : ClS hC σ) (hτ : MoS hM σ) (next : ∀ hC hM σ, ClS hC σ → MoS hM σ → LW p l e s m below meth c b D dA aC aM cN sN 1528 (nI n) [] hC hM) : LW p l e s m below meth c b D dA aC aM cN sN 771 (nI n) [] hC hM := by
  refine lw_ld1 C0 (by decide +kernel) ?_
  refine lw_callCL (as := []) (x := (r_weights σ)) (τ := σ) (d := 7) (y := yX7_weights) (j := 99) C0 B (by decide) (by decide +kernel) rfl rfl rfl (by simp [Value.category]) (c_weights hσ) (fun hC1 hCσ => ?_)
  refine lw_ld2 C0 (by decide +kernel) ?_
  refine lw_callML (as := []) (x := (r_weights σ)) (τ := σ) (d := 7) (y := yX8_weights) (j := 103) C0 B (by decide) (by decide +kernel) rfl rfl rfl (by simp [Value.category]) (m_weights hτ) (fun hM1 hMσ => ?_)
  refine lw_cmpL C0 (off := 748) (tgt := 1528) (by decide +kernel) (by decide +kernel) (by decide) ?_
  exact next _ _ _ hCσ hMσ
theorem law_21 {p : Program} {l : Launch} {e : Env} {s : State} {m : MethodId} {below : List Frame} {meth : Method} {c : Code} {b L : Nat} {xs : Nat → Int32} {D : va_G} {dA : Nat → ClassId} {aC aM : Nat → Nat} {cN sN : Nat} {hC hM : aH} {σ : MS} {n : Nat} (C0 : lw_At p s m meth c b L xs) (B : lwB s D dA aC aM cN sN) (hL : L ≤ 3072) (hn : n + 5 < L) (hσ : ClS hC σ) (hτ : MoS hM σ) (next : ∀ hC hM σ, ClS hC σ → MoS hM σ → LW p l e s m below meth c b D dA aC aM cN sN 1528 (nI n) [] hC hM) : LW p l e s m below meth c b D dA aC aM cN sN 785 (nI n) [] hC hM := by
  refine lw_ld1 C0 (by decide +kernel) ?_
  refine lw_callC (as := []) (x := (r_worst σ)) (τ := σ) (d := 7) (y := yX7_worst) (j := 104) C0 B (by decide) (by decide +kernel) rfl rfl rfl (by simp [Value.category]) (c_worst hσ) (fun hC1 hCσ => ?_)
  refine lw_ld2 C0 (by decide +kernel) ?_
  refine lw_callM (as := []) (x := (r_worst σ)) (τ := σ) (d := 7) (y := yX8_worst) (j := 107) C0 B (by decide) (by decide +kernel) rfl rfl rfl (by simp [Value.category]) (m_worst hτ) (fun hM1 hMσ => ?_)
  refine lw_cmp C0 (off := 735) (tgt := 1528) (by decide +kernel) (by decide) ?_
  exact next _ _ _ hCσ hMσ
theorem law_22 {p : Program} {l : Launch} {e : Env} {s : State} {m : MethodId} {below : List Frame} {meth : Method} {c : Code} {b L : Nat} {xs : Nat → Int32} {D : va_G} {dA : Nat → ClassId} {aC aM : Nat → Nat} {cN sN : Nat} {hC hM : aH} {σ : MS} {n : Nat} (C0 : lw_At p s m meth c b L xs) (B : lwB s D dA aC aM cN sN) (hL : L ≤ 3072) (hn : n + 5 < L) (hσ : ClS hC σ) (hτ : MoS hM σ) (next : ∀ hC hM σ, ClS hC σ → MoS hM σ → LW p l e s m below meth c b D dA aC aM cN sN 1528 (nI n) [] hC hM) : LW p l e s m below meth c b D dA aC aM cN sN 798 (nI n) [] hC hM := by
  refine lw_ld1 C0 (by decide +kernel) ?_
  refine lw_arg (k := 1) (kk := 1) C0 hL hn (by omega) (by decide +kernel) (by decide +kernel) (by decide +kernel) (by decide) (by decide +kernel) (by decide +kernel) ?_
  refine lw_arg (k := 2) (kk := 2) C0 hL hn (by omega) (by decide +kernel) (by decide +kernel) (by decide +kernel) (by decide) (by decide +kernel) (by decide +kernel) ?_
  refine lw_callC (as := [.int (xs (n + 1)), .int (xs (n + 2))]) (x := (r_cost σ (xs (n + 1)) (xs (n + 2)))) (τ := σ) (d := 7) (y := yX7_cost) (j := 108) C0 B (by decide) (by decide +kernel) rfl rfl rfl (by simp [Value.category]) (c_cost hσ) (fun hC1 hCσ => ?_)
  refine lw_ld2 C0 (by decide +kernel) ?_
  refine lw_arg (k := 1) (kk := 1) C0 hL hn (by omega) (by decide +kernel) (by decide +kernel) (by decide +kernel) (by decide) (by decide +kernel) (by decide +kernel) ?_
  refine lw_arg (k := 2) (kk := 2) C0 hL hn (by omega) (by decide +kernel) (by decide +kernel) (by decide +kernel) (by decide) (by decide +kernel) (by decide +kernel) ?_
  refine lw_callM (as := [.int (xs (n + 1)), .int (xs (n + 2))]) (x := (r_cost σ (xs (n + 1)) (xs (n + 2)))) (τ := σ) (d := 7) (y := yX8_cost) (j := 111) C0 B (by decide) (by decide +kernel) rfl rfl rfl (by simp [Value.category]) (m_cost hτ) (fun hM1 hMσ => ?_)
  refine lw_cmp C0 (off := 702) (tgt := 1528) (by decide +kernel) (by decide) ?_
  exact next _ _ _ hCσ hMσ
theorem law_23 {p : Program} {l : Launch} {e : Env} {s : State} {m : MethodId} {below : List Frame} {meth : Method} {c : Code} {b L : Nat} {xs : Nat → Int32} {D : va_G} {dA : Nat → ClassId} {aC aM : Nat → Nat} {cN sN : Nat} {hC hM : aH} {σ : MS} {n : Nat} (C0 : lw_At p s m meth c b L xs) (B : lwB s D dA aC aM cN sN) (hL : L ≤ 3072) (hn : n + 5 < L) (hσ : ClS hC σ) (hτ : MoS hM σ) (next : ∀ hC hM σ, ClS hC σ → MoS hM σ → LW p l e s m below meth c b D dA aC aM cN sN 1528 (nI n) [] hC hM) : LW p l e s m below meth c b D dA aC aM cN sN 831 (nI n) [] hC hM := by
  refine lw_ld1 C0 (by decide +kernel) ?_
  refine lw_arg (k := 1) (kk := 1) C0 hL hn (by omega) (by decide +kernel) (by decide +kernel) (by decide +kernel) (by decide) (by decide +kernel) (by decide +kernel) ?_
  refine lw_arg (k := 2) (kk := 2) C0 hL hn (by omega) (by decide +kernel) (by decide +kernel) (by decide +kernel) (by decide) (by decide +kernel) (by decide +kernel) ?_
  refine lw_arg (k := 3) (kk := 3) C0 hL hn (by omega) (by decide +kernel) (by decide +kernel) (by decide +kernel) (by decide) (by decide +kernel) (by decide +kernel) ?_
  refine lw_callC (as := [.int (xs (n + 1)), .int (xs (n + 2)), .int (xs (n + 3))]) (x := (r_way σ (xs (n + 1)) (xs (n + 2)) (xs (n + 3)))) (τ := σ) (d := 7) (y := yX7_way) (j := 112) C0 B (by decide) (by decide +kernel) rfl rfl rfl (by simp [Value.category]) (c_way hσ) (fun hC1 hCσ => ?_)
  refine lw_ld2 C0 (by decide +kernel) ?_
  refine lw_arg (k := 1) (kk := 1) C0 hL hn (by omega) (by decide +kernel) (by decide +kernel) (by decide +kernel) (by decide) (by decide +kernel) (by decide +kernel) ?_
  refine lw_arg (k := 2) (kk := 2) C0 hL hn (by omega) (by decide +kernel) (by decide +kernel) (by decide +kernel) (by decide) (by decide +kernel) (by decide +kernel) ?_
  refine lw_arg (k := 3) (kk := 3) C0 hL hn (by omega) (by decide +kernel) (by decide +kernel) (by decide +kernel) (by decide) (by decide +kernel) (by decide +kernel) ?_
  refine lw_callM (as := [.int (xs (n + 1)), .int (xs (n + 2)), .int (xs (n + 3))]) (x := (r_way σ (xs (n + 1)) (xs (n + 2)) (xs (n + 3)))) (τ := σ) (d := 7) (y := yX8_way) (j := 115) C0 B (by decide) (by decide +kernel) rfl rfl rfl (by simp [Value.category]) (m_way hτ) (fun hM1 hMσ => ?_)
  refine lw_cmp C0 (off := 659) (tgt := 1528) (by decide +kernel) (by decide) ?_
  exact next _ _ _ hCσ hMσ
theorem law_24 {p : Program} {l : Launch} {e : Env} {s : State} {m : MethodId} {below : List Frame} {meth : Method} {c : Code} {b L : Nat} {xs : Nat → Int32} {D : va_G} {dA : Nat → ClassId} {aC aM : Nat → Nat} {cN sN : Nat} {hC hM : aH} {σ : MS} {n : Nat} (C0 : lw_At p s m meth c b L xs) (B : lwB s D dA aC aM cN sN) (hL : L ≤ 3072) (hn : n + 5 < L) (hσ : ClS hC σ) (hτ : MoS hM σ) (next : ∀ hC hM σ, ClS hC σ → MoS hM σ → LW p l e s m below meth c b D dA aC aM cN sN 1528 (nI n) [] hC hM) : LW p l e s m below meth c b D dA aC aM cN sN 874 (nI n) [] hC hM := by
  refine lw_ld1 C0 (by decide +kernel) ?_
  refine lw_arg (k := 1) (kk := 1) C0 hL hn (by omega) (by decide +kernel) (by decide +kernel) (by decide +kernel) (by decide) (by decide +kernel) (by decide +kernel) ?_
  refine lw_callC (as := [.int (xs (n + 1))]) (x := (r_ways σ (xs (n + 1)))) (τ := σ) (d := 7) (y := yX7_ways) (j := 116) C0 B (by decide) (by decide +kernel) rfl rfl rfl (by simp [Value.category]) (c_ways hσ) (fun hC1 hCσ => ?_)
  refine lw_ld2 C0 (by decide +kernel) ?_
  refine lw_arg (k := 1) (kk := 1) C0 hL hn (by omega) (by decide +kernel) (by decide +kernel) (by decide +kernel) (by decide) (by decide +kernel) (by decide +kernel) ?_
  refine lw_callM (as := [.int (xs (n + 1))]) (x := (r_ways σ (xs (n + 1)))) (τ := σ) (d := 7) (y := yX8_ways) (j := 119) C0 B (by decide) (by decide +kernel) rfl rfl rfl (by simp [Value.category]) (m_ways hτ) (fun hM1 hMσ => ?_)
  refine lw_cmp C0 (off := 636) (tgt := 1528) (by decide +kernel) (by decide) ?_
  exact next _ _ _ hCσ hMσ
theorem law_25 {p : Program} {l : Launch} {e : Env} {s : State} {m : MethodId} {below : List Frame} {meth : Method} {c : Code} {b L : Nat} {xs : Nat → Int32} {D : va_G} {dA : Nat → ClassId} {aC aM : Nat → Nat} {cN sN : Nat} {hC hM : aH} {σ : MS} {n : Nat} (C0 : lw_At p s m meth c b L xs) (B : lwB s D dA aC aM cN sN) (hL : L ≤ 3072) (hn : n + 5 < L) (hσ : ClS hC σ) (hτ : MoS hM σ) (next : ∀ hC hM σ, ClS hC σ → MoS hM σ → LW p l e s m below meth c b D dA aC aM cN sN 1528 (nI n) [] hC hM) : LW p l e s m below meth c b D dA aC aM cN sN 897 (nI n) [] hC hM := by
  refine lw_ld1 C0 (by decide +kernel) ?_
  refine lw_arg (k := 1) (kk := 1) C0 hL hn (by omega) (by decide +kernel) (by decide +kernel) (by decide +kernel) (by decide) (by decide +kernel) (by decide +kernel) ?_
  refine lw_callC (as := [.int (xs (n + 1))]) (x := (r_learn σ (xs (n + 1)))) (τ := (n_learn σ (xs (n + 1)))) (d := 7) (y := yX7_learn) (j := 120) C0 B (by decide) (by decide +kernel) rfl rfl rfl (by simp [Value.category]) (c_learn hσ) (fun hC1 hCσ => ?_)
  refine lw_ld2 C0 (by decide +kernel) ?_
  refine lw_arg (k := 1) (kk := 1) C0 hL hn (by omega) (by decide +kernel) (by decide +kernel) (by decide +kernel) (by decide) (by decide +kernel) (by decide +kernel) ?_
  refine lw_callM (as := [.int (xs (n + 1))]) (x := (r_learn σ (xs (n + 1)))) (τ := (n_learn σ (xs (n + 1)))) (d := 7) (y := yX8_learn) (j := 123) C0 B (by decide) (by decide +kernel) rfl rfl rfl (by simp [Value.category]) (m_learn hτ) (fun hM1 hMσ => ?_)
  refine lw_cmp C0 (off := 613) (tgt := 1528) (by decide +kernel) (by decide) ?_
  exact next _ _ _ hCσ hMσ
theorem law_26 {p : Program} {l : Launch} {e : Env} {s : State} {m : MethodId} {below : List Frame} {meth : Method} {c : Code} {b L : Nat} {xs : Nat → Int32} {D : va_G} {dA : Nat → ClassId} {aC aM : Nat → Nat} {cN sN : Nat} {hC hM : aH} {σ : MS} {n : Nat} (C0 : lw_At p s m meth c b L xs) (B : lwB s D dA aC aM cN sN) (hL : L ≤ 3072) (hn : n + 5 < L) (hσ : ClS hC σ) (hτ : MoS hM σ) (next : ∀ hC hM σ, ClS hC σ → MoS hM σ → LW p l e s m below meth c b D dA aC aM cN sN 1528 (nI n) [] hC hM) : LW p l e s m below meth c b D dA aC aM cN sN 920 (nI n) [] hC hM := by
  refine lw_ld1 C0 (by decide +kernel) ?_
  refine lw_arg (k := 1) (kk := 1) C0 hL hn (by omega) (by decide +kernel) (by decide +kernel) (by decide +kernel) (by decide) (by decide +kernel) (by decide +kernel) ?_
  refine lw_callC (as := [.int (xs (n + 1))]) (x := (r_use σ (xs (n + 1)))) (τ := (n_use σ (xs (n + 1)))) (d := 7) (y := yX7_use) (j := 124) C0 B (by decide) (by decide +kernel) rfl rfl rfl (by simp [Value.category]) (c_use hσ) (fun hC1 hCσ => ?_)
  refine lw_ld2 C0 (by decide +kernel) ?_
  refine lw_arg (k := 1) (kk := 1) C0 hL hn (by omega) (by decide +kernel) (by decide +kernel) (by decide +kernel) (by decide) (by decide +kernel) (by decide +kernel) ?_
  refine lw_callM (as := [.int (xs (n + 1))]) (x := (r_use σ (xs (n + 1)))) (τ := (n_use σ (xs (n + 1)))) (d := 7) (y := yX8_use) (j := 127) C0 B (by decide) (by decide +kernel) rfl rfl rfl (by simp [Value.category]) (m_use hτ) (fun hM1 hMσ => ?_)
  refine lw_cmp C0 (off := 590) (tgt := 1528) (by decide +kernel) (by decide) ?_
  exact next _ _ _ hCσ hMσ
theorem law_27 {p : Program} {l : Launch} {e : Env} {s : State} {m : MethodId} {below : List Frame} {meth : Method} {c : Code} {b L : Nat} {xs : Nat → Int32} {D : va_G} {dA : Nat → ClassId} {aC aM : Nat → Nat} {cN sN : Nat} {hC hM : aH} {σ : MS} {n : Nat} (C0 : lw_At p s m meth c b L xs) (B : lwB s D dA aC aM cN sN) (hL : L ≤ 3072) (hn : n + 5 < L) (hσ : ClS hC σ) (hτ : MoS hM σ) (next : ∀ hC hM σ, ClS hC σ → MoS hM σ → LW p l e s m below meth c b D dA aC aM cN sN 1528 (nI n) [] hC hM) : LW p l e s m below meth c b D dA aC aM cN sN 943 (nI n) [] hC hM := by
  refine lw_ld1 C0 (by decide +kernel) ?_
  refine lw_arg (k := 1) (kk := 1) C0 hL hn (by omega) (by decide +kernel) (by decide +kernel) (by decide +kernel) (by decide) (by decide +kernel) (by decide +kernel) ?_
  refine lw_callC (as := [.int (xs (n + 1))]) (x := (r_pass σ (xs (n + 1)))) (τ := (n_pass σ (xs (n + 1)))) (d := 7) (y := yX7_pass) (j := 128) C0 B (by decide) (by decide +kernel) rfl rfl rfl (by simp [Value.category]) (c_pass hσ) (fun hC1 hCσ => ?_)
  refine lw_ld2 C0 (by decide +kernel) ?_
  refine lw_arg (k := 1) (kk := 1) C0 hL hn (by omega) (by decide +kernel) (by decide +kernel) (by decide +kernel) (by decide) (by decide +kernel) (by decide +kernel) ?_
  refine lw_callM (as := [.int (xs (n + 1))]) (x := (r_pass σ (xs (n + 1)))) (τ := (n_pass σ (xs (n + 1)))) (d := 7) (y := yX8_pass) (j := 131) C0 B (by decide) (by decide +kernel) rfl rfl rfl (by simp [Value.category]) (m_pass hτ) (fun hM1 hMσ => ?_)
  refine lw_cmp C0 (off := 567) (tgt := 1528) (by decide +kernel) (by decide) ?_
  exact next _ _ _ hCσ hMσ
theorem law_28 {p : Program} {l : Launch} {e : Env} {s : State} {m : MethodId} {below : List Frame} {meth : Method} {c : Code} {b L : Nat} {xs : Nat → Int32} {D : va_G} {dA : Nat → ClassId} {aC aM : Nat → Nat} {cN sN : Nat} {hC hM : aH} {σ : MS} {n : Nat} (C0 : lw_At p s m meth c b L xs) (B : lwB s D dA aC aM cN sN) (hL : L ≤ 3072) (hn : n + 5 < L) (hσ : ClS hC σ) (hτ : MoS hM σ) (next : ∀ hC hM σ, ClS hC σ → MoS hM σ → LW p l e s m below meth c b D dA aC aM cN sN 1528 (nI n) [] hC hM) : LW p l e s m below meth c b D dA aC aM cN sN 966 (nI n) [] hC hM := by
  refine lw_ld1 C0 (by decide +kernel) ?_
  refine lw_arg (k := 1) (kk := 1) C0 hL hn (by omega) (by decide +kernel) (by decide +kernel) (by decide +kernel) (by decide) (by decide +kernel) (by decide +kernel) ?_
  refine lw_callC (as := [.int (xs (n + 1))]) (x := (r_pupil σ (xs (n + 1)))) (τ := (n_pupil σ (xs (n + 1)))) (d := 7) (y := yX7_pupil) (j := 132) C0 B (by decide) (by decide +kernel) rfl rfl rfl (by simp [Value.category]) (c_pupil hσ) (fun hC1 hCσ => ?_)
  refine lw_ld2 C0 (by decide +kernel) ?_
  refine lw_arg (k := 1) (kk := 1) C0 hL hn (by omega) (by decide +kernel) (by decide +kernel) (by decide +kernel) (by decide) (by decide +kernel) (by decide +kernel) ?_
  refine lw_callM (as := [.int (xs (n + 1))]) (x := (r_pupil σ (xs (n + 1)))) (τ := (n_pupil σ (xs (n + 1)))) (d := 7) (y := yX8_pupil) (j := 135) C0 B (by decide) (by decide +kernel) rfl rfl rfl (by simp [Value.category]) (m_pupil hτ) (fun hM1 hMσ => ?_)
  refine lw_cmp C0 (off := 544) (tgt := 1528) (by decide +kernel) (by decide) ?_
  exact next _ _ _ hCσ hMσ
theorem law_29 {p : Program} {l : Launch} {e : Env} {s : State} {m : MethodId} {below : List Frame} {meth : Method} {c : Code} {b L : Nat} {xs : Nat → Int32} {D : va_G} {dA : Nat → ClassId} {aC aM : Nat → Nat} {cN sN : Nat} {hC hM : aH} {σ : MS} {n : Nat} (C0 : lw_At p s m meth c b L xs) (B : lwB s D dA aC aM cN sN) (hL : L ≤ 3072) (hn : n + 5 < L) (hσ : ClS hC σ) (hτ : MoS hM σ) (next : ∀ hC hM σ, ClS hC σ → MoS hM σ → LW p l e s m below meth c b D dA aC aM cN sN 1528 (nI n) [] hC hM) : LW p l e s m below meth c b D dA aC aM cN sN 989 (nI n) [] hC hM := by
  refine lw_ld1 C0 (by decide +kernel) ?_
  refine lw_arg (k := 1) (kk := 1) C0 hL hn (by omega) (by decide +kernel) (by decide +kernel) (by decide +kernel) (by decide) (by decide +kernel) (by decide +kernel) ?_
  refine lw_arg (k := 2) (kk := 2) C0 hL hn (by omega) (by decide +kernel) (by decide +kernel) (by decide +kernel) (by decide) (by decide +kernel) (by decide +kernel) ?_
  refine lw_arg (k := 3) (kk := 3) C0 hL hn (by omega) (by decide +kernel) (by decide +kernel) (by decide +kernel) (by decide) (by decide +kernel) (by decide +kernel) ?_
  refine lw_callC (as := [.int (xs (n + 1)), .int (xs (n + 2)), .int (xs (n + 3))]) (x := (r_sheet σ (xs (n + 1)) (xs (n + 2)) (xs (n + 3)))) (τ := (n_sheet σ (xs (n + 1)) (xs (n + 2)) (xs (n + 3)))) (d := 7) (y := yX7_sheet) (j := 136) C0 B (by decide) (by decide +kernel) rfl rfl rfl (by simp [Value.category]) (c_sheet hσ) (fun hC1 hCσ => ?_)
  refine lw_ld2 C0 (by decide +kernel) ?_
  refine lw_arg (k := 1) (kk := 1) C0 hL hn (by omega) (by decide +kernel) (by decide +kernel) (by decide +kernel) (by decide) (by decide +kernel) (by decide +kernel) ?_
  refine lw_arg (k := 2) (kk := 2) C0 hL hn (by omega) (by decide +kernel) (by decide +kernel) (by decide +kernel) (by decide) (by decide +kernel) (by decide +kernel) ?_
  refine lw_arg (k := 3) (kk := 3) C0 hL hn (by omega) (by decide +kernel) (by decide +kernel) (by decide +kernel) (by decide) (by decide +kernel) (by decide +kernel) ?_
  refine lw_callM (as := [.int (xs (n + 1)), .int (xs (n + 2)), .int (xs (n + 3))]) (x := (r_sheet σ (xs (n + 1)) (xs (n + 2)) (xs (n + 3)))) (τ := (n_sheet σ (xs (n + 1)) (xs (n + 2)) (xs (n + 3)))) (d := 7) (y := yX8_sheet) (j := 139) C0 B (by decide) (by decide +kernel) rfl rfl rfl (by simp [Value.category]) (m_sheet hτ) (fun hM1 hMσ => ?_)
  refine lw_cmp C0 (off := 501) (tgt := 1528) (by decide +kernel) (by decide) ?_
  exact next _ _ _ hCσ hMσ
theorem law_30 {p : Program} {l : Launch} {e : Env} {s : State} {m : MethodId} {below : List Frame} {meth : Method} {c : Code} {b L : Nat} {xs : Nat → Int32} {D : va_G} {dA : Nat → ClassId} {aC aM : Nat → Nat} {cN sN : Nat} {hC hM : aH} {σ : MS} {n : Nat} (C0 : lw_At p s m meth c b L xs) (B : lwB s D dA aC aM cN sN) (hL : L ≤ 3072) (hn : n + 5 < L) (hσ : ClS hC σ) (hτ : MoS hM σ) (next : ∀ hC hM σ, ClS hC σ → MoS hM σ → LW p l e s m below meth c b D dA aC aM cN sN 1528 (nI n) [] hC hM) : LW p l e s m below meth c b D dA aC aM cN sN 1032 (nI n) [] hC hM := by
  refine lw_ld1 C0 (by decide +kernel) ?_
  refine lw_arg (k := 1) (kk := 1) C0 hL hn (by omega) (by decide +kernel) (by decide +kernel) (by decide +kernel) (by decide) (by decide +kernel) (by decide +kernel) ?_
  refine lw_callC (as := [.int (xs (n + 1))]) (x := (r_lose σ (xs (n + 1)))) (τ := (n_lose σ (xs (n + 1)))) (d := 7) (y := yX7_lose) (j := 140) C0 B (by decide) (by decide +kernel) rfl rfl rfl (by simp [Value.category]) (c_lose hσ) (fun hC1 hCσ => ?_)
  refine lw_ld2 C0 (by decide +kernel) ?_
  refine lw_arg (k := 1) (kk := 1) C0 hL hn (by omega) (by decide +kernel) (by decide +kernel) (by decide +kernel) (by decide) (by decide +kernel) (by decide +kernel) ?_
  refine lw_callM (as := [.int (xs (n + 1))]) (x := (r_lose σ (xs (n + 1)))) (τ := (n_lose σ (xs (n + 1)))) (d := 7) (y := yX8_lose) (j := 143) C0 B (by decide) (by decide +kernel) rfl rfl rfl (by simp [Value.category]) (m_lose hτ) (fun hM1 hMσ => ?_)
  refine lw_cmp C0 (off := 478) (tgt := 1528) (by decide +kernel) (by decide) ?_
  exact next _ _ _ hCσ hMσ
theorem law_31 {p : Program} {l : Launch} {e : Env} {s : State} {m : MethodId} {below : List Frame} {meth : Method} {c : Code} {b L : Nat} {xs : Nat → Int32} {D : va_G} {dA : Nat → ClassId} {aC aM : Nat → Nat} {cN sN : Nat} {hC hM : aH} {σ : MS} {n : Nat} (C0 : lw_At p s m meth c b L xs) (B : lwB s D dA aC aM cN sN) (hL : L ≤ 3072) (hn : n + 5 < L) (hσ : ClS hC σ) (hτ : MoS hM σ) (next : ∀ hC hM σ, ClS hC σ → MoS hM σ → LW p l e s m below meth c b D dA aC aM cN sN 1528 (nI n) [] hC hM) : LW p l e s m below meth c b D dA aC aM cN sN 1055 (nI n) [] hC hM := by
  refine lw_ld1 C0 (by decide +kernel) ?_
  refine lw_arg (k := 1) (kk := 1) C0 hL hn (by omega) (by decide +kernel) (by decide +kernel) (by decide +kernel) (by decide) (by decide +kernel) (by decide +kernel) ?_
  refine lw_arg (k := 2) (kk := 2) C0 hL hn (by omega) (by decide +kernel) (by decide +kernel) (by decide +kernel) (by decide) (by decide +kernel) (by decide +kernel) ?_
  refine lw_arg (k := 3) (kk := 3) C0 hL hn (by omega) (by decide +kernel) (by decide +kernel) (by decide +kernel) (by decide) (by decide +kernel) (by decide +kernel) ?_
  refine lw_arg (k := 4) (kk := 4) C0 hL hn (by omega) (by decide +kernel) (by decide +kernel) (by decide +kernel) (by decide) (by decide +kernel) (by decide +kernel) ?_
  refine lw_callC (as := [.int (xs (n + 1)), .int (xs (n + 2)), .int (xs (n + 3)), .int (xs (n + 4))]) (x := (r_put σ (xs (n + 1)) (xs (n + 2)) (xs (n + 3)))) (τ := (n_put σ (xs (n + 1)) (xs (n + 2)) (xs (n + 3)) (xs (n + 4)))) (d := 7) (y := yX7_put) (j := 144) C0 B (by decide) (by decide +kernel) rfl rfl rfl (by simp [Value.category]) (c_put hσ) (fun hC1 hCσ => ?_)
  refine lw_ld2 C0 (by decide +kernel) ?_
  refine lw_arg (k := 1) (kk := 1) C0 hL hn (by omega) (by decide +kernel) (by decide +kernel) (by decide +kernel) (by decide) (by decide +kernel) (by decide +kernel) ?_
  refine lw_arg (k := 2) (kk := 2) C0 hL hn (by omega) (by decide +kernel) (by decide +kernel) (by decide +kernel) (by decide) (by decide +kernel) (by decide +kernel) ?_
  refine lw_arg (k := 3) (kk := 3) C0 hL hn (by omega) (by decide +kernel) (by decide +kernel) (by decide +kernel) (by decide) (by decide +kernel) (by decide +kernel) ?_
  refine lw_arg (k := 4) (kk := 4) C0 hL hn (by omega) (by decide +kernel) (by decide +kernel) (by decide +kernel) (by decide) (by decide +kernel) (by decide +kernel) ?_
  refine lw_callM (as := [.int (xs (n + 1)), .int (xs (n + 2)), .int (xs (n + 3)), .int (xs (n + 4))]) (x := (r_put σ (xs (n + 1)) (xs (n + 2)) (xs (n + 3)))) (τ := (n_put σ (xs (n + 1)) (xs (n + 2)) (xs (n + 3)) (xs (n + 4)))) (d := 7) (y := yX8_put) (j := 148) C0 B (by decide) (by decide +kernel) rfl rfl rfl (by simp [Value.category]) (m_put hτ) (fun hM1 hMσ => ?_)
  refine lw_cmp C0 (off := 425) (tgt := 1528) (by decide +kernel) (by decide) ?_
  exact next _ _ _ hCσ hMσ
theorem law_32 {p : Program} {l : Launch} {e : Env} {s : State} {m : MethodId} {below : List Frame} {meth : Method} {c : Code} {b L : Nat} {xs : Nat → Int32} {D : va_G} {dA : Nat → ClassId} {aC aM : Nat → Nat} {cN sN : Nat} {hC hM : aH} {σ : MS} {n : Nat} (C0 : lw_At p s m meth c b L xs) (B : lwB s D dA aC aM cN sN) (hL : L ≤ 3072) (hn : n + 5 < L) (hσ : ClS hC σ) (hτ : MoS hM σ) (next : ∀ hC hM σ, ClS hC σ → MoS hM σ → LW p l e s m below meth c b D dA aC aM cN sN 1528 (nI n) [] hC hM) : LW p l e s m below meth c b D dA aC aM cN sN 1108 (nI n) [] hC hM := by
  refine lw_ld1 C0 (by decide +kernel) ?_
  refine lw_arg (k := 1) (kk := 1) C0 hL hn (by omega) (by decide +kernel) (by decide +kernel) (by decide +kernel) (by decide) (by decide +kernel) (by decide +kernel) ?_
  refine lw_arg (k := 2) (kk := 2) C0 hL hn (by omega) (by decide +kernel) (by decide +kernel) (by decide +kernel) (by decide) (by decide +kernel) (by decide +kernel) ?_
  refine lw_arg (k := 3) (kk := 3) C0 hL hn (by omega) (by decide +kernel) (by decide +kernel) (by decide +kernel) (by decide) (by decide +kernel) (by decide +kernel) ?_
  refine lw_callC (as := [.int (xs (n + 1)), .int (xs (n + 2)), .int (xs (n + 3))]) (x := (r_get σ (xs (n + 1)) (xs (n + 2)) (xs (n + 3)))) (τ := (n_get σ (xs (n + 1)) (xs (n + 2)) (xs (n + 3)))) (d := 7) (y := yX7_get) (j := 149) C0 B (by decide) (by decide +kernel) rfl rfl rfl (by simp [Value.category]) (c_get hσ) (fun hC1 hCσ => ?_)
  refine lw_ld2 C0 (by decide +kernel) ?_
  refine lw_arg (k := 1) (kk := 1) C0 hL hn (by omega) (by decide +kernel) (by decide +kernel) (by decide +kernel) (by decide) (by decide +kernel) (by decide +kernel) ?_
  refine lw_arg (k := 2) (kk := 2) C0 hL hn (by omega) (by decide +kernel) (by decide +kernel) (by decide +kernel) (by decide) (by decide +kernel) (by decide +kernel) ?_
  refine lw_arg (k := 3) (kk := 3) C0 hL hn (by omega) (by decide +kernel) (by decide +kernel) (by decide +kernel) (by decide) (by decide +kernel) (by decide +kernel) ?_
  refine lw_callM (as := [.int (xs (n + 1)), .int (xs (n + 2)), .int (xs (n + 3))]) (x := (r_get σ (xs (n + 1)) (xs (n + 2)) (xs (n + 3)))) (τ := (n_get σ (xs (n + 1)) (xs (n + 2)) (xs (n + 3)))) (d := 7) (y := yX8_get) (j := 152) C0 B (by decide) (by decide +kernel) rfl rfl rfl (by simp [Value.category]) (m_get hτ) (fun hM1 hMσ => ?_)
  refine lw_cmp C0 (off := 382) (tgt := 1528) (by decide +kernel) (by decide) ?_
  exact next _ _ _ hCσ hMσ
theorem law_33 {p : Program} {l : Launch} {e : Env} {s : State} {m : MethodId} {below : List Frame} {meth : Method} {c : Code} {b L : Nat} {xs : Nat → Int32} {D : va_G} {dA : Nat → ClassId} {aC aM : Nat → Nat} {cN sN : Nat} {hC hM : aH} {σ : MS} {n : Nat} (C0 : lw_At p s m meth c b L xs) (B : lwB s D dA aC aM cN sN) (hL : L ≤ 3072) (hn : n + 5 < L) (hσ : ClS hC σ) (hτ : MoS hM σ) (next : ∀ hC hM σ, ClS hC σ → MoS hM σ → LW p l e s m below meth c b D dA aC aM cN sN 1528 (nI n) [] hC hM) : LW p l e s m below meth c b D dA aC aM cN sN 1151 (nI n) [] hC hM := by
  refine lw_ld1 C0 (by decide +kernel) ?_
  refine lw_arg (k := 1) (kk := 1) C0 hL hn (by omega) (by decide +kernel) (by decide +kernel) (by decide +kernel) (by decide) (by decide +kernel) (by decide +kernel) ?_
  refine lw_arg (k := 2) (kk := 2) C0 hL hn (by omega) (by decide +kernel) (by decide +kernel) (by decide +kernel) (by decide) (by decide +kernel) (by decide +kernel) ?_
  refine lw_arg (k := 3) (kk := 3) C0 hL hn (by omega) (by decide +kernel) (by decide +kernel) (by decide +kernel) (by decide) (by decide +kernel) (by decide +kernel) ?_
  refine lw_arg (k := 4) (kk := 4) C0 hL hn (by omega) (by decide +kernel) (by decide +kernel) (by decide +kernel) (by decide) (by decide +kernel) (by decide +kernel) ?_
  refine lw_arg (k := 5) (kk := 5) C0 hL hn (by omega) (by decide +kernel) (by decide +kernel) (by decide +kernel) (by decide) (by decide +kernel) (by decide +kernel) ?_
  refine lw_callC (as := [.int (xs (n + 1)), .int (xs (n + 2)), .int (xs (n + 3)), .int (xs (n + 4)), .int (xs (n + 5))]) (x := (r_copy σ (xs (n + 1)) (xs (n + 2)) (xs (n + 3)) (xs (n + 4)) (xs (n + 5)))) (τ := (n_copy σ (xs (n + 1)) (xs (n + 2)) (xs (n + 3)) (xs (n + 4)) (xs (n + 5)))) (d := 7) (y := yX7_copy) (j := 153) C0 B (by decide) (by decide +kernel) rfl rfl rfl (by simp [Value.category]) (c_copy hσ) (fun hC1 hCσ => ?_)
  refine lw_ld2 C0 (by decide +kernel) ?_
  refine lw_arg (k := 1) (kk := 1) C0 hL hn (by omega) (by decide +kernel) (by decide +kernel) (by decide +kernel) (by decide) (by decide +kernel) (by decide +kernel) ?_
  refine lw_arg (k := 2) (kk := 2) C0 hL hn (by omega) (by decide +kernel) (by decide +kernel) (by decide +kernel) (by decide) (by decide +kernel) (by decide +kernel) ?_
  refine lw_arg (k := 3) (kk := 3) C0 hL hn (by omega) (by decide +kernel) (by decide +kernel) (by decide +kernel) (by decide) (by decide +kernel) (by decide +kernel) ?_
  refine lw_arg (k := 4) (kk := 4) C0 hL hn (by omega) (by decide +kernel) (by decide +kernel) (by decide +kernel) (by decide) (by decide +kernel) (by decide +kernel) ?_
  refine lw_arg (k := 5) (kk := 5) C0 hL hn (by omega) (by decide +kernel) (by decide +kernel) (by decide +kernel) (by decide) (by decide +kernel) (by decide +kernel) ?_
  refine lw_callM (as := [.int (xs (n + 1)), .int (xs (n + 2)), .int (xs (n + 3)), .int (xs (n + 4)), .int (xs (n + 5))]) (x := (r_copy σ (xs (n + 1)) (xs (n + 2)) (xs (n + 3)) (xs (n + 4)) (xs (n + 5)))) (τ := (n_copy σ (xs (n + 1)) (xs (n + 2)) (xs (n + 3)) (xs (n + 4)) (xs (n + 5)))) (d := 7) (y := yX8_copy) (j := 157) C0 B (by decide) (by decide +kernel) rfl rfl rfl (by simp [Value.category]) (m_copy hτ) (fun hM1 hMσ => ?_)
  refine lw_cmp C0 (off := 319) (tgt := 1528) (by decide +kernel) (by decide) ?_
  exact next _ _ _ hCσ hMσ
theorem law_34 {p : Program} {l : Launch} {e : Env} {s : State} {m : MethodId} {below : List Frame} {meth : Method} {c : Code} {b L : Nat} {xs : Nat → Int32} {D : va_G} {dA : Nat → ClassId} {aC aM : Nat → Nat} {cN sN : Nat} {hC hM : aH} {σ : MS} {n : Nat} (C0 : lw_At p s m meth c b L xs) (B : lwB s D dA aC aM cN sN) (hL : L ≤ 3072) (hn : n + 5 < L) (hσ : ClS hC σ) (hτ : MoS hM σ) (next : ∀ hC hM σ, ClS hC σ → MoS hM σ → LW p l e s m below meth c b D dA aC aM cN sN 1528 (nI n) [] hC hM) : LW p l e s m below meth c b D dA aC aM cN sN 1214 (nI n) [] hC hM := by
  refine lw_ld1 C0 (by decide +kernel) ?_
  refine lw_arg (k := 1) (kk := 1) C0 hL hn (by omega) (by decide +kernel) (by decide +kernel) (by decide +kernel) (by decide) (by decide +kernel) (by decide +kernel) ?_
  refine lw_callC (as := [.int (xs (n + 1))]) (x := (r_nearest σ (xs (n + 1)))) (τ := σ) (d := 7) (y := yX7_nearest) (j := 158) C0 B (by decide) (by decide +kernel) rfl rfl rfl (by simp [Value.category]) (c_nearest hσ) (fun hC1 hCσ => ?_)
  refine lw_ld2 C0 (by decide +kernel) ?_
  refine lw_arg (k := 1) (kk := 1) C0 hL hn (by omega) (by decide +kernel) (by decide +kernel) (by decide +kernel) (by decide) (by decide +kernel) (by decide +kernel) ?_
  refine lw_callM (as := [.int (xs (n + 1))]) (x := (r_nearest σ (xs (n + 1)))) (τ := σ) (d := 7) (y := yX8_nearest) (j := 161) C0 B (by decide) (by decide +kernel) rfl rfl rfl (by simp [Value.category]) (m_nearest hτ) (fun hM1 hMσ => ?_)
  refine lw_cmp C0 (off := 296) (tgt := 1528) (by decide +kernel) (by decide) ?_
  exact next _ _ _ hCσ hMσ
theorem law_35 {p : Program} {l : Launch} {e : Env} {s : State} {m : MethodId} {below : List Frame} {meth : Method} {c : Code} {b L : Nat} {xs : Nat → Int32} {D : va_G} {dA : Nat → ClassId} {aC aM : Nat → Nat} {cN sN : Nat} {hC hM : aH} {σ : MS} {n : Nat} (C0 : lw_At p s m meth c b L xs) (B : lwB s D dA aC aM cN sN) (hL : L ≤ 3072) (hn : n + 5 < L) (hσ : ClS hC σ) (hτ : MoS hM σ) (next : ∀ hC hM σ, ClS hC σ → MoS hM σ → LW p l e s m below meth c b D dA aC aM cN sN 1528 (nI n) [] hC hM) : LW p l e s m below meth c b D dA aC aM cN sN 1237 (nI n) [] hC hM := by
  refine lw_ld1 C0 (by decide +kernel) ?_
  refine lw_arg (k := 1) (kk := 1) C0 hL hn (by omega) (by decide +kernel) (by decide +kernel) (by decide +kernel) (by decide) (by decide +kernel) (by decide +kernel) ?_
  refine lw_arg (k := 2) (kk := 2) C0 hL hn (by omega) (by decide +kernel) (by decide +kernel) (by decide +kernel) (by decide) (by decide +kernel) (by decide +kernel) ?_
  refine lw_callC (as := [.int (xs (n + 1)), .int (xs (n + 2))]) (x := (r_far σ (xs (n + 1)) (xs (n + 2)))) (τ := σ) (d := 7) (y := yX7_far) (j := 162) C0 B (by decide) (by decide +kernel) rfl rfl rfl (by simp [Value.category]) (c_far hσ) (fun hC1 hCσ => ?_)
  refine lw_ld2 C0 (by decide +kernel) ?_
  refine lw_arg (k := 1) (kk := 1) C0 hL hn (by omega) (by decide +kernel) (by decide +kernel) (by decide +kernel) (by decide) (by decide +kernel) (by decide +kernel) ?_
  refine lw_arg (k := 2) (kk := 2) C0 hL hn (by omega) (by decide +kernel) (by decide +kernel) (by decide +kernel) (by decide) (by decide +kernel) (by decide +kernel) ?_
  refine lw_callM (as := [.int (xs (n + 1)), .int (xs (n + 2))]) (x := (r_far σ (xs (n + 1)) (xs (n + 2)))) (τ := σ) (d := 7) (y := yX8_far) (j := 165) C0 B (by decide) (by decide +kernel) rfl rfl rfl (by simp [Value.category]) (m_far hτ) (fun hM1 hMσ => ?_)
  refine lw_cmp C0 (off := 263) (tgt := 1528) (by decide +kernel) (by decide) ?_
  exact next _ _ _ hCσ hMσ
theorem law_36 {p : Program} {l : Launch} {e : Env} {s : State} {m : MethodId} {below : List Frame} {meth : Method} {c : Code} {b L : Nat} {xs : Nat → Int32} {D : va_G} {dA : Nat → ClassId} {aC aM : Nat → Nat} {cN sN : Nat} {hC hM : aH} {σ : MS} {n : Nat} (C0 : lw_At p s m meth c b L xs) (B : lwB s D dA aC aM cN sN) (hL : L ≤ 3072) (hn : n + 5 < L) (hσ : ClS hC σ) (hτ : MoS hM σ) (next : ∀ hC hM σ, ClS hC σ → MoS hM σ → LW p l e s m below meth c b D dA aC aM cN sN 1528 (nI n) [] hC hM) : LW p l e s m below meth c b D dA aC aM cN sN 1270 (nI n) [] hC hM := by
  refine lw_ld1 C0 (by decide +kernel) ?_
  refine lw_arg (k := 1) (kk := 1) C0 hL hn (by omega) (by decide +kernel) (by decide +kernel) (by decide +kernel) (by decide) (by decide +kernel) (by decide +kernel) ?_
  refine lw_callC (as := [.int (xs (n + 1))]) (x := (r_base σ (xs (n + 1)))) (τ := σ) (d := 7) (y := yX7_base) (j := 166) C0 B (by decide) (by decide +kernel) rfl rfl rfl (by simp [Value.category]) (c_base hσ) (fun hC1 hCσ => ?_)
  refine lw_ld2 C0 (by decide +kernel) ?_
  refine lw_arg (k := 1) (kk := 1) C0 hL hn (by omega) (by decide +kernel) (by decide +kernel) (by decide +kernel) (by decide) (by decide +kernel) (by decide +kernel) ?_
  refine lw_callM (as := [.int (xs (n + 1))]) (x := (r_base σ (xs (n + 1)))) (τ := σ) (d := 7) (y := yX8_base) (j := 169) C0 B (by decide) (by decide +kernel) rfl rfl rfl (by simp [Value.category]) (m_base hτ) (fun hM1 hMσ => ?_)
  refine lw_cmp C0 (off := 240) (tgt := 1528) (by decide +kernel) (by decide) ?_
  exact next _ _ _ hCσ hMσ
theorem law_37 {p : Program} {l : Launch} {e : Env} {s : State} {m : MethodId} {below : List Frame} {meth : Method} {c : Code} {b L : Nat} {xs : Nat → Int32} {D : va_G} {dA : Nat → ClassId} {aC aM : Nat → Nat} {cN sN : Nat} {hC hM : aH} {σ : MS} {n : Nat} (C0 : lw_At p s m meth c b L xs) (B : lwB s D dA aC aM cN sN) (hL : L ≤ 3072) (hn : n + 5 < L) (hσ : ClS hC σ) (hτ : MoS hM σ) (next : ∀ hC hM σ, ClS hC σ → MoS hM σ → LW p l e s m below meth c b D dA aC aM cN sN 1528 (nI n) [] hC hM) : LW p l e s m below meth c b D dA aC aM cN sN 1293 (nI n) [] hC hM := by
  refine lw_ld1 C0 (by decide +kernel) ?_
  refine lw_arg (k := 1) (kk := 1) C0 hL hn (by omega) (by decide +kernel) (by decide +kernel) (by decide +kernel) (by decide) (by decide +kernel) (by decide +kernel) ?_
  refine lw_arg (k := 2) (kk := 2) C0 hL hn (by omega) (by decide +kernel) (by decide +kernel) (by decide +kernel) (by decide) (by decide +kernel) (by decide +kernel) ?_
  refine lw_callC (as := [.int (xs (n + 1)), .int (xs (n + 2))]) (x := (r_atom σ (xs (n + 1)) (xs (n + 2)))) (τ := σ) (d := 7) (y := yX7_atom) (j := 170) C0 B (by decide) (by decide +kernel) rfl rfl rfl (by simp [Value.category]) (c_atom hσ) (fun hC1 hCσ => ?_)
  refine lw_ld2 C0 (by decide +kernel) ?_
  refine lw_arg (k := 1) (kk := 1) C0 hL hn (by omega) (by decide +kernel) (by decide +kernel) (by decide +kernel) (by decide) (by decide +kernel) (by decide +kernel) ?_
  refine lw_arg (k := 2) (kk := 2) C0 hL hn (by omega) (by decide +kernel) (by decide +kernel) (by decide +kernel) (by decide) (by decide +kernel) (by decide +kernel) ?_
  refine lw_callM (as := [.int (xs (n + 1)), .int (xs (n + 2))]) (x := (r_atom σ (xs (n + 1)) (xs (n + 2)))) (τ := σ) (d := 7) (y := yX8_atom) (j := 173) C0 B (by decide) (by decide +kernel) rfl rfl rfl (by simp [Value.category]) (m_atom hτ) (fun hM1 hMσ => ?_)
  refine lw_cmp C0 (off := 207) (tgt := 1528) (by decide +kernel) (by decide) ?_
  exact next _ _ _ hCσ hMσ
theorem law_38 {p : Program} {l : Launch} {e : Env} {s : State} {m : MethodId} {below : List Frame} {meth : Method} {c : Code} {b L : Nat} {xs : Nat → Int32} {D : va_G} {dA : Nat → ClassId} {aC aM : Nat → Nat} {cN sN : Nat} {hC hM : aH} {σ : MS} {n : Nat} (C0 : lw_At p s m meth c b L xs) (B : lwB s D dA aC aM cN sN) (hL : L ≤ 3072) (hn : n + 5 < L) (hσ : ClS hC σ) (hτ : MoS hM σ) (next : ∀ hC hM σ, ClS hC σ → MoS hM σ → LW p l e s m below meth c b D dA aC aM cN sN 1528 (nI n) [] hC hM) : LW p l e s m below meth c b D dA aC aM cN sN 1326 (nI n) [] hC hM := by
  refine lw_ld1 C0 (by decide +kernel) ?_
  refine lw_arg (k := 1) (kk := 1) C0 hL hn (by omega) (by decide +kernel) (by decide +kernel) (by decide +kernel) (by decide) (by decide +kernel) (by decide +kernel) ?_
  refine lw_callC (as := [.int (xs (n + 1))]) (x := (r_misfit σ (xs (n + 1)))) (τ := (nfSh σ (xs (n + 1)) σ)) (d := 7) (y := yX7_misfit) (j := 174) C0 B (by decide) (by decide +kernel) rfl rfl rfl (by simp [Value.category]) (c_misfit hσ) (fun hC1 hCσ => ?_)
  refine lw_ld2 C0 (by decide +kernel) ?_
  refine lw_arg (k := 1) (kk := 1) C0 hL hn (by omega) (by decide +kernel) (by decide +kernel) (by decide +kernel) (by decide) (by decide +kernel) (by decide +kernel) ?_
  refine lw_callM (as := [.int (xs (n + 1))]) (x := (r_misfit σ (xs (n + 1)))) (τ := (nfSh σ (xs (n + 1)) σ)) (d := 7) (y := yX8_misfit) (j := 177) C0 B (by decide) (by decide +kernel) rfl rfl rfl (by simp [Value.category]) (m_misfit hτ) (fun hM1 hMσ => ?_)
  refine lw_cmp C0 (off := 184) (tgt := 1528) (by decide +kernel) (by decide) ?_
  exact next _ _ _ hCσ hMσ
theorem law_39 {p : Program} {l : Launch} {e : Env} {s : State} {m : MethodId} {below : List Frame} {meth : Method} {c : Code} {b L : Nat} {xs : Nat → Int32} {D : va_G} {dA : Nat → ClassId} {aC aM : Nat → Nat} {cN sN : Nat} {hC hM : aH} {σ : MS} {n : Nat} (C0 : lw_At p s m meth c b L xs) (B : lwB s D dA aC aM cN sN) (hL : L ≤ 3072) (hn : n + 5 < L) (hσ : ClS hC σ) (hτ : MoS hM σ) (next : ∀ hC hM σ, ClS hC σ → MoS hM σ → LW p l e s m below meth c b D dA aC aM cN sN 1528 (nI n) [] hC hM) : LW p l e s m below meth c b D dA aC aM cN sN 1349 (nI n) [] hC hM := by
  refine lw_ld1 C0 (by decide +kernel) ?_
  refine lw_arg (k := 1) (kk := 1) C0 hL hn (by omega) (by decide +kernel) (by decide +kernel) (by decide +kernel) (by decide) (by decide +kernel) (by decide +kernel) ?_
  refine lw_arg (k := 2) (kk := 2) C0 hL hn (by omega) (by decide +kernel) (by decide +kernel) (by decide +kernel) (by decide) (by decide +kernel) (by decide +kernel) ?_
  refine lw_arg (k := 3) (kk := 3) C0 hL hn (by omega) (by decide +kernel) (by decide +kernel) (by decide +kernel) (by decide) (by decide +kernel) (by decide +kernel) ?_
  refine lw_callC (as := [.int (xs (n + 1)), .int (xs (n + 2)), .int (xs (n + 3))]) (x := (r_odd σ (xs (n + 1)) (xs (n + 2)) (xs (n + 3)))) (τ := (n_odd σ (xs (n + 1)) (xs (n + 2)) (xs (n + 3)))) (d := 7) (y := yX7_odd) (j := 178) C0 B (by decide) (by decide +kernel) rfl rfl rfl (by simp [Value.category]) (c_odd hσ) (fun hC1 hCσ => ?_)
  refine lw_ld2 C0 (by decide +kernel) ?_
  refine lw_arg (k := 1) (kk := 1) C0 hL hn (by omega) (by decide +kernel) (by decide +kernel) (by decide +kernel) (by decide) (by decide +kernel) (by decide +kernel) ?_
  refine lw_arg (k := 2) (kk := 2) C0 hL hn (by omega) (by decide +kernel) (by decide +kernel) (by decide +kernel) (by decide) (by decide +kernel) (by decide +kernel) ?_
  refine lw_arg (k := 3) (kk := 3) C0 hL hn (by omega) (by decide +kernel) (by decide +kernel) (by decide +kernel) (by decide) (by decide +kernel) (by decide +kernel) ?_
  refine lw_callM (as := [.int (xs (n + 1)), .int (xs (n + 2)), .int (xs (n + 3))]) (x := (r_odd σ (xs (n + 1)) (xs (n + 2)) (xs (n + 3)))) (τ := (n_odd σ (xs (n + 1)) (xs (n + 2)) (xs (n + 3)))) (d := 7) (y := yX8_odd) (j := 181) C0 B (by decide) (by decide +kernel) rfl rfl rfl (by simp [Value.category]) (m_odd hτ) (fun hM1 hMσ => ?_)
  refine lw_cmp C0 (off := 141) (tgt := 1528) (by decide +kernel) (by decide) ?_
  exact next _ _ _ hCσ hMσ
theorem law_40 {p : Program} {l : Launch} {e : Env} {s : State} {m : MethodId} {below : List Frame} {meth : Method} {c : Code} {b L : Nat} {xs : Nat → Int32} {D : va_G} {dA : Nat → ClassId} {aC aM : Nat → Nat} {cN sN : Nat} {hC hM : aH} {σ : MS} {n : Nat} (C0 : lw_At p s m meth c b L xs) (B : lwB s D dA aC aM cN sN) (hL : L ≤ 3072) (hn : n + 5 < L) (hσ : ClS hC σ) (hτ : MoS hM σ) (next : ∀ hC hM σ, ClS hC σ → MoS hM σ → LW p l e s m below meth c b D dA aC aM cN sN 1528 (nI n) [] hC hM) : LW p l e s m below meth c b D dA aC aM cN sN 1392 (nI n) [] hC hM := by
  refine lw_ld1 C0 (by decide +kernel) ?_
  refine lw_arg (k := 1) (kk := 1) C0 hL hn (by omega) (by decide +kernel) (by decide +kernel) (by decide +kernel) (by decide) (by decide +kernel) (by decide +kernel) ?_
  refine lw_arg (k := 2) (kk := 2) C0 hL hn (by omega) (by decide +kernel) (by decide +kernel) (by decide +kernel) (by decide) (by decide +kernel) (by decide +kernel) ?_
  refine lw_arg (k := 3) (kk := 3) C0 hL hn (by omega) (by decide +kernel) (by decide +kernel) (by decide +kernel) (by decide) (by decide +kernel) (by decide +kernel) ?_
  refine lw_callC (as := [.int (xs (n + 1)), .int (xs (n + 2)), .int (xs (n + 3))]) (x := (r_seen σ (xs (n + 1)) (xs (n + 2)) (xs (n + 3)))) (τ := (n_seen σ (xs (n + 1)) (xs (n + 2)) (xs (n + 3)))) (d := 7) (y := yX7_seen) (j := 182) C0 B (by decide) (by decide +kernel) rfl rfl rfl (by simp [Value.category]) (c_seen hσ) (fun hC1 hCσ => ?_)
  refine lw_ld2 C0 (by decide +kernel) ?_
  refine lw_arg (k := 1) (kk := 1) C0 hL hn (by omega) (by decide +kernel) (by decide +kernel) (by decide +kernel) (by decide) (by decide +kernel) (by decide +kernel) ?_
  refine lw_arg (k := 2) (kk := 2) C0 hL hn (by omega) (by decide +kernel) (by decide +kernel) (by decide +kernel) (by decide) (by decide +kernel) (by decide +kernel) ?_
  refine lw_arg (k := 3) (kk := 3) C0 hL hn (by omega) (by decide +kernel) (by decide +kernel) (by decide +kernel) (by decide) (by decide +kernel) (by decide +kernel) ?_
  refine lw_callM (as := [.int (xs (n + 1)), .int (xs (n + 2)), .int (xs (n + 3))]) (x := (r_seen σ (xs (n + 1)) (xs (n + 2)) (xs (n + 3)))) (τ := (n_seen σ (xs (n + 1)) (xs (n + 2)) (xs (n + 3)))) (d := 7) (y := yX8_seen) (j := 185) C0 B (by decide) (by decide +kernel) rfl rfl rfl (by simp [Value.category]) (m_seen hτ) (fun hM1 hMσ => ?_)
  refine lw_cmp C0 (off := 98) (tgt := 1528) (by decide +kernel) (by decide) ?_
  exact next _ _ _ hCσ hMσ
theorem law_41 {p : Program} {l : Launch} {e : Env} {s : State} {m : MethodId} {below : List Frame} {meth : Method} {c : Code} {b L : Nat} {xs : Nat → Int32} {D : va_G} {dA : Nat → ClassId} {aC aM : Nat → Nat} {cN sN : Nat} {hC hM : aH} {σ : MS} {n : Nat} (C0 : lw_At p s m meth c b L xs) (B : lwB s D dA aC aM cN sN) (hL : L ≤ 3072) (hn : n + 5 < L) (hσ : ClS hC σ) (hτ : MoS hM σ) (next : ∀ hC hM σ, ClS hC σ → MoS hM σ → LW p l e s m below meth c b D dA aC aM cN sN 1528 (nI n) [] hC hM) : LW p l e s m below meth c b D dA aC aM cN sN 1435 (nI n) [] hC hM := by
  refine lw_ld1 C0 (by decide +kernel) ?_
  refine lw_arg (k := 1) (kk := 1) C0 hL hn (by omega) (by decide +kernel) (by decide +kernel) (by decide +kernel) (by decide) (by decide +kernel) (by decide +kernel) ?_
  refine lw_callC (as := [.int (xs (n + 1))]) (x := (r_common σ (xs (n + 1)))) (τ := (nfSh σ (xs (n + 1)) σ)) (d := 7) (y := yX7_common) (j := 186) C0 B (by decide) (by decide +kernel) rfl rfl rfl (by simp [Value.category]) (c_common hσ) (fun hC1 hCσ => ?_)
  refine lw_ld2 C0 (by decide +kernel) ?_
  refine lw_arg (k := 1) (kk := 1) C0 hL hn (by omega) (by decide +kernel) (by decide +kernel) (by decide +kernel) (by decide) (by decide +kernel) (by decide +kernel) ?_
  refine lw_callM (as := [.int (xs (n + 1))]) (x := (r_common σ (xs (n + 1)))) (τ := (nfSh σ (xs (n + 1)) σ)) (d := 7) (y := yX8_common) (j := 189) C0 B (by decide) (by decide +kernel) rfl rfl rfl (by simp [Value.category]) (m_common hτ) (fun hM1 hMσ => ?_)
  refine lw_cmp C0 (off := 75) (tgt := 1528) (by decide +kernel) (by decide) ?_
  exact next _ _ _ hCσ hMσ
theorem law_42 {p : Program} {l : Launch} {e : Env} {s : State} {m : MethodId} {below : List Frame} {meth : Method} {c : Code} {b L : Nat} {xs : Nat → Int32} {D : va_G} {dA : Nat → ClassId} {aC aM : Nat → Nat} {cN sN : Nat} {hC hM : aH} {σ : MS} {n : Nat} (C0 : lw_At p s m meth c b L xs) (B : lwB s D dA aC aM cN sN) (hL : L ≤ 3072) (hn : n + 5 < L) (hσ : ClS hC σ) (hτ : MoS hM σ) (next : ∀ hC hM σ, ClS hC σ → MoS hM σ → LW p l e s m below meth c b D dA aC aM cN sN 1528 (nI n) [] hC hM) : LW p l e s m below meth c b D dA aC aM cN sN 1458 (nI n) [] hC hM := by
  refine lw_ld1 C0 (by decide +kernel) ?_
  refine lw_arg (k := 1) (kk := 1) C0 hL hn (by omega) (by decide +kernel) (by decide +kernel) (by decide +kernel) (by decide) (by decide +kernel) (by decide +kernel) ?_
  refine lw_arg (k := 2) (kk := 2) C0 hL hn (by omega) (by decide +kernel) (by decide +kernel) (by decide +kernel) (by decide) (by decide +kernel) (by decide +kernel) ?_
  refine lw_callC (as := [.int (xs (n + 1)), .int (xs (n + 2))]) (x := (r_judge σ (xs (n + 1)) (xs (n + 2)))) (τ := (n_judge σ (xs (n + 1)) (xs (n + 2)))) (d := 7) (y := yX7_judge) (j := 190) C0 B (by decide) (by decide +kernel) rfl rfl rfl (by simp [Value.category]) (c_judge hσ) (fun hC1 hCσ => ?_)
  refine lw_ld2 C0 (by decide +kernel) ?_
  refine lw_arg (k := 1) (kk := 1) C0 hL hn (by omega) (by decide +kernel) (by decide +kernel) (by decide +kernel) (by decide) (by decide +kernel) (by decide +kernel) ?_
  refine lw_arg (k := 2) (kk := 2) C0 hL hn (by omega) (by decide +kernel) (by decide +kernel) (by decide +kernel) (by decide) (by decide +kernel) (by decide +kernel) ?_
  refine lw_callM (as := [.int (xs (n + 1)), .int (xs (n + 2))]) (x := (r_judge σ (xs (n + 1)) (xs (n + 2)))) (τ := (n_judge σ (xs (n + 1)) (xs (n + 2)))) (d := 7) (y := yX8_judge) (j := 193) C0 B (by decide) (by decide +kernel) rfl rfl rfl (by simp [Value.category]) (m_judge hτ) (fun hM1 hMσ => ?_)
  refine lw_cmp C0 (off := 42) (tgt := 1528) (by decide +kernel) (by decide) ?_
  exact next _ _ _ hCσ hMσ
theorem law_43 {p : Program} {l : Launch} {e : Env} {s : State} {m : MethodId} {below : List Frame} {meth : Method} {c : Code} {b L : Nat} {xs : Nat → Int32} {D : va_G} {dA : Nat → ClassId} {aC aM : Nat → Nat} {cN sN : Nat} {hC hM : aH} {σ : MS} {n : Nat} (C0 : lw_At p s m meth c b L xs) (B : lwB s D dA aC aM cN sN) (hL : L ≤ 3072) (hn : n + 5 < L) (hσ : ClS hC σ) (hτ : MoS hM σ) (next : ∀ hC hM σ, ClS hC σ → MoS hM σ → LW p l e s m below meth c b D dA aC aM cN sN 1528 (nI n) [] hC hM) : LW p l e s m below meth c b D dA aC aM cN sN 1491 (nI n) [] hC hM := by
  refine lw_ld1 C0 (by decide +kernel) ?_
  refine lw_arg (k := 1) (kk := 1) C0 hL hn (by omega) (by decide +kernel) (by decide +kernel) (by decide +kernel) (by decide) (by decide +kernel) (by decide +kernel) ?_
  refine lw_callC (as := [.int (xs (n + 1))]) (x := (r_count σ (xs (n + 1)))) (τ := σ) (d := 2) (y := yX7_count) (j := 194) C0 B (by decide) (by decide +kernel) rfl rfl rfl (by simp [Value.category]) (c_count hσ) (fun hC1 hCσ => ?_)
  refine lw_ld2 C0 (by decide +kernel) ?_
  refine lw_arg (k := 1) (kk := 1) C0 hL hn (by omega) (by decide +kernel) (by decide +kernel) (by decide +kernel) (by decide) (by decide +kernel) (by decide +kernel) ?_
  refine lw_callM (as := [.int (xs (n + 1))]) (x := (r_count σ (xs (n + 1)))) (τ := σ) (d := 2) (y := yX8_count) (j := 197) C0 B (by decide) (by decide +kernel) rfl rfl rfl (by simp [Value.category]) (m_count hτ) (fun hM1 hMσ => ?_)
  refine lw_cmp C0 (off := 19) (tgt := 1528) (by decide +kernel) (by decide) ?_
  exact next _ _ _ hCσ hMσ
theorem law_44 {p : Program} {l : Launch} {e : Env} {s : State} {m : MethodId} {below : List Frame} {meth : Method} {c : Code} {b L : Nat} {xs : Nat → Int32} {D : va_G} {dA : Nat → ClassId} {aC aM : Nat → Nat} {cN sN : Nat} {hC hM : aH} {σ : MS} {n : Nat} (C0 : lw_At p s m meth c b L xs) (B : lwB s D dA aC aM cN sN) (hL : L ≤ 3072) (hn : n + 5 < L) (hσ : ClS hC σ) (hτ : MoS hM σ) (next : ∀ hC hM σ, ClS hC σ → MoS hM σ → LW p l e s m below meth c b D dA aC aM cN sN 1528 (nI n) [] hC hM) : LW p l e s m below meth c b D dA aC aM cN sN 1514 (nI n) [] hC hM := by
  refine lw_ld1 C0 (by decide +kernel) ?_
  refine lw_callCL (as := []) (x := (r_digest σ)) (τ := σ) (d := 7) (y := yX7_digest) (j := 198) C0 B (by decide) (by decide +kernel) rfl rfl rfl (by simp [Value.category]) (c_digest hσ) (fun hC1 hCσ => ?_)
  refine lw_ld2 C0 (by decide +kernel) ?_
  refine lw_callML (as := []) (x := (r_digest σ)) (τ := σ) (d := 7) (y := yX8_digest) (j := 201) C0 B (by decide) (by decide +kernel) rfl rfl rfl (by simp [Value.category]) (m_digest hτ) (fun hM1 hMσ => ?_)
  refine lw_cmpL C0 (off := 5) (tgt := 1528) (by decide +kernel) (by decide +kernel) (by decide) ?_
  exact next _ _ _ hCσ hMσ
