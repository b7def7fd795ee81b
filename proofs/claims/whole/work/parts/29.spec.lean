/-! THE SYSTEM, as mathematics: a state, and of each call what it answers and leaves -/
abbrev MS : Type := TT × (Nat → Nat) × (Nat × Nat × Nat) × Nat × Int32 × Int32 × (Nat → Int32) × (Nat → Option Nat) × (Nat → Nat) × (Nat → Nat → Int32) × Int32
def sT (σ : MS) : TT := σ.1
def sW (σ : MS) : Nat → Nat := σ.2.1
def sLk (σ : MS) : Nat := σ.2.2.1.1
def sSp (σ : MS) : Nat := σ.2.2.1.2.1
def sUn (σ : MS) : Nat := σ.2.2.1.2.2
def sKn (σ : MS) : Nat := σ.2.2.2.1
def sDy (σ : MS) : Int32 := σ.2.2.2.2.1
def sLo (σ : MS) : Int32 := σ.2.2.2.2.2.1
def sUs (σ : MS) : Nat → Int32 := σ.2.2.2.2.2.2.1
def sFr (σ : MS) : Nat → Option Nat := σ.2.2.2.2.2.2.2.1
def sZ (σ : MS) : Nat → Nat := σ.2.2.2.2.2.2.2.2.1
def sM (σ : MS) : Nat → Nat → Int32 := σ.2.2.2.2.2.2.2.2.2.1
def sFd (σ : MS) : Int32 := σ.2.2.2.2.2.2.2.2.2.2
/-- the class's heap holds the state -/
def ClS (h : aH) (σ : MS) : Prop := okT (sT σ) ∧ ItC h (sT σ) ∧ SpC h (sT σ) ∧ ExC h (sT σ) (sW σ) (sLk σ) (sSp σ) (sUn σ) ∧ LnC h (sT σ) (sKn σ) (sDy σ) (sLo σ) (sUs σ) ∧ ShC h (sFr σ) (sZ σ) (sM σ) (sFd σ)
/-- new items: the test and the pupil are new -/
def fresh (T : TT) (σ : MS) : MS := (T, wSt T, (0, 0, 0), bot T, nI 0, nI 0, (fun _ => nI 0), sFr σ, sZ σ, sM σ, sFd σ)
/-- another test -/
def setE (σ : MS) (w : Nat → Nat) (lk sp un : Nat) : MS := (sT σ, w, (lk, sp, un), sKn σ, sDy σ, sLo σ, sUs σ, sFr σ, sZ σ, sM σ, sFd σ)
/-- another pupil -/
def setP (σ : MS) (kn : Nat) (dy lo : Int32) (us : Nat → Int32) : MS := (sT σ, sW σ, (sLk σ, sSp σ, sUn σ), kn, dy, lo, us, sFr σ, sZ σ, sM σ, sFd σ)
/-- other sheets -/
def setS (σ : MS) (fr : Nat → Option Nat) (Z : Nat → Nat) (M : Nat → Nat → Int32) : MS := (sT σ, sW σ, (sLk σ, sSp σ, sUn σ), sKn σ, sDy σ, sLo σ, sUs σ, fr, Z, M, sFd σ)
def setF (σ : MS) (fd : Int32) : MS := (sT σ, sW σ, (sLk σ, sSp σ, sUn σ), sKn σ, sDy σ, sLo σ, sUs σ, sFr σ, sZ σ, sM σ, fd)
def setT (σ : MS) (T : TT) : MS := (T, sW σ, (sLk σ, sSp σ, sUn σ), sKn σ, sDy σ, sLo σ, sUs σ, sFr σ, sZ σ, sM σ, sFd σ)
abbrev cl (x : Int32) : Nat := x.toNatClampNeg
def isI (σ : MS) (x : Int32) : Bool := okI x (tn (sT σ))
def isS (σ : MS) (x : Int32) : Bool := okI x (2 ^ tn (sT σ))
def bad : Int32 := mI 2
def r_item (σ : MS) (k nd ex : Int32) : Int32 := if okItem k nd ex = true then (if tn (sT σ) = 12 then mI 3 else nI (tn (sT σ))) else mI 2
def n_item (σ : MS) (k nd ex : Int32) : MS := if okItem k nd ex = true ∧ ¬ tn (sT σ) = 12 then fresh (addT (sT σ) (cl k) (cl nd) (cl ex)) σ else σ
def okO (σ : MS) (i s : Int32) : Bool := isI σ i && (decide (tk (sT σ) (cl i) = 1) && okI s 4096)
def r_other (σ : MS) (i s : Int32) : Int32 := if okO σ i s = true then (if tm (sT σ) (cl i) = 4 then mI 3 else nI (tm (sT σ) (cl i) + 1)) else mI 2
def n_other (σ : MS) (i s : Int32) : MS := if okO σ i s = true ∧ ¬ tm (sT σ) (cl i) = 4 then fresh (othT (sT σ) (cl i) (cl s)) σ else σ
def hrT (T : TT) (i v : Nat) : TT := (tn T, tk T, td T, tx T, va_up (th T) i v, tm T, to T)
def okH (x : Int32) : Bool := decide (nI 1 ≤ x ∧ x ≤ nI 100)
def r_hours (σ : MS) (i v : Int32) : Int32 := if (isI σ i && okH v) = true then nI (th (sT σ) (cl i)) else mI 2
def n_hours (σ : MS) (i v : Int32) : MS := if (isI σ i && okH v) = true then setT σ (hrT (sT σ) (cl i) (cl v)) else σ
def r_about (σ : MS) (i w : Int32) : Int32 := if isI σ i = true then (if w = nI 0 then nI (tk (sT σ) (cl i)) else if w = nI 1 then nI (td (sT σ) (cl i)) else if w = nI 2 then nI (tx (sT σ) (cl i)) else if w = nI 3 then nI (tm (sT σ) (cl i)) else if w = nI 4 then nI (th (sT σ) (cl i)) else mI 2) else mI 2
def r_served (σ : MS) (i s : Int32) : Int32 := if (isI σ i && isS σ s) = true then bI (srv (sT σ) (cl i) (cl s)) else mI 2
def r_states (σ : MS) : Int32 := nI (cnt (isSt (sT σ)) (2 ^ tn (sT σ)))
def r_state (σ : MS) (s : Int32) : Int32 := if isS σ s = true then bI (isSt (sT σ) (cl s)) else mI 2
def r_at (σ : MS) (k : Int32) : Int32 := if okI k (cnt (isSt (sT σ)) (2 ^ tn (sT σ))) = true then oI (kth (isSt (sT σ)) k (2 ^ tn (sT σ))) else mI 2
def r_top (σ : MS) : Int32 := nI (topT (sT σ))
/-- of a state: BAD, NOT, or r -/
def ofSt (σ : MS) (s : Int32) (r : Int32) : Int32 := if isS σ s = true then (if isSt (sT σ) (cl s) = true then r else mI 4) else mI 2
def okSt (σ : MS) (s : Int32) : Bool := isS σ s && isSt (sT σ) (cl s)
def r_next (σ : MS) (s : Int32) : Int32 := ofSt σ s (nI (allO (sT σ) (nx (sT σ) (cl s)) (tn (sT σ))))
def r_last (σ : MS) (s : Int32) : Int32 := ofSt σ s (nI (allO (sT σ) (lstM (sT σ) (cl s)) (tn (sT σ))))
def r_core (σ : MS) (s : Int32) : Int32 := if isS σ s = true then oI (cor (sT σ) (cl s)) else mI 2
def r_reason (σ : MS) (i s : Int32) : Int32 := if (isI σ i && isS σ s) = true then (match svs (sT σ) (cl i) (cl s) with
  | none => mI 1
  | some a => nI (ntz a 12 0)) else mI 2
def r_test (σ : MS) (a b : Int32) : Int32 := if (okI a 100 && okI b 100) = true then nI (cnt (isSt (sT σ)) (2 ^ tn (sT σ))) else mI 2
def n_test (σ : MS) (a b : Int32) : MS := if (okI a 100 && okI b 100) = true then setE σ (wSt (sT σ)) (cl a) (cl b) 0 else σ
def r_left (σ : MS) : Int32 := nI (lf (sT σ) (sW σ))
def r_ask (σ : MS) : Int32 := oI (if lf (sT σ) (sW σ) ≤ 1 then none else (bsU (sT σ) (sW σ) (tn (sT σ))).1)
def wSure (σ : MS) (i : Int32) (b : Bool) : Nat → Nat := wgh (sW σ) (cl i) (if b = true then 1 else 0) (if b = true then 0 else 1)
def r_answer (σ : MS) (i : Int32) (b : Bool) : Int32 := if isI σ i = true then (if lf (sT σ) (wSure σ i b) = 0 then mI 4 else nI (lf (sT σ) (wSure σ i b))) else mI 2
def n_answer (σ : MS) (i : Int32) (b : Bool) : MS := if isI σ i = true ∧ ¬ lf (sT σ) (wSure σ i b) = 0 then setE σ (wSure σ i b) (sLk σ) (sSp σ) (sUn σ) else σ
def wUns (σ : MS) (i : Int32) (b : Bool) : Nat → Nat := wgh (sW σ) (cl i) (fW (sSp σ) b) (fO (sLk σ) b)
def r_unsure (σ : MS) (i : Int32) (b : Bool) : Int32 := if isI σ i = true then (if sUn σ = 6 then mI 3 else if lf (sT σ) (wUns σ i b) = 0 then mI 4 else nI (lf (sT σ) (wUns σ i b))) else mI 2
def n_unsure (σ : MS) (i : Int32) (b : Bool) : MS := if isI σ i = true ∧ ¬ sUn σ = 6 ∧ ¬ lf (sT σ) (wUns σ i b) = 0 then setE σ (wUns σ i b) (sLk σ) (sSp σ) (sUn σ + 1) else σ
def r_likely (σ : MS) : Int32 := nI (hvy (sT σ) (sW σ))
def r_weight (σ : MS) (s : Int32) : Int64 := if isS σ s = true then lN (sW σ (cl s)) else -2
def r_weights (σ : MS) : Int64 := lN (smW (sT σ) (sW σ))
def r_worst (σ : MS) : Int32 := if 10 < lf (sT σ) (sW σ) then mI 4 else nI (wor (sT σ) (sW σ) 12)
def r_cost (σ : MS) (f g : Int32) : Int32 := if isS σ g = true then ofSt σ f (oI (coF (sT σ) (cl g) (cl f))) else mI 2
def r_way (σ : MS) (f g k : Int32) : Int32 := if isS σ g = true then ofSt σ f (oI (wyF (sT σ) (cl g) k 12 0 (cl f))) else mI 2
def r_ways (σ : MS) (s : Int32) : Int32 := ofSt σ s (rwS (sT σ) (rw0 (sT σ) (fun _ => nI 0)) (2 ^ tn (sT σ)) (cl s))
def r_learn (σ : MS) (i : Int32) : Int32 := if isI σ i = true then (if fit (sT σ) (les (sT σ) (cl i)) (sKn σ) = true then nI (sKn σ ||| les (sT σ) (cl i)) else mI 4) else mI 2
def n_learn (σ : MS) (i : Int32) : MS := if isI σ i = true ∧ fit (sT σ) (les (sT σ) (cl i)) (sKn σ) = true then setP σ (sKn σ ||| les (sT σ) (cl i)) (sDy σ) (sLo σ) (upd (sUs σ) (cl i) (sDy σ)) else σ
def okU (σ : MS) (i : Int32) : Bool := decide (tk (sT σ) (cl i) = 3) && (sKn σ).testBit (cl i)
def r_use (σ : MS) (i : Int32) : Int32 := if isI σ i = true then (if okU σ i = true then nI 1 else mI 4) else mI 2
def n_use (σ : MS) (i : Int32) : MS := if isI σ i = true ∧ okU σ i = true then setP σ (sKn σ) (sDy σ) (sLo σ) (upd (sUs σ) (cl i) (sDy σ)) else σ
/-- a day -/
def dayS (σ : MS) : MS := setP σ (dyK (sT σ) (sKn σ) (sDy σ) (sUs σ)) (sDy σ + nI 1) (dyL (sT σ) (sKn σ) (sDy σ) (sLo σ) (sUs σ)) (sUs σ)
def daysS (σ : MS) : Nat → MS
  | 0 => σ
  | k + 1 => dayS (daysS σ k)
def r_pass (σ : MS) (d : Int32) : Int32 := if okH d = true then nI (sKn (daysS σ (cl d))) else mI 2
def n_pass (σ : MS) (d : Int32) : MS := if okH d = true then daysS σ (cl d) else σ
def r_pupil (σ : MS) (s : Int32) : Int32 := ofSt σ s (nI 1)
def n_pupil (σ : MS) (s : Int32) : MS := if okSt σ s = true then setP σ (cl s) (nI 0) (nI 0) (fun _ => nI 0) else σ
/-- a finding -/
def fnd (σ : MS) (k : Nat) : MS := setF σ (nI k)
def r_sheet (σ : MS) (s f n : Int32) : Int32 := if (okI s 4 && (okI f 3 && decide (n ≤ nI 40))) = true then (if n < nI 0 then mI 15 else n) else mI 2
def n_sheet (σ : MS) (s f n : Int32) : MS := if (okI s 4 && (okI f 3 && decide (n ≤ nI 40))) = true then (if n < nI 0 then fnd σ 5 else setS σ (va_up (sFr σ) (cl s) (some (cl f))) (va_up (sZ σ) (cl s) (cl n)) (va_up (sM σ) (cl s) (fun _ => nI 0))) else σ
/-- of a sheet: BAD, NULL, or r -/
def ofSh (σ : MS) (s : Int32) (r : Int32) : Int32 := if okI s 4 = true then (if (sFr σ (cl s)).isNone = true then mI 11 else r) else mI 2
def nfSh (σ : MS) (s : Int32) (τ : MS) : MS := if okI s 4 = true then (if (sFr σ (cl s)).isNone = true then fnd σ 1 else τ) else σ
def r_lose (σ : MS) (s : Int32) : Int32 := ofSh σ s (nI (sZ σ (cl s)))
def n_lose (σ : MS) (s : Int32) : MS := nfSh σ s (setS σ (va_up (sFr σ) (cl s) none) (va_up (sZ σ) (cl s) 0) (sM σ))
/-- what is wanting: 0 nothing, else the finding -/
def lack (σ : MS) (s : Nat) (f i : Int32) : Nat := match sFr σ s with
  | none => 1
  | some g => if nI g = f then (if okI i (sZ σ s) = true then 0 else 2) else 3
def r_put (σ : MS) (s f i : Int32) : Int32 := if (okI s 4 && okI f 3) = true then (if lack σ (cl s) f i = 0 then nI 1 else mI (10 + lack σ (cl s) f i)) else mI 2
def n_put (σ : MS) (s f i v : Int32) : MS := if (okI s 4 && okI f 3) = true then (if lack σ (cl s) f i = 0 then setS σ (sFr σ) (sZ σ) (va_up (sM σ) (cl s) (upd (sM σ (cl s)) (cl i) (nar (cl f) v))) else fnd σ (lack σ (cl s) f i)) else σ
def r_get (σ : MS) (s f i : Int32) : Int32 := if (okI s 4 && okI f 3) = true then (if lack σ (cl s) f i = 0 then sM σ (cl s) (cl i) else mI 2147483648) else mI 2147483648
def n_get (σ : MS) (s f i : Int32) : MS := if (okI s 4 && okI f 3) = true then (if lack σ (cl s) f i = 0 then σ else fnd σ (lack σ (cl s) f i)) else σ
/-- what is wanting for a copy -/
def lakC (σ : MS) (s : Nat) (i : Int32) (t : Nat) (j n : Int32) : Nat := if (sFr σ s).isNone = true ∨ (sFr σ t).isNone = true then 1 else if sFr σ s = sFr σ t then (if okR i n (sZ σ s) = true ∧ okR j n (sZ σ t) = true then 0 else 2) else 4
def r_copy (σ : MS) (s i t j n : Int32) : Int32 := if (okI s 4 && okI t 4) = true then (if lakC σ (cl s) i (cl t) j n = 0 then nI 1 else mI (10 + lakC σ (cl s) i (cl t) j n)) else mI 2
def n_copy (σ : MS) (s i t j n : Int32) : MS := if (okI s 4 && okI t 4) = true then (if lakC σ (cl s) i (cl t) j n = 0 then setS σ (sFr σ) (sZ σ) (va_up (sM σ) (cl t) (va_cpy (sM σ (cl s)) (sM σ (cl t)) (cl i) (cl j) (cl n))) else fnd σ (lakC σ (cl s) i (cl t) j n)) else σ
def r_nearest (σ : MS) (s : Int32) : Int32 := if isS σ s = true then nI (nrS (sT σ) (cl s)) else mI 2
def r_far (σ : MS) (a b : Int32) : Int32 := if (isS σ a && isS σ b) = true then nI (pop (cl a ^^^ cl b)) else mI 2
def r_base (σ : MS) (k : Int32) : Int32 := oI (kth (pB (sT σ) (2 ^ tn (sT σ) - 1)) k (2 ^ tn (sT σ)))
def r_atom (σ : MS) (i k : Int32) : Int32 := if isI σ i = true then oI (kth (pB (sT σ) (les (sT σ) (cl i))) k (2 ^ tn (sT σ))) else mI 2
def r_misfit (σ : MS) (s : Int32) : Int32 := ofSh σ s (nI (msF (sT σ) (sM σ (cl s)) (sZ σ (cl s))))
def okB1 (x : Int32) : Bool := decide (nI 0 ≤ x ∧ x ≤ nI 1)
def r_odd (σ : MS) (s i b : Int32) : Int32 := if (isI σ i && okB1 b) = true then ofSh σ s (nI (cnt (odP (sT σ) (sM σ (cl s)) (cl i) 0 (decide (b = nI 1))) (sZ σ (cl s)))) else mI 2
def n_odd (σ : MS) (s i b : Int32) : MS := if (isI σ i && okB1 b) = true then nfSh σ s σ else σ
def okE (x : Int32) : Bool := decide (nI 0 ≤ x ∧ x ≤ nI 40)
def r_seen (σ : MS) (s a e : Int32) : Int32 := if (isI σ a && okE e) = true then ofSh σ s (nI (mask (seM (sT σ) (sM σ (cl s)) (sZ σ (cl s)) (cl a) (cl e)) (tn (sT σ)))) else mI 2
def n_seen (σ : MS) (s a e : Int32) : MS := if (isI σ a && okE e) = true then nfSh σ s σ else σ
def r_common (σ : MS) (s : Int32) : Int32 := ofSh σ s (oN (cmF (sT σ) (sM σ (cl s)) (sZ σ (cl s)) (sZ σ (cl s))).1)
def tkA (σ : MS) (s i : Nat) : Nat × (Nat → Nat) := taW (sT σ) (sLk σ) (sSp σ) (rt (sT σ) (sM σ s i)) (tn (sT σ)) 0 (wSt (sT σ))
def r_judge (σ : MS) (s i : Int32) : Int32 := ofSh σ s (if okI i (sZ σ (cl s)) = true then nI (tkA σ (cl s) (cl i)).1 else mI 12)
def n_judge (σ : MS) (s i : Int32) : MS := nfSh σ s (if okI i (sZ σ (cl s)) = true then setE σ (tkA σ (cl s) (cl i)).2 (sLk σ) (sSp σ) (tkA σ (cl s) (cl i)).1 else fnd σ 2)
def r_count (σ : MS) (w : Int32) : Int32 := if w = nI 0 then nI (tn (sT σ)) else if w = nI 1 then nI (sKn σ) else if w = nI 2 then sDy σ else if w = nI 3 then sLo σ else if w = nI 4 then nI (sUn σ) else if w = nI 5 then nI (sLk σ) else if w = nI 6 then nI (sSp σ) else if w = nI 7 then sFd σ else mI 2
/-- one number more into a digest -/
def dg (h : Int64) (v : Int64) : Int64 := lN 31 * h + v
def dgC (σ : MS) (h : Int64) : Nat → Int64
  | 0 => h
  | k + 1 => dg (dgC σ h k) (r_count σ (nI k)).toInt64
def dgA (σ : MS) (i : Nat) (h : Int64) : Nat → Int64
  | 0 => h
  | k + 1 => dg (dgA σ i h k) (r_about σ (nI i) (nI k)).toInt64
def dgI (σ : MS) (h : Int64) : Nat → Int64
  | 0 => h
  | k + 1 => dgA σ k (dgI σ h k) 5
def r_digest (σ : MS) : Int64 := fst (isSt (sT σ)) (fun h s => dg (dg h (nI s).toInt64) (lN (sW σ s))) (dgI σ (dg (dgC σ (lN 17) 7) (r_states σ).toInt64) (tn (sT σ))) (2 ^ tn (sT σ))
/-- an answer and the heap behind it -/
def qC (r : Int32) (τ : MS) : Option Value → aH → Prop := fun v h' => v = some (.int r) ∧ ClS h' τ
def qCL (r : Int64) (τ : MS) : Option Value → aH → Prop := fun v h' => v = some (.long r) ∧ ClS h' τ
