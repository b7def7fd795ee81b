/-! THE LAW: its steps -/
def lwB (s : State) (D : va_G) (dA : Nat → ClassId) (aC aM : Nat → Nat) (cN sN : Nat) : Prop := aK tkC D vwCl dA s ∧ aK tkM D vwCl dA s ∧ aN wC aC ∧ aN wM aM ∧ (∀ q, aA wC aC q → s.heap.size ≤ q) ∧ (∀ q, aA wM aM q → s.heap.size ≤ q) ∧ (∀ q, aA wC aC q → ¬ aA wM aM q) ∧ cN ≤ 600000 ∧ sN ≤ 7302250
def LW (p : Program) (l : Launch) (e : Env) (s : State) (m : MethodId) (below : List Frame) (meth : Method) (c : Code) (b : Nat) (D : va_G) (dA : Nat → ClassId) (aC aM : Nat → Nat) (cN sN : Nat) (pc : Nat) (i : Int32) (st : List Value) (hC hM : aH) : Prop :=
  ∀ (H : Heap) (locs : List Loc) (ls : Array Slot), lv_has ls 4 [(0, .ref b), (1, .ref (aC 0)), (2, .ref (aM 0)), (3, .int i)] → va_P D vwCl (aW wC aC dA hC) H → va_P D vwCl (aW wM aM dA hM) H → va_S (fun q => s.heap.size ≤ q) s.heap H locs → W p l e room_1 s m #[Value.ref b] below meth c H locs cN sN (lw_Z below #[Value.ref b] s) (F0 m pc ls st)
section LAW
variable {p : Program} {l : Launch} {e : Env} {s : State} {m : MethodId} {below : List Frame} {meth : Method} {c : Code} {b L : Nat} {xs : Nat → Int32} {D : va_G} {dA : Nat → ClassId} {aC aM : Nat → Nat} {cN sN : Nat} {pc : Nat} {i : Int32} {st : List Value} {hC hM : aH}
theorem lw_ld1 (C0 : lw_At p s m meth c b L xs) (hd : decode code pc = .ok (.aload_n 1, 1)) (k : LW p l e s m below meth c b D dA aC aM cN sN (pc + 1) i (.ref (aC 0) :: st) hC hM) : LW p l e s m below meth c b D dA aC aM cN sN pc i st hC hM := by
  obtain ⟨hx, hb, -⟩ := C0
  intro H locs ls hl hP1 hP2 hS
  exact lv_aload_n hx hb hd rfl (lv_at hl 1 rfl) (k H locs ls hl hP1 hP2 hS)
theorem lw_ld2 (C0 : lw_At p s m meth c b L xs) (hd : decode code pc = .ok (.aload_n 2, 1)) (k : LW p l e s m below meth c b D dA aC aM cN sN (pc + 1) i (.ref (aM 0) :: st) hC hM) : LW p l e s m below meth c b D dA aC aM cN sN pc i st hC hM := by
  obtain ⟨hx, hb, -⟩ := C0
  intro H locs ls hl hP1 hP2 hS
  exact lv_aload_n hx hb hd rfl (lv_at hl 2 rfl) (k H locs ls hl hP1 hP2 hS)
theorem lw_arg {n k : Nat} {kk : Int} (C0 : lw_At p s m meth c b L xs) (hL : L ≤ 3072) (hn : n + 5 < L) (hk : k ≤ 5) (h0 : decode code pc = .ok (.aload_n 0, 1)) (h1 : decode code (pc + 1) = .ok (.iload_n 3, 1)) (h2 : decode code (pc + 1 + 1) = .ok (.iconst kk, 1)) (hkk : Int32.ofInt kk = nI k) (h3 : decode code (pc + 1 + 1 + 1) = .ok (.iadd, 1)) (h4 : decode code (pc + 1 + 1 + 1 + 1) = .ok (.iaload, 1))
    (kn : LW p l e s m below meth c b D dA aC aM cN sN (pc + 5) (nI n) (.int (xs (n + k)) :: st) hC hM) : LW p l e s m below meth c b D dA aC aM cN sN pc (nI n) st hC hM := by
  obtain ⟨hx, hb, hr, hml, hown, hts, hX, hbl, hlocks, hgv⟩ := C0
  intro H locs ls hl hP1 hP2 hS
  refine lv_aload_n hx hb h0 rfl (lv_at hl 0 rfl) ?_
  refine lv_iload_n hx hb h1 rfl (lv_at hl 3 rfl) ?_
  refine lv_iconst (v := nI k) hx hb h2 hkk ?_
  refine lv_iadd hx hb h3 ?_
  rw [q_add]
  refine va_sld hx hb hX hbl (Nat.not_le.mpr hbl) hS (vp_in_nI (by omega) (by omega)) h4 ?_
  rw [nI_clamp (by omega)]
  exact kn H locs ls hl hP1 hP2 hS
theorem lw_bool {x : Int32} (C0 : lw_At p s m meth c b L xs) (h0 : decode code pc = .ok (.ifCond .eq 7, 3)) (h1 : decode code (pc + 3) = .ok (.iconst 1, 1)) (h2 : decode code (pc + 3 + 1) = .ok (.goto 4, 3)) (h3 : decode code (pc + 7) = .ok (.iconst 0, 1))
    (kn : LW p l e s m below meth c b D dA aC aM cN sN (pc + 8) i (.int (bI (decide (¬ x = 0))) :: st) hC hM) : LW p l e s m below meth c b D dA aC aM cN sN pc i (.int x :: st) hC hM := by
  obtain ⟨hx, hb, -⟩ := C0
  intro H locs ls hl hP1 hP2 hS
  refine lv_if_eq (tgt := pc + 7) hx hb h0 (by omega) (fun hq => ?_) (fun hq => ?_)
  · refine lv_iconst (v := nI 0) hx hb h3 (by decide) ?_
    have := kn H locs ls hl hP1 hP2 hS
    rw [show decide (¬ x = 0) = false by simp [hq], bI_f] at this
    exact this
  · refine lv_iconst (v := nI 1) hx hb h1 (by decide) ?_
    refine lv_goto (tgt := pc + 8) hx hb h2 (by omega) ?_
    have := kn H locs ls hl hP1 hP2 hS
    rw [show decide (¬ x = 0) = true by simp [hq], bI_t] at this
    exact this
theorem lw_cmp {x : Int32} {off : Int} {tgt : Nat} (C0 : lw_At p s m meth c b L xs) (h0 : decode code pc = .ok (.if_icmp .eq off, 3)) (ht : (pc : Int) + off = (tgt : Int)) (kn : LW p l e s m below meth c b D dA aC aM cN sN tgt i [] hC hM) : LW p l e s m below meth c b D dA aC aM cN sN pc i [.int x, .int x] hC hM := by
  obtain ⟨hx, hb, -⟩ := C0
  intro H locs ls hl hP1 hP2 hS
  exact lv_icmp_eq hx hb h0 ht (fun _ => kn H locs ls hl hP1 hP2 hS) (fun q => absurd rfl q)
theorem lw_cmpL {x : Int64} {off : Int} {tgt : Nat} (C0 : lw_At p s m meth c b L xs) (h0 : decode code pc = .ok (.lcmp, 1)) (h1 : decode code (pc + 1) = .ok (.ifCond .eq off, 3)) (ht : ((pc + 1 : Nat) : Int) + off = (tgt : Int)) (kn : LW p l e s m below meth c b D dA aC aM cN sN tgt i [] hC hM) : LW p l e s m below meth c b D dA aC aM cN sN pc i [.long x, .long x] hC hM := by
  obtain ⟨hx, hb, -⟩ := C0
  intro H locs ls hl hP1 hP2 hS
  refine W.lcmp hx hb h0 ?_
  have e : lg_cmp x x = 0 := by
    have h1 := (lg_cmp_le x x).mpr (Int64.le_refl x)
    have h2 := (lg_cmp_ge x x).mpr (Int64.le_refl x)
    rw [i32_eq]
    rw [Int32.le_iff_toInt_le] at h1 h2
    have : (0 : Int32).toInt = 0 := by decide
    omega
  exact lv_if_eq hx hb h1 ht (fun _ => kn H locs ls hl hP1 hP2 hS) (fun q => absurd e q)
theorem aW_fst {w : List aE} {ad : Nat → Nat} {h : aH} {k : Nat} {x : Nat × va_E} (hx : (aW w ad dA h)[k]? = some x) : aA w ad x.1 := by
  unfold aW at hx
  rw [List.getElem?_map] at hx
  by_cases hk : k < w.length
  · rw [List.getElem?_range hk] at hx
    cases hx
    exact ⟨k, hk, rfl⟩
  · rw [List.getElem?_eq_none (by rw [List.length_range]; omega)] at hx
    cases hx
theorem lw_run {w w2 : List aE} {tk : List Nat} {ad ad2 : Nat → Nat} {h h2 : aH} {H : Heap} {locs : List Loc} {ls : Array Slot} {y : MethodName} {n j d : Nat} {as rest : List Value} {Q : Option Value → aH → Prop} (C0 : lw_At p s m meth c b L xs) (hK : aK tk D vwCl dA s) (hN : aN w ad) (hf : ∀ q, aA w ad q → s.heap.size ≤ q) (hdis : ∀ q, aA w ad q → ¬ aA w2 ad2 q) (hcN : cN ≤ 600000) (hsN : sN ≤ 7302250) (hd7 : d ≤ 7)
    (hd : decode code pc = .ok (.invokevirtual j, 3)) (hy : lk xL.2.1 j = some (y, n, 0)) (hn : as.length = n) (hrc : rcv w vwCl 0 y = true) (hsat : Sat l vwCl w tk d y (.ref 0 :: as) h Q) (hP : va_P D vwCl (aW w ad dA h) H) (hP2 : va_P D vwCl (aW w2 ad2 dA h2) H) (hS : va_S (fun q => s.heap.size ≤ q) s.heap H locs) (hl : ls.size = 4) (hsm : (rest.map fun v => v.category).sum ≤ 8)
    (kk : ∀ (v : Option Value) (h' : aH) (H1 : Heap) (locs1 : List Loc), Q v h' → va_P D vwCl (aW w ad dA h') H1 → va_P D vwCl (aW w2 ad2 dA h2) H1 → va_S (fun q => s.heap.size ≤ q) s.heap H1 locs1 → W p l e room_1 s m #[Value.ref b] below meth c H1 locs1 cN sN (lw_Z below #[Value.ref b] s) (F0 m (pc + 3) ls ((v.map (cv ad)).toList ++ rest))) :
    W p l e room_1 s m #[Value.ref b] below meth c H locs cN sN (lw_Z below #[Value.ref b] s) (F0 m pc ls ((as.map (cv ad)).reverse ++ .ref (ad 0) :: rest)) := by
  obtain ⟨hx, hb, hr, hml, hown, hts0, hX, hbl, hlocks, hgv⟩ := C0
  have hts : ∀ q ∈ aT, q.before #[Value.ref b] s = true := fun q hq => hts0 q (List.mem_filter.mp hq).1
  obtain ⟨bytes, maxL, ret, hc, hm, hMet⟩ := hsat
  obtain ⟨g1, g2, g3, g4, -⟩ := lkL.2.1 j y n 0 hy
  obtain ⟨g5, g6⟩ := g4 rfl
  have hB : CallB room_1 s #[Value.ref b] RL j y bytes maxL ret (Cond.code y bytes maxL ret :: aT) (rmD d) 0 0 n := by
    refine callB_of n hts (tbl_in hc) rfl rfl rfl (hts _ g2) (hts _ g1) g3 ⟨?_, ?_⟩
    · show d + 1 ≤ 9; omega
    · show 8 + (maxL + 11) + 40 * d ≤ 328; omega
  obtain ⟨ci, rs, q, e1, e2, e3, e4⟩ := rcv_sp hrc
  have hrecv := va_recv hK hP e2 (q0 := 0) (a := ad 0) (ci := ci) (by rw [aW_get e4, e1]; rfl)
  rw [e3] at hrecv
  have hrun := va_runV (nL := 4) (own := RL) ⟨hx, hb, hml, hown, hts⟩ (hMet D ad dA) ⟨hB, hts _ g5, hts _ g6⟩ ⟨pc_blind, hrecv, pc_holds (as := .ref 0 :: as) hP hK hN⟩ (g := F0 m pc ls ((as.map (cv ad)).reverse ++ .ref (ad 0) :: rest)) (p := p) (l := l) (e := e) (below := below) (meth := meth) (cells := cN) (slots := sN) (locs := locs) (rest := rest) rfl (by rw [List.length_map]; exact hn) hl rfl (lv_room hsm) hd ⟨hcN, hsN⟩
  intro T hT X
  obtain ⟨v, st₀, t, T', L1, h0, X', hL1, t1, t2, ⟨⟨v', h', hv, hp, hb1⟩, hz, hk⟩, stp⟩ := hrun T hT X
  cases hv
  rw [h0] at hz hk
  obtain ⟨t3, a1, b1⟩ := kk v' h' T'.heap (locs ++ L1) hp (by rw [t1]; exact hb1) (by rw [t1]; exact hP2.kept (fun k x hx => hk x.1 ((hP2 k x hx).lt) (fun q => hdis _ q (aW_fst hx))))
    ⟨Nat.le_trans hS.1 (by rw [t1]; exact hz), fun q q1 q2 => by rw [t1, hk q (Nat.lt_of_lt_of_le q1 hS.1) (fun z => q2 (hf q z))]; exact hS.2.1 q q1 q2, fun q hq => by
      rcases List.mem_append.mp hq with z | z
      · exact hS.2.2 q z
      · exact hf _ (hL1 q z)⟩ T' rfl X'
  exact ⟨t3, stp t3 a1, b1⟩
theorem cv_ints {ad : Nat → Nat} {as : List Value} (h : as.all (fun v => match v with | .ref _ => false | _ => true) = true) : as.map (cv ad) = as := by
  induction as with
  | nil => rfl
  | cons a as ih =>
    rw [List.all_cons, Bool.and_eq_true] at h
    rw [List.map_cons, ih h.2]
    cases a <;> first | rfl | (simp at h)
theorem lw_callC {as r : List Value} {x : Int32} {τ : MS} {d : Nat} (C0 : lw_At p s m meth c b L xs) (B : lwB s D dA aC aM cN sN) (hd7 : d ≤ 7) {y : MethodName} {j : Nat} (hd : decode code pc = .ok (.invokevirtual j, 3)) (hy : lk xL.2.1 j = some (y, as.length, 0)) (hrc : rcv wC vwCl 0 y = true) (has : as.all (fun v => match v with | .ref _ => false | _ => true) = true) (hsm : (r.map fun v => v.category).sum ≤ 8) (hsat : SC l d y (.ref 0 :: as) hC (qC x τ))
    (k : ∀ h', ClS h' τ → LW p l e s m below meth c b D dA aC aM cN sN (pc + 3) i (.int x :: r) h' hM) : LW p l e s m below meth c b D dA aC aM cN sN pc i (as.reverse ++ .ref (aC 0) :: r) hC hM := by
  obtain ⟨k1, k2, n1, n2, f1, f2, dis, c1, c2⟩ := B
  intro H locs ls hl hP1 hP2 hS
  have := lw_run (rest := r) (ls := ls) C0 k1 n1 f1 dis c1 c2 hd7 hd hy rfl hrc hsat hP1 hP2 hS hl.1 hsm (fun v h' H1 locs1 hq p1 p2 s1 => by
    obtain ⟨rfl, q2⟩ := hq
    exact k h' q2 H1 locs1 ls hl p1 p2 s1)
  rw [cv_ints has] at this
  exact this
theorem lw_callCL {as r : List Value} {x : Int64} {τ : MS} {d : Nat} (C0 : lw_At p s m meth c b L xs) (B : lwB s D dA aC aM cN sN) (hd7 : d ≤ 7) {y : MethodName} {j : Nat} (hd : decode code pc = .ok (.invokevirtual j, 3)) (hy : lk xL.2.1 j = some (y, as.length, 0)) (hrc : rcv wC vwCl 0 y = true) (has : as.all (fun v => match v with | .ref _ => false | _ => true) = true) (hsm : (r.map fun v => v.category).sum ≤ 8) (hsat : SC l d y (.ref 0 :: as) hC (qCL x τ))
    (k : ∀ h', ClS h' τ → LW p l e s m below meth c b D dA aC aM cN sN (pc + 3) i (.long x :: r) h' hM) : LW p l e s m below meth c b D dA aC aM cN sN pc i (as.reverse ++ .ref (aC 0) :: r) hC hM := by
  obtain ⟨k1, k2, n1, n2, f1, f2, dis, c1, c2⟩ := B
  intro H locs ls hl hP1 hP2 hS
  have := lw_run (rest := r) (ls := ls) C0 k1 n1 f1 dis c1 c2 hd7 hd hy rfl hrc hsat hP1 hP2 hS hl.1 hsm (fun v h' H1 locs1 hq p1 p2 s1 => by
    obtain ⟨rfl, q2⟩ := hq
    exact k h' q2 H1 locs1 ls hl p1 p2 s1)
  rw [cv_ints has] at this
  exact this
theorem lw_callM {as r : List Value} {x : Int32} {τ : MS} {d : Nat} (C0 : lw_At p s m meth c b L xs) (B : lwB s D dA aC aM cN sN) (hd7 : d ≤ 7) {y : MethodName} {j : Nat} (hd : decode code pc = .ok (.invokevirtual j, 3)) (hy : lk xL.2.1 j = some (y, as.length, 0)) (hrc : rcv wM vwCl 0 y = true) (has : as.all (fun v => match v with | .ref _ => false | _ => true) = true) (hsm : (r.map fun v => v.category).sum ≤ 8) (hsat : SM l d y (.ref 0 :: as) hM (qM x τ))
    (k : ∀ h', MoS h' τ → LW p l e s m below meth c b D dA aC aM cN sN (pc + 3) i (.int x :: r) hC h') : LW p l e s m below meth c b D dA aC aM cN sN pc i (as.reverse ++ .ref (aM 0) :: r) hC hM := by
  obtain ⟨k1, k2, n1, n2, f1, f2, dis, c1, c2⟩ := B
  intro H locs ls hl hP1 hP2 hS
  have := lw_run (rest := r) (ls := ls) C0 k2 n2 f2 (fun q a b => dis q b a) c1 c2 hd7 hd hy rfl hrc hsat hP2 hP1 hS hl.1 hsm (fun v h' H1 locs1 hq p1 p2 s1 => by
    obtain ⟨rfl, q2⟩ := hq
    exact k h' q2 H1 locs1 ls hl p2 p1 s1)
  rw [cv_ints has] at this
  exact this
theorem lw_callML {as r : List Value} {x : Int64} {τ : MS} {d : Nat} (C0 : lw_At p s m meth c b L xs) (B : lwB s D dA aC aM cN sN) (hd7 : d ≤ 7) {y : MethodName} {j : Nat} (hd : decode code pc = .ok (.invokevirtual j, 3)) (hy : lk xL.2.1 j = some (y, as.length, 0)) (hrc : rcv wM vwCl 0 y = true) (has : as.all (fun v => match v with | .ref _ => false | _ => true) = true) (hsm : (r.map fun v => v.category).sum ≤ 8) (hsat : SM l d y (.ref 0 :: as) hM (qML x τ))
    (k : ∀ h', MoS h' τ → LW p l e s m below meth c b D dA aC aM cN sN (pc + 3) i (.long x :: r) hC h') : LW p l e s m below meth c b D dA aC aM cN sN pc i (as.reverse ++ .ref (aM 0) :: r) hC hM := by
  obtain ⟨k1, k2, n1, n2, f1, f2, dis, c1, c2⟩ := B
  intro H locs ls hl hP1 hP2 hS
  have := lw_run (rest := r) (ls := ls) C0 k2 n2 f2 (fun q a b => dis q b a) c1 c2 hd7 hd hy rfl hrc hsat hP2 hP1 hS hl.1 hsm (fun v h' H1 locs1 hq p1 p2 s1 => by
    obtain ⟨rfl, q2⟩ := hq
    exact k h' q2 H1 locs1 ls hl p2 p1 s1)
  rw [cv_ints has] at this
  exact this
end LAW
