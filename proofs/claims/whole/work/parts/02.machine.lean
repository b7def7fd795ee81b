/-! THE ABSTRACT MACHINE: a method's run over a fixed world of places: int fields, int arrays, long arrays; blocks of code; a predicate of what follows -/
abbrev aH : Type := (Nat → Nat → Int32) × (Nat → Nat → Int32) × (Nat → Nat → Int64)
def fI (h : aH) (p k : Nat) : Int32 := h.1 p k
def aI (h : aH) (p : Nat) : Nat → Int32 := h.2.1 p
def aL (h : aH) (p : Nat) : Nat → Int64 := h.2.2 p
def sF (h : aH) (p k : Nat) (v : Int32) : aH := (fun q => if q = p then (fun j => if j = k then v else h.1 p j) else h.1 q, h.2.1, h.2.2)
def sA (h : aH) (p : Nat) (g : Nat → Int32) : aH := (h.1, fun q => if q = p then g else h.2.1 q, h.2.2)
def sL (h : aH) (p : Nat) (g : Nat → Int64) : aH := (h.1, h.2.1, fun q => if q = p then g else h.2.2 q)
/-- a place: an object of a class with its references (none: an int field), or an array (kind, length, first row) -/
abbrev aE : Type := (Nat × List (Option Nat)) ⊕ (Nat × Nat × Nat)
def shp (w : List aE) (p : Nat) : aE := w.getD p (.inr (9, 0, 0))
def lenK (w : List aE) (kd p : Nat) : Nat := match shp w p with
  | .inr (k, n, _) => if k = kd then n else 0
  | .inl _ => 0
def alen (w : List aE) (p : Nat) : Option Nat := match shp w p with
  | .inr (k, n, _) => if k < 4 then some n else none
  | .inl _ => none
def basK (w : List aE) (p : Nat) : Nat := match shp w p with
  | .inr (_, _, b) => b
  | .inl _ => 0
def cv (ad : Nat → Nat) : Value → Value
  | .ref a => .ref (ad a)
  | v => v
def fvr (h : aH) (p k : Nat) : Option (Option Nat) → Option Value
  | some (some q) => some (.ref q)
  | some none => some (.int (fI h p k))
  | none => none
def fval (w : List aE) (h : aH) (p : Nat) : Option (Nat × Nat × Bool) → Option Value
  | some (ci, k, _) => match shp w p with
    | .inl (c, rs) => if c = ci then fvr h p k rs[k]? else none
    | .inr _ => none
  | none => none
def pfok (w : List aE) (p : Nat) : Option (Nat × Nat × Bool) → Option Nat
  | some (ci, k, b) => match shp w p with
    | .inl (c, rs) => if c = ci then (if b = true then (match rs[k]? with | some none => some k | _ => none) else none) else none
    | .inr _ => none
  | none => none
def opK {α : Type} : Option α → (α → Prop) → Prop
  | some a, k => k a
  | none, _ => False
def o_i (st : List Value) (k : Int32 → List Value → Prop) : Prop := match st with
  | .int x :: r => k x r
  | _ => False
def o_ii (st : List Value) (k : Int32 → Int32 → List Value → Prop) : Prop := match st with
  | .int y :: .int x :: r => k x y r
  | _ => False
def o_l (st : List Value) (k : Int64 → List Value → Prop) : Prop := match st with
  | .long x :: r => k x r
  | _ => False
def o_ll (st : List Value) (k : Int64 → Int64 → List Value → Prop) : Prop := match st with
  | .long y :: .long x :: r => k x y r
  | _ => False
def o_r (st : List Value) (k : Nat → List Value → Prop) : Prop := match st with
  | .ref a :: r => k a r
  | _ => False
def o_ri (st : List Value) (k : Nat → Int32 → List Value → Prop) : Prop := match st with
  | .int i :: .ref a :: r => k a i r
  | _ => False
def o_rii (st : List Value) (k : Nat → Int32 → Int32 → List Value → Prop) : Prop := match st with
  | .int v :: .int i :: .ref a :: r => k a i v r
  | _ => False
def o_ril (st : List Value) (k : Nat → Int32 → Int64 → List Value → Prop) : Prop := match st with
  | .long v :: .int i :: .ref a :: r => k a i v r
  | _ => False
def o_du (st : List Value) (k : List Value → Prop) : Prop := match st with
  | .int x :: r => k (.int x :: .int x :: r)
  | .ref x :: r => k (.ref x :: .ref x :: r)
  | _ => False
def o_nil (st : List Value) (k : Prop) : Prop := match st with
  | [] => k
  | _ => False
def o_i1 (st : List Value) (k : Int32 → Prop) : Prop := match st with
  | [.int x] => k x
  | _ => False
def o_l1 (st : List Value) (k : Int64 → Prop) : Prop := match st with
  | [.long x] => k x
  | _ => False
def o_cp (st : List Value) (k : Nat → Int32 → Nat → Int32 → Int32 → List Value → Prop) : Prop := match st with
  | .int n :: .int dp :: .ref q :: .int sp :: .ref p :: r => k p sp q dp n r
  | _ => False
def o_sm (st : List Value) (k : Prop) : Prop := match st with
  | [] => k
  | [_] => k
  | [_, _] => k
  | [_, _, _] => k
  | [_, _, _, _] => k
  | _ => False
def ldI (ls : List Value) (i : Nat) (k : Int32 → Prop) : Prop := match ls[i]? with
  | some (.int x) => k x
  | _ => False
def ldJ (ls : List Value) (i : Nat) (k : Int64 → Prop) : Prop := match ls[i]? with
  | some (.long x) => k x
  | _ => False
def ldR (ls : List Value) (i : Nat) (k : Nat → Prop) : Prop := match ls[i]? with
  | some (.ref x) => k x
  | _ => False
/-- what is left of the value behind which another one is written -/
def kl : Value → Value
  | .int x => .int x
  | .ref x => .ref x
  | _ => .null
def stK : List Value → Nat → Value → (List Value → Prop) → Prop
  | [], _, _, _ => False
  | _ :: ls, 0, v, k => k (v :: ls)
  | a :: _ :: ls, 1, v, k => k (kl a :: v :: ls)
  | a :: ls, i + 1, v, k => stK ls i v (fun ls' => k (a :: ls'))
def lsK : List Value → Nat → Value → (List Value → Prop) → Prop
  | _ :: _ :: ls, 0, v, k => k (v :: .null :: ls)
  | a :: _ :: _ :: ls, 1, v, k => k (kl a :: v :: .null :: ls)
  | a :: ls, i + 2, v, k => lsK ls (i + 1) v (fun ls' => k (a :: ls'))
  | _, _, _, _ => False
def cargs : Nat → List Value → List Value → (List Value → List Value → Prop) → Prop
  | 0, acc, st, k => k acc st
  | n + 1, acc, v :: st, k => cargs n (v :: acc) st k
  | _ + 1, _, [], _ => False
def o_rc (as : List Value) (k : Nat → Prop) : Prop := match as with
  | .ref p :: _ => k p
  | _ => False
def cnd (c : ClassFile.Cond) (x y : Int32) : Prop := match c with
  | .eq => x = y
  | .ne => ¬ x = y
  | .lt => x < y
  | .ge => y ≤ x
  | .gt => y < x
  | .le => x ≤ y
def tsK (x : Int32) (pc : Nat) (k : Nat → Prop) : Int → List Int → Prop
  | _, [] => True
  | lo, o :: os => (x.toInt = lo → k ((pc : Int) + o).toNat) ∧ tsK x pc k (lo + 1) os
/-- a class's links: fields (index, class, slot, may be written), methods (index, name, parameters, kind: 0 virtual, 1 static, 2 arraycopy of ints), constants -/
abbrev aX : Type := List (Nat × Nat × Nat × Bool) × List (Nat × MethodName × Nat × Nat) × List (Nat × Int32) × List (Nat × Int64)
def lk {α : Type} : List (Nat × α) → Nat → Option α
  | [], _ => none
  | (j, a) :: r, i => if j = i then some a else lk r i
def rcv (w : List aE) (cl : List vw_C) (p : Nat) (y : MethodName) : Bool := match shp w p with
  | .inl (c, _) => match cl[c]? with
    | some q => decide (q.1 = y.cls)
    | none => false
  | .inr _ => false
abbrev aS : Type := MethodName → List Value → aH → (Option Value → aH → Prop) → Prop
def stp (w : List aE) (cl : List vw_C) (x : aX) (S : aS) (Q : Option Value → aH → Prop) (rk : Nat) (pc : Nat) (i : Instr) (t : Nat) (ls st : List Value) (h : aH) (nx : List Value → List Value → aH → Prop) (jp : Nat → List Value → List Value → aH → Prop) : Prop := match i with
  | .iconst n => nx ls (.int (Int32.ofInt n) :: st) h
  | .bipush n => nx ls (.int (Int8.ofInt n).toInt32 :: st) h
  | .sipush n => nx ls (.int (Int16.ofInt n).toInt32 :: st) h
  | .lconst n => nx ls (.long (Int64.ofNat (n : Nat)) :: st) h
  | .ldc j => opK (lk x.2.2.1 j) fun v => nx ls (.int v :: st) h
  | .ldc_w j => opK (lk x.2.2.1 j) fun v => nx ls (.int v :: st) h
  | .ldc2_w j => opK (lk x.2.2.2 j) fun v => nx ls (.long v :: st) h
  | .iload j => ldI ls j fun v => nx ls (.int v :: st) h
  | .iload_n j => ldI ls j.val fun v => nx ls (.int v :: st) h
  | .lload j => ldJ ls j fun v => nx ls (.long v :: st) h
  | .lload_n j => ldJ ls j.val fun v => nx ls (.long v :: st) h
  | .aload j => ldR ls j fun v => nx ls (.ref v :: st) h
  | .aload_n j => ldR ls j.val fun v => nx ls (.ref v :: st) h
  | .istore j => o_i st fun v r => stK ls j (.int v) fun ls' => nx ls' r h
  | .istore_n j => o_i st fun v r => stK ls j.val (.int v) fun ls' => nx ls' r h
  | .lstore j => o_l st fun v r => lsK ls j (.long v) fun ls' => nx ls' r h
  | .lstore_n j => o_l st fun v r => lsK ls j.val (.long v) fun ls' => nx ls' r h
  | .iinc j n => ldI ls j fun v => stK ls j (.int (v + Int32.ofInt n)) fun ls' => nx ls' st h
  | .iadd => o_ii st fun a b r => nx ls (.int (a + b) :: r) h
  | .isub => o_ii st fun a b r => nx ls (.int (a - b) :: r) h
  | .imul => o_ii st fun a b r => nx ls (.int (a * b) :: r) h
  | .iand => o_ii st fun a b r => nx ls (.int (a &&& b) :: r) h
  | .ior => o_ii st fun a b r => nx ls (.int (a ||| b) :: r) h
  | .ixor => o_ii st fun a b r => nx ls (.int (a ^^^ b) :: r) h
  | .ishl => o_ii st fun a b r => nx ls (.int (a <<< (b &&& 31)) :: r) h
  | .ishr => o_ii st fun a b r => nx ls (.int (a >>> (b &&& 31)) :: r) h
  | .iushr => o_ii st fun a b r => nx ls (.int (a.toUInt32 >>> (b.toUInt32 &&& Int32.toUInt32 31)).toInt32 :: r) h
  | .idiv => o_ii st fun a b r => (¬ b = 0) ∧ nx ls (.int (a / b) :: r) h
  | .irem => o_ii st fun a b r => (¬ b = 0) ∧ nx ls (.int (a - a / b * b) :: r) h
  | .ladd => o_ll st fun a b r => nx ls (.long (a + b) :: r) h
  | .lmul => o_ll st fun a b r => nx ls (.long (a * b) :: r) h
  | .lcmp => o_ll st fun a b r => nx ls (.int (lg_cmp a b) :: r) h
  | .i2l => o_i st fun a r => nx ls (.long a.toInt64 :: r) h
  | .i2b => o_i st fun a r => nx ls (.int a.toInt8.toInt32 :: r) h
  | .i2s => o_i st fun a r => nx ls (.int a.toInt16.toInt32 :: r) h
  | .dup => o_du st fun r => nx ls r h
  | .dup2 => o_ri st fun a j r => nx ls (.int j :: .ref a :: .int j :: .ref a :: r) h
  | .getfield j => o_r st fun a r => opK (fval w h a (lk x.1 j)) fun v => nx ls (v :: r) h
  | .putfield j => o_ri st fun a v r => opK (pfok w a (lk x.1 j)) fun k => nx ls r (sF h a k v)
  | .iaload => o_ri st fun a j r => vp_in j (lenK w 0 a) ∧ nx ls (.int (aI h a j.toNatClampNeg) :: r) h
  | .baload => o_ri st fun a j r => vp_in j (lenK w 2 a) ∧ nx ls (.int (aI h a j.toNatClampNeg) :: r) h
  | .laload => o_ri st fun a j r => vp_in j (lenK w 1 a) ∧ nx ls (.long (aL h a j.toNatClampNeg) :: r) h
  | .aaload => o_ri st fun a j r => vp_in j (lenK w 3 a) ∧ nx ls (.ref (basK w a + j.toNatClampNeg) :: r) h
  | .iastore => o_rii st fun a j v r => vp_in j (lenK w 0 a) ∧ nx ls r (sA h a (upd (aI h a) j.toNatClampNeg v))
  | .bastore => o_rii st fun a j v r => vp_in j (lenK w 2 a) ∧ (v = 0 ∨ v = 1) ∧ nx ls r (sA h a (upd (aI h a) j.toNatClampNeg v))
  | .lastore => o_ril st fun a j v r => vp_in j (lenK w 1 a) ∧ nx ls r (sL h a (vp_updL (aL h a) j.toNatClampNeg v))
  | .arraylength => o_r st fun a r => opK (alen w a) fun n => nx ls (.int (nI n) :: r) h
  | .goto _ => jp t ls st h
  | .ifCond c _ => o_i st fun a r => (cnd c a 0 → jp t ls r h) ∧ (¬ cnd c a 0 → nx ls r h)
  | .if_icmp c _ => o_ii st fun a b r => (cnd c a b → jp t ls r h) ∧ (¬ cnd c a b → nx ls r h)
  | .ireturn => o_i1 st fun v => (rk = 0 ∨ (rk = 1 ∧ (v = 0 ∨ v = 1))) ∧ Q (some (.int v)) h
  | .lreturn => o_l1 st fun v => rk = 2 ∧ Q (some (.long v)) h
  | .return_ => o_nil st (rk = 3 ∧ Q none h)
  | .tableswitch dflt lo hi offs => o_i st fun a r => (a.toInt < lo ∨ hi < a.toInt → jp ((pc : Int) + dflt).toNat ls r h) ∧ lo + (offs.size : Int) = hi + 1 ∧ tsK a pc (fun z => jp z ls r h) lo offs.toList
  | .lookupswitch dflt ps => o_i st fun a r => (ps.toList.zip (ps.toList.drop 1)).all (fun (u, next) => u.1 < next.1) = true ∧ 0 ≤ (pc : Int) + Op.lookupswitch.offset ps.toList dflt a.toInt ∧ jp ((pc : Int) + Op.lookupswitch.offset ps.toList dflt a.toInt).toNat ls r h
  | .invokevirtual j => opK (lk x.2.1 j) fun q => q.2.2 = 0 ∧ cargs (q.2.1 + 1) [] st fun as r => o_sm r (o_rc as fun p => rcv w cl p q.1 = true ∧ S q.1 as h fun v h' => nx ls (v.toList ++ r) h')
  | .invokestatic j => opK (lk x.2.1 j) fun q => (q.2.2 = 1 ∧ cargs q.2.1 [] st fun as r => o_sm r (S q.1 as h fun v h' => nx ls (v.toList ++ r) h')) ∨ (q.2.2 = 2 ∧ o_cp st fun p sp p2 dp n r => ((¬ sp < 0 ∧ ¬ dp < 0 ∧ ¬ n < 0 ∧ sp.toNatClampNeg + n.toNatClampNeg ≤ lenK w 0 p ∧ dp.toNatClampNeg + n.toNatClampNeg ≤ lenK w 0 p2) ∧ 0 < lenK w 0 p ∧ 0 < lenK w 0 p2) ∧ o_sm r (nx ls r (sA h p2 (va_cpy (aI h p) (aI h p2) sp.toNatClampNeg dp.toNatClampNeg n.toNatClampNeg)))) ∨ (q.2.2 = 3 ∧ o_ii st fun a b r => o_sm r (nx ls (.int (if a < b then b else a) :: r) h)) ∨ (q.2.2 = 4 ∧ o_ii st fun a b r => o_sm r (nx ls (.int (if b < a then b else a) :: r) h))
  | _ => False
def blk (w : List aE) (cl : List vw_C) (x : aX) (S : aS) (Q : Option Value → aH → Prop) (rk : Nat) (e : Nat) (jp : Nat → List Value → List Value → aH → Prop) : List (Nat × Instr × Nat) → List Value → List Value → aH → Prop
  | [], ls, st, h => jp e ls st h
  | (pc, i, t) :: is, ls, st, h => stp w cl x S Q rk pc i t ls st h (fun ls st h => blk w cl x S Q rk e jp is ls st h) jp
abbrev aB : Type := Nat × List (Nat × Instr × Nat)
def bk : List (Nat × aB) → Nat → Option aB
  | [], _ => none
  | (j, a) :: r, i => if j = i then some a else bk r i
abbrev aCd : Type := List Nat × List (Nat × aB)
def jm (w : List aE) (cl : List vw_C) (x : aX) (S : aS) (Q : Option Value → aH → Prop) (rk : Nat) (cd : aCd) (J : Nat → List Value → List Value → aH → Prop) : Nat → Nat → List Value → List Value → aH → Prop
  | 0, t, ls, st, h => J t ls st h
  | n + 1, t, ls, st, h => if t ∈ cd.1 then J t ls st h else opK (bk cd.2 t) fun b => blk w cl x S Q rk b.1 (jm w cl x S Q rk cd J n) b.2 ls st h
