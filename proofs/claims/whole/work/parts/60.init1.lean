/-! the class's constructors: those that make arrays alone -/
set_option maxHeartbeats 4000000 in
set_option maxRecDepth 100000 in
theorem i_X0 (l : Launch) (D : va_G) (dA : Nat → ClassId) (h0 : Nat) (a0 : Nat) (a1 : Nat) (a2 : Nat) (sz : Nat) : Met l yX0_init (Cond.code yX0_init cX0_init 4 none :: aT) { frames := 2, cells := 0, slots := 0, locals := 100 } (va_Pc [.ref h0, .ref a0, .ref a1, .ref a2] (fun U => U.heap.size = sz ∧ va_P D vwCl [(h0, .inr (0, [.null, .null, .null]))] U.heap ∧ aK tkZ D vwCl dA U ∧ va_D (fun _ => True) [(h0, .inr (0, [.null, .null, .null]))])) (va_Qv (fun _ : Unit => True) (fun _ t => va_P D vwCl [(h0, .inr (0, [.ref a0, .ref a1, .ref a2]))] t.heap ∧ va_D (va_A [(h0, .inr (0, [.null, .null, .null]))] sz) [(h0, .inr (0, [.ref a0, .ref a1, .ref a2]))]) (va_A [(h0, .inr (0, [.null, .null, .null]))] sz)) 0 0 (va_A [(h0, .inr (0, [.null, .null, .null]))] sz) := by
  refine Met.ofW (cc := cX0_init) (maxL := 4) (ret := none) (by decide) rfl ?_
  intro p e s m args below meth c s₁ B hml hv
  obtain ⟨rfl, hsz, hP, hK, hD0⟩ := hv
  have hx := B.exec
  have hb := B.bytes
  have hr := B.returns
  have hts0 := atoms_spec (ws := (Cond.code yX0_init cX0_init 4 none :: aT)) B.pre
  have hts : ∀ w ∈ aT, _ := fun w hw => hts0 w (List.mem_cons_of_mem _ hw)
  have hown : s.vm.findClass RX0 = some m.cls := findClass_of_methodNamed B.named
  have hlocks := B.notSynchronized
  have hin : meth.name = "<init>" := (name_of_methodNamed B.named B.method).1
  subst hsz
  have hD := hD0.self (sz := s.heap.size)
  generalize hAe : va_A [(h0, .inr (0, [.null, .null, .null]))] s.heap.size = A at hD ⊢
  have hA : ∀ q : Nat, s.heap.size ≤ q → A q := fun q h => by rw [← hAe]; exact Or.inr h
  have hS : va_S A s.heap s.heap [] := va_S.rf
  have hP : va_P D vwCl [(h0, .inr (0, [.null, .null, .null]))] s.heap := hP
  have hl := lv_entry ([.ref h0, .ref a0, .ref a1, .ref a2]) (n := 4) (Nat.le_of_ble_eq_true rfl)
  rw [lg_entry_eq]
  generalize (lg_sl ([.ref h0, .ref a0, .ref a1, .ref a2]) ++ List.replicate (4 - (lg_sl ([.ref h0, .ref a0, .ref a1, .ref a2])).length) Slot.unset).toArray = ls at hl ⊢
  have hl : lv_has ls 4 [(0, .ref h0), (1, .ref a0), (2, .ref a1), (3, .ref a2)] := hl
  refine lv_aload_n hx hb (show decode cX0_init 0 = .ok (.aload_n 0, 1) by decide +kernel) rfl (lv_at hl 0 rfl) ?_
  refine W.objInit hx hb hown (hts _ (aT_of 279 (by decide +kernel) (by decide +kernel))) (hts _ (aT_of 69 (by decide +kernel) (by decide +kernel))) (hts _ (aT_of 70 (by decide +kernel) (by decide +kernel))) rfl (by rw [hml]; exact hl.1) rfl (show decode cX0_init 1 = .ok (.invokespecial 3, 3) by decide +kernel) (Nat.le_of_ble_eq_true rfl) (Nat.le_of_ble_eq_true rfl) ?_
  refine W.eq (g2 := F0 m 4 ls []) rfl ?_
  refine lv_aload_n hx hb (show decode cX0_init 4 = .ok (.aload_n 0, 1) by decide +kernel) rfl (lv_at hl 0 rfl) ?_
  refine lv_aload_n hx hb (show decode cX0_init 5 = .ok (.aload_n 1, 1) by decide +kernel) rfl (lv_at hl 1 rfl) ?_
  refine va_putF (D := D) (ci := 0) (v := .ref a0) (ty := .object "LessonWays$Items") (C := RX0) (T := TX0) (N := 3) hx hb hts (woC.2.2.1 0 _ rfl).1 tyX0 tyX0_ok nmX0 hown hK hP hD hS 0 rfl rfl 0 (by decide) (hts _ (lkX0.1 9 0 0 false _ rfl rfl).1) (fun _ h9 => h9) rfl hin rfl (by decide +kernel) rfl rfl (Nat.le_of_ble_eq_true rfl) (show decode cX0_init 6 = .ok (.putfield 9, 3) by decide +kernel) (fun H locs hP hD hS => ?_)
  have hP : va_P D vwCl [(h0, .inr (0, [.ref a0, .null, .null]))] H := hP
  have hD : va_D A [(h0, .inr (0, [.ref a0, .null, .null]))] := hD
  refine lv_aload_n hx hb (show decode cX0_init 9 = .ok (.aload_n 0, 1) by decide +kernel) rfl (lv_at hl 0 rfl) ?_
  refine lv_aload_n hx hb (show decode cX0_init 10 = .ok (.aload_n 2, 1) by decide +kernel) rfl (lv_at hl 2 rfl) ?_
  refine va_putF (D := D) (ci := 0) (v := .ref a1) (ty := .object "LessonWays$Space") (C := RX0) (T := TX0) (N := 3) hx hb hts (woC.2.2.1 0 _ rfl).1 tyX0 tyX0_ok nmX0 hown hK hP hD hS 0 rfl rfl 1 (by decide) (hts _ (lkX0.1 15 0 1 false _ rfl rfl).1) (fun _ h9 => h9) rfl hin rfl (by decide +kernel) rfl rfl (Nat.le_of_ble_eq_true rfl) (show decode cX0_init 11 = .ok (.putfield 15, 3) by decide +kernel) (fun H locs hP hD hS => ?_)
  have hP : va_P D vwCl [(h0, .inr (0, [.ref a0, .ref a1, .null]))] H := hP
  have hD : va_D A [(h0, .inr (0, [.ref a0, .ref a1, .null]))] := hD
  refine lv_aload_n hx hb (show decode cX0_init 14 = .ok (.aload_n 0, 1) by decide +kernel) rfl (lv_at hl 0 rfl) ?_
  refine lv_aload_n hx hb (show decode cX0_init 15 = .ok (.aload_n 3, 1) by decide +kernel) rfl (lv_at hl 3 rfl) ?_
  refine va_putF (D := D) (ci := 0) (v := .ref a2) (ty := .object "LessonWays$Sheets") (C := RX0) (T := TX0) (N := 3) hx hb hts (woC.2.2.1 0 _ rfl).1 tyX0 tyX0_ok nmX0 hown hK hP hD hS 0 rfl rfl 2 (by decide) (hts _ (lkX0.1 19 0 2 false _ rfl rfl).1) (fun _ h9 => h9) rfl hin rfl (by decide +kernel) rfl rfl (Nat.le_of_ble_eq_true rfl) (show decode cX0_init 16 = .ok (.putfield 19, 3) by decide +kernel) (fun H locs hP hD hS => ?_)
  have hP : va_P D vwCl [(h0, .inr (0, [.ref a0, .ref a1, .ref a2]))] H := hP
  have hD : va_D A [(h0, .inr (0, [.ref a0, .ref a1, .ref a2]))] := hD
  exact W.vret hx hb hr (fun t ht hW => ⟨⟨(), rfl, trivial, by rw [ht]; exact hP, hD⟩, hS.F ht⟩) hS.2.2 (show decode cX0_init 19 = .ok (.return_, 1) by decide +kernel)
set_option maxHeartbeats 4000000 in
set_option maxRecDepth 100000 in
theorem i_X1 (l : Launch) (D : va_G) (dA : Nat → ClassId) (h0 : Nat) (a0 : Nat) (a1 : Nat) (sz : Nat) : Met l yX1_init (Cond.code yX1_init cX1_init 3 none :: aT) { frames := 2, cells := 3, slots := 5132, locals := 100 } (va_Pc [.ref h0, .ref a0, .ref a1] (fun U => U.heap.size = sz ∧ va_P D vwCl [(h0, .inr (1, [.null, .null, .null, .null, .null, .int 0, .int 0, .int 0, .int 0]))] U.heap ∧ aK tkZ D vwCl dA U ∧ va_D (fun _ => True) [(h0, .inr (1, [.null, .null, .null, .null, .null, .int 0, .int 0, .int 0, .int 0]))])) (va_Qv (fun _ : Unit => True) (fun _ t => ∃ (q1 q2 q3 : Nat), va_P D vwCl [(h0, .inr (1, [.ref a0, .ref a1, .ref q1, .ref q2, .ref q3, .int 0, .int 0, .int 0, .int 0])), (q1, .inl (dA 1, 4096, .inr (.inl (fun _ => 0)))), (q2, .inl (dA 0, 12, .inl (fun _ => 0))), (q3, .inl (dA 0, 1024, .inl (fun _ => 0)))] t.heap ∧ va_D (va_A [(h0, .inr (1, [.null, .null, .null, .null, .null, .int 0, .int 0, .int 0, .int 0]))] sz) [(h0, .inr (1, [.ref a0, .ref a1, .ref q1, .ref q2, .ref q3, .int 0, .int 0, .int 0, .int 0])), (q1, .inl (dA 1, 4096, .inr (.inl (fun _ => 0)))), (q2, .inl (dA 0, 12, .inl (fun _ => 0))), (q3, .inl (dA 0, 1024, .inl (fun _ => 0)))]) (va_A [(h0, .inr (1, [.null, .null, .null, .null, .null, .int 0, .int 0, .int 0, .int 0]))] sz)) 3 5132 (va_A [(h0, .inr (1, [.null, .null, .null, .null, .null, .int 0, .int 0, .int 0, .int 0]))] sz) := by
  refine Met.ofW (cc := cX1_init) (maxL := 3) (ret := none) (by decide) rfl ?_
  intro p e s m args below meth c s₁ B hml hv
  obtain ⟨rfl, hsz, hP, hK, hD0⟩ := hv
  have hx := B.exec
  have hb := B.bytes
  have hr := B.returns
  have hts0 := atoms_spec (ws := (Cond.code yX1_init cX1_init 3 none :: aT)) B.pre
  have hts : ∀ w ∈ aT, _ := fun w hw => hts0 w (List.mem_cons_of_mem _ hw)
  have hown : s.vm.findClass RX1 = some m.cls := findClass_of_methodNamed B.named
  have hlocks := B.notSynchronized
  have hin : meth.name = "<init>" := (name_of_methodNamed B.named B.method).1
  subst hsz
  have hD := hD0.self (sz := s.heap.size)
  generalize hAe : va_A [(h0, .inr (1, [.null, .null, .null, .null, .null, .int 0, .int 0, .int 0, .int 0]))] s.heap.size = A at hD ⊢
  have hA : ∀ q : Nat, s.heap.size ≤ q → A q := fun q h => by rw [← hAe]; exact Or.inr h
  have hS : va_S A s.heap s.heap [] := va_S.rf
  have hP : va_P D vwCl [(h0, .inr (1, [.null, .null, .null, .null, .null, .int 0, .int 0, .int 0, .int 0]))] s.heap := hP
  have hl := lv_entry ([.ref h0, .ref a0, .ref a1]) (n := 3) (Nat.le_of_ble_eq_true rfl)
  rw [lg_entry_eq]
  generalize (lg_sl ([.ref h0, .ref a0, .ref a1]) ++ List.replicate (3 - (lg_sl ([.ref h0, .ref a0, .ref a1])).length) Slot.unset).toArray = ls at hl ⊢
  have hl : lv_has ls 3 [(0, .ref h0), (1, .ref a0), (2, .ref a1)] := hl
  refine lv_aload_n hx hb (show decode cX1_init 0 = .ok (.aload_n 0, 1) by decide +kernel) rfl (lv_at hl 0 rfl) ?_
  refine W.objInit hx hb hown (hts _ (aT_of 185 (by decide +kernel) (by decide +kernel))) (hts _ (aT_of 69 (by decide +kernel) (by decide +kernel))) (hts _ (aT_of 70 (by decide +kernel) (by decide +kernel))) rfl (by rw [hml]; exact hl.1) rfl (show decode cX1_init 1 = .ok (.invokespecial 3, 3) by decide +kernel) (Nat.le_of_ble_eq_true rfl) (Nat.le_of_ble_eq_true rfl) ?_
  refine W.eq (g2 := F0 m 4 ls []) rfl ?_
  refine lv_aload_n hx hb (show decode cX1_init 4 = .ok (.aload_n 0, 1) by decide +kernel) rfl (lv_at hl 0 rfl) ?_
  refine lv_sipush (v := 4096) hx hb (show decode cX1_init 5 = .ok (.sipush 4096, 3) by decide +kernel) (by decide) ?_
  refine va_newa (ty := .long) (N' := 4096) (a0 := (4096, .inr (.inl (fun _ => 0)))) hx hb (hts _ (aT_of 219 (by decide +kernel) (by decide +kernel))) rfl hK hP hD hS hA (fun _ => rfl) (by decide) (by decide) (by decide) (Nat.le_of_ble_eq_true rfl) (Nat.le_of_ble_eq_true rfl) (show decode cX1_init 8 = .ok (.newarray .long, 2) by decide +kernel) (fun q1 cA H hK2 hP hD hS => ?_)
  obtain rfl : cA = dA 1 := k_one (k := 1) (by decide) hK2
  have hP : va_P D vwCl [(h0, .inr (1, [.null, .null, .null, .null, .null, .int 0, .int 0, .int 0, .int 0])), (q1, .inl (dA 1, 4096, .inr (.inl (fun _ => 0))))] H := hP
  have hD : va_D A [(h0, .inr (1, [.null, .null, .null, .null, .null, .int 0, .int 0, .int 0, .int 0])), (q1, .inl (dA 1, 4096, .inr (.inl (fun _ => 0))))] := hD
  refine W.widen (k := 1) (n := 4096) (by omega) (by omega) ?_
  refine va_putF (D := D) (ci := 1) (v := .ref q1) (ty := .array .long) (C := RX1) (T := TX1) (N := 9) hx hb hts (woC.2.2.1 1 _ rfl).1 tyX1 tyX1_ok nmX1 hown hK hP hD hS 0 rfl rfl 2 (by decide) (hts _ (lkX1.1 9 1 2 false _ rfl rfl).1) (fun _ h9 => h9) rfl hin rfl (by decide +kernel) rfl rfl (Nat.le_of_ble_eq_true rfl) (show decode cX1_init 10 = .ok (.putfield 9, 3) by decide +kernel) (fun H locs hP hD hS => ?_)
  have hP : va_P D vwCl [(h0, .inr (1, [.null, .null, .ref q1, .null, .null, .int 0, .int 0, .int 0, .int 0])), (q1, .inl (dA 1, 4096, .inr (.inl (fun _ => 0))))] H := hP
  have hD : va_D A [(h0, .inr (1, [.null, .null, .ref q1, .null, .null, .int 0, .int 0, .int 0, .int 0])), (q1, .inl (dA 1, 4096, .inr (.inl (fun _ => 0))))] := hD
  refine lv_aload_n hx hb (show decode cX1_init 13 = .ok (.aload_n 0, 1) by decide +kernel) rfl (lv_at hl 0 rfl) ?_
  refine lv_bipush (v := 12) hx hb (show decode cX1_init 14 = .ok (.bipush 12, 2) by decide +kernel) (by decide) ?_
  refine va_newa (ty := .int) (N' := 12) (a0 := (12, .inl (fun _ => 0))) hx hb (hts _ (aT_of 121 (by decide +kernel) (by decide +kernel))) rfl hK hP hD hS hA (fun _ => rfl) (by decide) (by decide) (by decide) (Nat.le_of_ble_eq_true rfl) (Nat.le_of_ble_eq_true rfl) (show decode cX1_init 16 = .ok (.newarray .int, 2) by decide +kernel) (fun q2 cA H hK2 hP hD hS => ?_)
  obtain rfl : cA = dA 0 := k_one (k := 0) (by decide) hK2
  have hP : va_P D vwCl [(h0, .inr (1, [.null, .null, .ref q1, .null, .null, .int 0, .int 0, .int 0, .int 0])), (q1, .inl (dA 1, 4096, .inr (.inl (fun _ => 0)))), (q2, .inl (dA 0, 12, .inl (fun _ => 0)))] H := hP
  have hD : va_D A [(h0, .inr (1, [.null, .null, .ref q1, .null, .null, .int 0, .int 0, .int 0, .int 0])), (q1, .inl (dA 1, 4096, .inr (.inl (fun _ => 0)))), (q2, .inl (dA 0, 12, .inl (fun _ => 0)))] := hD
  refine W.widen (k := 2) (n := 4108) (by omega) (by omega) ?_
  refine va_putF (D := D) (ci := 1) (v := .ref q2) (ty := .array .int) (C := RX1) (T := TX1) (N := 9) hx hb hts (woC.2.2.1 1 _ rfl).1 tyX1 tyX1_ok nmX1 hown hK hP hD hS 0 rfl rfl 3 (by decide) (hts _ (lkX1.1 15 1 3 false _ rfl rfl).1) (fun _ h9 => h9) rfl hin rfl (by decide +kernel) rfl rfl (Nat.le_of_ble_eq_true rfl) (show decode cX1_init 18 = .ok (.putfield 15, 3) by decide +kernel) (fun H locs hP hD hS => ?_)
  have hP : va_P D vwCl [(h0, .inr (1, [.null, .null, .ref q1, .ref q2, .null, .int 0, .int 0, .int 0, .int 0])), (q1, .inl (dA 1, 4096, .inr (.inl (fun _ => 0)))), (q2, .inl (dA 0, 12, .inl (fun _ => 0)))] H := hP
  have hD : va_D A [(h0, .inr (1, [.null, .null, .ref q1, .ref q2, .null, .int 0, .int 0, .int 0, .int 0])), (q1, .inl (dA 1, 4096, .inr (.inl (fun _ => 0)))), (q2, .inl (dA 0, 12, .inl (fun _ => 0)))] := hD
  refine lv_aload_n hx hb (show decode cX1_init 21 = .ok (.aload_n 0, 1) by decide +kernel) rfl (lv_at hl 0 rfl) ?_
  refine lv_sipush (v := 1024) hx hb (show decode cX1_init 22 = .ok (.sipush 1024, 3) by decide +kernel) (by decide) ?_
  refine va_newa (ty := .int) (N' := 1024) (a0 := (1024, .inl (fun _ => 0))) hx hb (hts _ (aT_of 121 (by decide +kernel) (by decide +kernel))) rfl hK hP hD hS hA (fun _ => rfl) (by decide) (by decide) (by decide) (Nat.le_of_ble_eq_true rfl) (Nat.le_of_ble_eq_true rfl) (show decode cX1_init 25 = .ok (.newarray .int, 2) by decide +kernel) (fun q3 cA H hK2 hP hD hS => ?_)
  obtain rfl : cA = dA 0 := k_one (k := 0) (by decide) hK2
  have hP : va_P D vwCl [(h0, .inr (1, [.null, .null, .ref q1, .ref q2, .null, .int 0, .int 0, .int 0, .int 0])), (q1, .inl (dA 1, 4096, .inr (.inl (fun _ => 0)))), (q2, .inl (dA 0, 12, .inl (fun _ => 0))), (q3, .inl (dA 0, 1024, .inl (fun _ => 0)))] H := hP
  have hD : va_D A [(h0, .inr (1, [.null, .null, .ref q1, .ref q2, .null, .int 0, .int 0, .int 0, .int 0])), (q1, .inl (dA 1, 4096, .inr (.inl (fun _ => 0)))), (q2, .inl (dA 0, 12, .inl (fun _ => 0))), (q3, .inl (dA 0, 1024, .inl (fun _ => 0)))] := hD
  refine W.widen (k := 3) (n := 5132) (by omega) (by omega) ?_
  refine va_putF (D := D) (ci := 1) (v := .ref q3) (ty := .array .int) (C := RX1) (T := TX1) (N := 9) hx hb hts (woC.2.2.1 1 _ rfl).1 tyX1 tyX1_ok nmX1 hown hK hP hD hS 0 rfl rfl 4 (by decide) (hts _ (lkX1.1 19 1 4 false _ rfl rfl).1) (fun _ h9 => h9) rfl hin rfl (by decide +kernel) rfl rfl (Nat.le_of_ble_eq_true rfl) (show decode cX1_init 27 = .ok (.putfield 19, 3) by decide +kernel) (fun H locs hP hD hS => ?_)
  have hP : va_P D vwCl [(h0, .inr (1, [.null, .null, .ref q1, .ref q2, .ref q3, .int 0, .int 0, .int 0, .int 0])), (q1, .inl (dA 1, 4096, .inr (.inl (fun _ => 0)))), (q2, .inl (dA 0, 12, .inl (fun _ => 0))), (q3, .inl (dA 0, 1024, .inl (fun _ => 0)))] H := hP
  have hD : va_D A [(h0, .inr (1, [.null, .null, .ref q1, .ref q2, .ref q3, .int 0, .int 0, .int 0, .int 0])), (q1, .inl (dA 1, 4096, .inr (.inl (fun _ => 0)))), (q2, .inl (dA 0, 12, .inl (fun _ => 0))), (q3, .inl (dA 0, 1024, .inl (fun _ => 0)))] := hD
  refine lv_aload_n hx hb (show decode cX1_init 30 = .ok (.aload_n 0, 1) by decide +kernel) rfl (lv_at hl 0 rfl) ?_
  refine lv_aload_n hx hb (show decode cX1_init 31 = .ok (.aload_n 1, 1) by decide +kernel) rfl (lv_at hl 1 rfl) ?_
  refine va_putF (D := D) (ci := 1) (v := .ref a0) (ty := .object "LessonWays$Items") (C := RX1) (T := TX1) (N := 9) hx hb hts (woC.2.2.1 1 _ rfl).1 tyX1 tyX1_ok nmX1 hown hK hP hD hS 0 rfl rfl 0 (by decide) (hts _ (lkX1.1 22 1 0 false _ rfl rfl).1) (fun _ h9 => h9) rfl hin rfl (by decide +kernel) rfl rfl (Nat.le_of_ble_eq_true rfl) (show decode cX1_init 32 = .ok (.putfield 22, 3) by decide +kernel) (fun H locs hP hD hS => ?_)
  have hP : va_P D vwCl [(h0, .inr (1, [.ref a0, .null, .ref q1, .ref q2, .ref q3, .int 0, .int 0, .int 0, .int 0])), (q1, .inl (dA 1, 4096, .inr (.inl (fun _ => 0)))), (q2, .inl (dA 0, 12, .inl (fun _ => 0))), (q3, .inl (dA 0, 1024, .inl (fun _ => 0)))] H := hP
  have hD : va_D A [(h0, .inr (1, [.ref a0, .null, .ref q1, .ref q2, .ref q3, .int 0, .int 0, .int 0, .int 0])), (q1, .inl (dA 1, 4096, .inr (.inl (fun _ => 0)))), (q2, .inl (dA 0, 12, .inl (fun _ => 0))), (q3, .inl (dA 0, 1024, .inl (fun _ => 0)))] := hD
  refine lv_aload_n hx hb (show decode cX1_init 35 = .ok (.aload_n 0, 1) by decide +kernel) rfl (lv_at hl 0 rfl) ?_
  refine lv_aload_n hx hb (show decode cX1_init 36 = .ok (.aload_n 2, 1) by decide +kernel) rfl (lv_at hl 2 rfl) ?_
  refine va_putF (D := D) (ci := 1) (v := .ref a1) (ty := .object "LessonWays$Space") (C := RX1) (T := TX1) (N := 9) hx hb hts (woC.2.2.1 1 _ rfl).1 tyX1 tyX1_ok nmX1 hown hK hP hD hS 0 rfl rfl 1 (by decide) (hts _ (lkX1.1 26 1 1 false _ rfl rfl).1) (fun _ h9 => h9) rfl hin rfl (by decide +kernel) rfl rfl (Nat.le_of_ble_eq_true rfl) (show decode cX1_init 37 = .ok (.putfield 26, 3) by decide +kernel) (fun H locs hP hD hS => ?_)
  have hP : va_P D vwCl [(h0, .inr (1, [.ref a0, .ref a1, .ref q1, .ref q2, .ref q3, .int 0, .int 0, .int 0, .int 0])), (q1, .inl (dA 1, 4096, .inr (.inl (fun _ => 0)))), (q2, .inl (dA 0, 12, .inl (fun _ => 0))), (q3, .inl (dA 0, 1024, .inl (fun _ => 0)))] H := hP
  have hD : va_D A [(h0, .inr (1, [.ref a0, .ref a1, .ref q1, .ref q2, .ref q3, .int 0, .int 0, .int 0, .int 0])), (q1, .inl (dA 1, 4096, .inr (.inl (fun _ => 0)))), (q2, .inl (dA 0, 12, .inl (fun _ => 0))), (q3, .inl (dA 0, 1024, .inl (fun _ => 0)))] := hD
  exact W.vret hx hb hr (fun t ht hW => ⟨⟨(), rfl, trivial, q1, q2, q3, by rw [ht]; exact hP, hD⟩, hS.F ht⟩) hS.2.2 (show decode cX1_init 40 = .ok (.return_, 1) by decide +kernel)
set_option maxHeartbeats 4000000 in
set_option maxRecDepth 100000 in
theorem i_X3 (l : Launch) (D : va_G) (dA : Nat → ClassId) (h0 : Nat) (a0 : Nat) (a1 : Nat) (sz : Nat) : Met l yX3_init (Cond.code yX3_init cX3_init 3 none :: aT) { frames := 2, cells := 1, slots := 12, locals := 100 } (va_Pc [.ref h0, .ref a0, .ref a1] (fun U => U.heap.size = sz ∧ va_P D vwCl [(h0, .inr (3, [.null, .null, .null, .int 0, .int 0, .int 0]))] U.heap ∧ aK tkZ D vwCl dA U ∧ va_D (fun _ => True) [(h0, .inr (3, [.null, .null, .null, .int 0, .int 0, .int 0]))])) (va_Qv (fun _ : Unit => True) (fun _ t => ∃ (q1 : Nat), va_P D vwCl [(h0, .inr (3, [.ref a0, .ref a1, .ref q1, .int 0, .int 0, .int 0])), (q1, .inl (dA 0, 12, .inl (fun _ => 0)))] t.heap ∧ va_D (va_A [(h0, .inr (3, [.null, .null, .null, .int 0, .int 0, .int 0]))] sz) [(h0, .inr (3, [.ref a0, .ref a1, .ref q1, .int 0, .int 0, .int 0])), (q1, .inl (dA 0, 12, .inl (fun _ => 0)))]) (va_A [(h0, .inr (3, [.null, .null, .null, .int 0, .int 0, .int 0]))] sz)) 1 12 (va_A [(h0, .inr (3, [.null, .null, .null, .int 0, .int 0, .int 0]))] sz) := by
  refine Met.ofW (cc := cX3_init) (maxL := 3) (ret := none) (by decide) rfl ?_
  intro p e s m args below meth c s₁ B hml hv
  obtain ⟨rfl, hsz, hP, hK, hD0⟩ := hv
  have hx := B.exec
  have hb := B.bytes
  have hr := B.returns
  have hts0 := atoms_spec (ws := (Cond.code yX3_init cX3_init 3 none :: aT)) B.pre
  have hts : ∀ w ∈ aT, _ := fun w hw => hts0 w (List.mem_cons_of_mem _ hw)
  have hown : s.vm.findClass RX3 = some m.cls := findClass_of_methodNamed B.named
  have hlocks := B.notSynchronized
  have hin : meth.name = "<init>" := (name_of_methodNamed B.named B.method).1
  subst hsz
  have hD := hD0.self (sz := s.heap.size)
  generalize hAe : va_A [(h0, .inr (3, [.null, .null, .null, .int 0, .int 0, .int 0]))] s.heap.size = A at hD ⊢
  have hA : ∀ q : Nat, s.heap.size ≤ q → A q := fun q h => by rw [← hAe]; exact Or.inr h
  have hS : va_S A s.heap s.heap [] := va_S.rf
  have hP : va_P D vwCl [(h0, .inr (3, [.null, .null, .null, .int 0, .int 0, .int 0]))] s.heap := hP
  have hl := lv_entry ([.ref h0, .ref a0, .ref a1]) (n := 3) (Nat.le_of_ble_eq_true rfl)
  rw [lg_entry_eq]
  generalize (lg_sl ([.ref h0, .ref a0, .ref a1]) ++ List.replicate (3 - (lg_sl ([.ref h0, .ref a0, .ref a1])).length) Slot.unset).toArray = ls at hl ⊢
  have hl : lv_has ls 3 [(0, .ref h0), (1, .ref a0), (2, .ref a1)] := hl
  refine lv_aload_n hx hb (show decode cX3_init 0 = .ok (.aload_n 0, 1) by decide +kernel) rfl (lv_at hl 0 rfl) ?_
  refine W.objInit hx hb hown (hts _ (aT_of 225 (by decide +kernel) (by decide +kernel))) (hts _ (aT_of 69 (by decide +kernel) (by decide +kernel))) (hts _ (aT_of 70 (by decide +kernel) (by decide +kernel))) rfl (by rw [hml]; exact hl.1) rfl (show decode cX3_init 1 = .ok (.invokespecial 3, 3) by decide +kernel) (Nat.le_of_ble_eq_true rfl) (Nat.le_of_ble_eq_true rfl) ?_
  refine W.eq (g2 := F0 m 4 ls []) rfl ?_
  refine lv_aload_n hx hb (show decode cX3_init 4 = .ok (.aload_n 0, 1) by decide +kernel) rfl (lv_at hl 0 rfl) ?_
  refine lv_bipush (v := 12) hx hb (show decode cX3_init 5 = .ok (.bipush 12, 2) by decide +kernel) (by decide) ?_
  refine va_newa (ty := .int) (N' := 12) (a0 := (12, .inl (fun _ => 0))) hx hb (hts _ (aT_of 121 (by decide +kernel) (by decide +kernel))) rfl hK hP hD hS hA (fun _ => rfl) (by decide) (by decide) (by decide) (Nat.le_of_ble_eq_true rfl) (Nat.le_of_ble_eq_true rfl) (show decode cX3_init 7 = .ok (.newarray .int, 2) by decide +kernel) (fun q1 cA H hK2 hP hD hS => ?_)
  obtain rfl : cA = dA 0 := k_one (k := 0) (by decide) hK2
  have hP : va_P D vwCl [(h0, .inr (3, [.null, .null, .null, .int 0, .int 0, .int 0])), (q1, .inl (dA 0, 12, .inl (fun _ => 0)))] H := hP
  have hD : va_D A [(h0, .inr (3, [.null, .null, .null, .int 0, .int 0, .int 0])), (q1, .inl (dA 0, 12, .inl (fun _ => 0)))] := hD
  refine W.widen (k := 1) (n := 12) (by omega) (by omega) ?_
  refine va_putF (D := D) (ci := 3) (v := .ref q1) (ty := .array .int) (C := RX3) (T := TX3) (N := 6) hx hb hts (woC.2.2.1 3 _ rfl).1 tyX3 tyX3_ok nmX3 hown hK hP hD hS 0 rfl rfl 2 (by decide) (hts _ (lkX3.1 9 3 2 false _ rfl rfl).1) (fun _ h9 => h9) rfl hin rfl (by decide +kernel) rfl rfl (Nat.le_of_ble_eq_true rfl) (show decode cX3_init 9 = .ok (.putfield 9, 3) by decide +kernel) (fun H locs hP hD hS => ?_)
  have hP : va_P D vwCl [(h0, .inr (3, [.null, .null, .ref q1, .int 0, .int 0, .int 0])), (q1, .inl (dA 0, 12, .inl (fun _ => 0)))] H := hP
  have hD : va_D A [(h0, .inr (3, [.null, .null, .ref q1, .int 0, .int 0, .int 0])), (q1, .inl (dA 0, 12, .inl (fun _ => 0)))] := hD
  refine lv_aload_n hx hb (show decode cX3_init 12 = .ok (.aload_n 0, 1) by decide +kernel) rfl (lv_at hl 0 rfl) ?_
  refine lv_aload_n hx hb (show decode cX3_init 13 = .ok (.aload_n 1, 1) by decide +kernel) rfl (lv_at hl 1 rfl) ?_
  refine va_putF (D := D) (ci := 3) (v := .ref a0) (ty := .object "LessonWays$Items") (C := RX3) (T := TX3) (N := 6) hx hb hts (woC.2.2.1 3 _ rfl).1 tyX3 tyX3_ok nmX3 hown hK hP hD hS 0 rfl rfl 0 (by decide) (hts _ (lkX3.1 15 3 0 false _ rfl rfl).1) (fun _ h9 => h9) rfl hin rfl (by decide +kernel) rfl rfl (Nat.le_of_ble_eq_true rfl) (show decode cX3_init 14 = .ok (.putfield 15, 3) by decide +kernel) (fun H locs hP hD hS => ?_)
  have hP : va_P D vwCl [(h0, .inr (3, [.ref a0, .null, .ref q1, .int 0, .int 0, .int 0])), (q1, .inl (dA 0, 12, .inl (fun _ => 0)))] H := hP
  have hD : va_D A [(h0, .inr (3, [.ref a0, .null, .ref q1, .int 0, .int 0, .int 0])), (q1, .inl (dA 0, 12, .inl (fun _ => 0)))] := hD
  refine lv_aload_n hx hb (show decode cX3_init 17 = .ok (.aload_n 0, 1) by decide +kernel) rfl (lv_at hl 0 rfl) ?_
  refine lv_aload_n hx hb (show decode cX3_init 18 = .ok (.aload_n 2, 1) by decide +kernel) rfl (lv_at hl 2 rfl) ?_
  refine va_putF (D := D) (ci := 3) (v := .ref a1) (ty := .object "LessonWays$Space") (C := RX3) (T := TX3) (N := 6) hx hb hts (woC.2.2.1 3 _ rfl).1 tyX3 tyX3_ok nmX3 hown hK hP hD hS 0 rfl rfl 1 (by decide) (hts _ (lkX3.1 19 3 1 false _ rfl rfl).1) (fun _ h9 => h9) rfl hin rfl (by decide +kernel) rfl rfl (Nat.le_of_ble_eq_true rfl) (show decode cX3_init 19 = .ok (.putfield 19, 3) by decide +kernel) (fun H locs hP hD hS => ?_)
  have hP : va_P D vwCl [(h0, .inr (3, [.ref a0, .ref a1, .ref q1, .int 0, .int 0, .int 0])), (q1, .inl (dA 0, 12, .inl (fun _ => 0)))] H := hP
  have hD : va_D A [(h0, .inr (3, [.ref a0, .ref a1, .ref q1, .int 0, .int 0, .int 0])), (q1, .inl (dA 0, 12, .inl (fun _ => 0)))] := hD
  exact W.vret hx hb hr (fun t ht hW => ⟨⟨(), rfl, trivial, q1, by rw [ht]; exact hP, hD⟩, hS.F ht⟩) hS.2.2 (show decode cX3_init 22 = .ok (.return_, 1) by decide +kernel)
set_option maxHeartbeats 4000000 in
set_option maxRecDepth 100000 in
theorem i_X4 (l : Launch) (D : va_G) (dA : Nat → ClassId) (h0 : Nat) (a0 : Nat) (a1 : Nat) (sz : Nat) : Met l yX4_init (Cond.code yX4_init cX4_init 3 none :: aT) { frames := 2, cells := 2, slots := 4108, locals := 100 } (va_Pc [.ref h0, .ref a0, .ref a1] (fun U => U.heap.size = sz ∧ va_P D vwCl [(h0, .inr (4, [.null, .null, .null, .null]))] U.heap ∧ aK tkZ D vwCl dA U ∧ va_D (fun _ => True) [(h0, .inr (4, [.null, .null, .null, .null]))])) (va_Qv (fun _ : Unit => True) (fun _ t => ∃ (q1 q2 : Nat), va_P D vwCl [(h0, .inr (4, [.ref a0, .ref a1, .ref q1, .ref q2])), (q1, .inl (dA 0, 4096, .inl (fun _ => 0))), (q2, .inl (dA 0, 12, .inl (fun _ => 0)))] t.heap ∧ va_D (va_A [(h0, .inr (4, [.null, .null, .null, .null]))] sz) [(h0, .inr (4, [.ref a0, .ref a1, .ref q1, .ref q2])), (q1, .inl (dA 0, 4096, .inl (fun _ => 0))), (q2, .inl (dA 0, 12, .inl (fun _ => 0)))]) (va_A [(h0, .inr (4, [.null, .null, .null, .null]))] sz)) 2 4108 (va_A [(h0, .inr (4, [.null, .null, .null, .null]))] sz) := by
  refine Met.ofW (cc := cX4_init) (maxL := 3) (ret := none) (by decide) rfl ?_
  intro p e s m args below meth c s₁ B hml hv
  obtain ⟨rfl, hsz, hP, hK, hD0⟩ := hv
  have hx := B.exec
  have hb := B.bytes
  have hr := B.returns
  have hts0 := atoms_spec (ws := (Cond.code yX4_init cX4_init 3 none :: aT)) B.pre
  have hts : ∀ w ∈ aT, _ := fun w hw => hts0 w (List.mem_cons_of_mem _ hw)
  have hown : s.vm.findClass RX4 = some m.cls := findClass_of_methodNamed B.named
  have hlocks := B.notSynchronized
  have hin : meth.name = "<init>" := (name_of_methodNamed B.named B.method).1
  subst hsz
  have hD := hD0.self (sz := s.heap.size)
  generalize hAe : va_A [(h0, .inr (4, [.null, .null, .null, .null]))] s.heap.size = A at hD ⊢
  have hA : ∀ q : Nat, s.heap.size ≤ q → A q := fun q h => by rw [← hAe]; exact Or.inr h
  have hS : va_S A s.heap s.heap [] := va_S.rf
  have hP : va_P D vwCl [(h0, .inr (4, [.null, .null, .null, .null]))] s.heap := hP
  have hl := lv_entry ([.ref h0, .ref a0, .ref a1]) (n := 3) (Nat.le_of_ble_eq_true rfl)
  rw [lg_entry_eq]
  generalize (lg_sl ([.ref h0, .ref a0, .ref a1]) ++ List.replicate (3 - (lg_sl ([.ref h0, .ref a0, .ref a1])).length) Slot.unset).toArray = ls at hl ⊢
  have hl : lv_has ls 3 [(0, .ref h0), (1, .ref a0), (2, .ref a1)] := hl
  refine lv_aload_n hx hb (show decode cX4_init 0 = .ok (.aload_n 0, 1) by decide +kernel) rfl (lv_at hl 0 rfl) ?_
  refine W.objInit hx hb hown (hts _ (aT_of 166 (by decide +kernel) (by decide +kernel))) (hts _ (aT_of 69 (by decide +kernel) (by decide +kernel))) (hts _ (aT_of 70 (by decide +kernel) (by decide +kernel))) rfl (by rw [hml]; exact hl.1) rfl (show decode cX4_init 1 = .ok (.invokespecial 3, 3) by decide +kernel) (Nat.le_of_ble_eq_true rfl) (Nat.le_of_ble_eq_true rfl) ?_
  refine W.eq (g2 := F0 m 4 ls []) rfl ?_
  refine lv_aload_n hx hb (show decode cX4_init 4 = .ok (.aload_n 0, 1) by decide +kernel) rfl (lv_at hl 0 rfl) ?_
  refine lv_sipush (v := 4096) hx hb (show decode cX4_init 5 = .ok (.sipush 4096, 3) by decide +kernel) (by decide) ?_
  refine va_newa (ty := .int) (N' := 4096) (a0 := (4096, .inl (fun _ => 0))) hx hb (hts _ (aT_of 121 (by decide +kernel) (by decide +kernel))) rfl hK hP hD hS hA (fun _ => rfl) (by decide) (by decide) (by decide) (Nat.le_of_ble_eq_true rfl) (Nat.le_of_ble_eq_true rfl) (show decode cX4_init 8 = .ok (.newarray .int, 2) by decide +kernel) (fun q1 cA H hK2 hP hD hS => ?_)
  obtain rfl : cA = dA 0 := k_one (k := 0) (by decide) hK2
  have hP : va_P D vwCl [(h0, .inr (4, [.null, .null, .null, .null])), (q1, .inl (dA 0, 4096, .inl (fun _ => 0)))] H := hP
  have hD : va_D A [(h0, .inr (4, [.null, .null, .null, .null])), (q1, .inl (dA 0, 4096, .inl (fun _ => 0)))] := hD
  refine W.widen (k := 1) (n := 4096) (by omega) (by omega) ?_
  refine va_putF (D := D) (ci := 4) (v := .ref q1) (ty := .array .int) (C := RX4) (T := TX4) (N := 4) hx hb hts (woC.2.2.1 4 _ rfl).1 tyX4 tyX4_ok nmX4 hown hK hP hD hS 0 rfl rfl 2 (by decide) (hts _ (lkX4.1 9 4 2 false _ rfl rfl).1) (fun _ h9 => h9) rfl hin rfl (by decide +kernel) rfl rfl (Nat.le_of_ble_eq_true rfl) (show decode cX4_init 10 = .ok (.putfield 9, 3) by decide +kernel) (fun H locs hP hD hS => ?_)
  have hP : va_P D vwCl [(h0, .inr (4, [.null, .null, .ref q1, .null])), (q1, .inl (dA 0, 4096, .inl (fun _ => 0)))] H := hP
  have hD : va_D A [(h0, .inr (4, [.null, .null, .ref q1, .null])), (q1, .inl (dA 0, 4096, .inl (fun _ => 0)))] := hD
  refine lv_aload_n hx hb (show decode cX4_init 13 = .ok (.aload_n 0, 1) by decide +kernel) rfl (lv_at hl 0 rfl) ?_
  refine lv_bipush (v := 12) hx hb (show decode cX4_init 14 = .ok (.bipush 12, 2) by decide +kernel) (by decide) ?_
  refine va_newa (ty := .int) (N' := 12) (a0 := (12, .inl (fun _ => 0))) hx hb (hts _ (aT_of 121 (by decide +kernel) (by decide +kernel))) rfl hK hP hD hS hA (fun _ => rfl) (by decide) (by decide) (by decide) (Nat.le_of_ble_eq_true rfl) (Nat.le_of_ble_eq_true rfl) (show decode cX4_init 16 = .ok (.newarray .int, 2) by decide +kernel) (fun q2 cA H hK2 hP hD hS => ?_)
  obtain rfl : cA = dA 0 := k_one (k := 0) (by decide) hK2
  have hP : va_P D vwCl [(h0, .inr (4, [.null, .null, .ref q1, .null])), (q1, .inl (dA 0, 4096, .inl (fun _ => 0))), (q2, .inl (dA 0, 12, .inl (fun _ => 0)))] H := hP
  have hD : va_D A [(h0, .inr (4, [.null, .null, .ref q1, .null])), (q1, .inl (dA 0, 4096, .inl (fun _ => 0))), (q2, .inl (dA 0, 12, .inl (fun _ => 0)))] := hD
  refine W.widen (k := 2) (n := 4108) (by omega) (by omega) ?_
  refine va_putF (D := D) (ci := 4) (v := .ref q2) (ty := .array .int) (C := RX4) (T := TX4) (N := 4) hx hb hts (woC.2.2.1 4 _ rfl).1 tyX4 tyX4_ok nmX4 hown hK hP hD hS 0 rfl rfl 3 (by decide) (hts _ (lkX4.1 15 4 3 false _ rfl rfl).1) (fun _ h9 => h9) rfl hin rfl (by decide +kernel) rfl rfl (Nat.le_of_ble_eq_true rfl) (show decode cX4_init 18 = .ok (.putfield 15, 3) by decide +kernel) (fun H locs hP hD hS => ?_)
  have hP : va_P D vwCl [(h0, .inr (4, [.null, .null, .ref q1, .ref q2])), (q1, .inl (dA 0, 4096, .inl (fun _ => 0))), (q2, .inl (dA 0, 12, .inl (fun _ => 0)))] H := hP
  have hD : va_D A [(h0, .inr (4, [.null, .null, .ref q1, .ref q2])), (q1, .inl (dA 0, 4096, .inl (fun _ => 0))), (q2, .inl (dA 0, 12, .inl (fun _ => 0)))] := hD
  refine lv_aload_n hx hb (show decode cX4_init 21 = .ok (.aload_n 0, 1) by decide +kernel) rfl (lv_at hl 0 rfl) ?_
  refine lv_aload_n hx hb (show decode cX4_init 22 = .ok (.aload_n 1, 1) by decide +kernel) rfl (lv_at hl 1 rfl) ?_
  refine va_putF (D := D) (ci := 4) (v := .ref a0) (ty := .object "LessonWays$Items") (C := RX4) (T := TX4) (N := 4) hx hb hts (woC.2.2.1 4 _ rfl).1 tyX4 tyX4_ok nmX4 hown hK hP hD hS 0 rfl rfl 0 (by decide) (hts _ (lkX4.1 18 4 0 false _ rfl rfl).1) (fun _ h9 => h9) rfl hin rfl (by decide +kernel) rfl rfl (Nat.le_of_ble_eq_true rfl) (show decode cX4_init 23 = .ok (.putfield 18, 3) by decide +kernel) (fun H locs hP hD hS => ?_)
  have hP : va_P D vwCl [(h0, .inr (4, [.ref a0, .null, .ref q1, .ref q2])), (q1, .inl (dA 0, 4096, .inl (fun _ => 0))), (q2, .inl (dA 0, 12, .inl (fun _ => 0)))] H := hP
  have hD : va_D A [(h0, .inr (4, [.ref a0, .null, .ref q1, .ref q2])), (q1, .inl (dA 0, 4096, .inl (fun _ => 0))), (q2, .inl (dA 0, 12, .inl (fun _ => 0)))] := hD
  refine lv_aload_n hx hb (show decode cX4_init 26 = .ok (.aload_n 0, 1) by decide +kernel) rfl (lv_at hl 0 rfl) ?_
  refine lv_aload_n hx hb (show decode cX4_init 27 = .ok (.aload_n 2, 1) by decide +kernel) rfl (lv_at hl 2 rfl) ?_
  refine va_putF (D := D) (ci := 4) (v := .ref a1) (ty := .object "LessonWays$Space") (C := RX4) (T := TX4) (N := 4) hx hb hts (woC.2.2.1 4 _ rfl).1 tyX4 tyX4_ok nmX4 hown hK hP hD hS 0 rfl rfl 1 (by decide) (hts _ (lkX4.1 22 4 1 false _ rfl rfl).1) (fun _ h9 => h9) rfl hin rfl (by decide +kernel) rfl rfl (Nat.le_of_ble_eq_true rfl) (show decode cX4_init 28 = .ok (.putfield 22, 3) by decide +kernel) (fun H locs hP hD hS => ?_)
  have hP : va_P D vwCl [(h0, .inr (4, [.ref a0, .ref a1, .ref q1, .ref q2])), (q1, .inl (dA 0, 4096, .inl (fun _ => 0))), (q2, .inl (dA 0, 12, .inl (fun _ => 0)))] H := hP
  have hD : va_D A [(h0, .inr (4, [.ref a0, .ref a1, .ref q1, .ref q2])), (q1, .inl (dA 0, 4096, .inl (fun _ => 0))), (q2, .inl (dA 0, 12, .inl (fun _ => 0)))] := hD
  exact W.vret hx hb hr (fun t ht hW => ⟨⟨(), rfl, trivial, q1, q2, by rw [ht]; exact hP, hD⟩, hS.F ht⟩) hS.2.2 (show decode cX4_init 31 = .ok (.return_, 1) by decide +kernel)
set_option maxHeartbeats 4000000 in
set_option maxRecDepth 100000 in
theorem i_X6 (l : Launch) (D : va_G) (dA : Nat → ClassId) (h0 : Nat) (a0 : Nat) (sz : Nat) : Met l yX6_init (Cond.code yX6_init cX6_init 2 none :: aT) { frames := 2, cells := 3, slots := 12288, locals := 100 } (va_Pc [.ref h0, .ref a0] (fun U => U.heap.size = sz ∧ va_P D vwCl [(h0, .inr (6, [.null, .null, .null, .null, .int 0, .int 0, .int 0]))] U.heap ∧ aK tkZ D vwCl dA U ∧ va_D (fun _ => True) [(h0, .inr (6, [.null, .null, .null, .null, .int 0, .int 0, .int 0]))])) (va_Qv (fun _ : Unit => True) (fun _ t => ∃ (q1 q2 q3 : Nat), va_P D vwCl [(h0, .inr (6, [.ref a0, .ref q1, .ref q2, .ref q3, .int 0, .int 0, .int 0])), (q1, .inl (dA 0, 4096, .inl (fun _ => 0))), (q2, .inl (dA 0, 4096, .inl (fun _ => 0))), (q3, .inl (dA 0, 4096, .inl (fun _ => 0)))] t.heap ∧ va_D (va_A [(h0, .inr (6, [.null, .null, .null, .null, .int 0, .int 0, .int 0]))] sz) [(h0, .inr (6, [.ref a0, .ref q1, .ref q2, .ref q3, .int 0, .int 0, .int 0])), (q1, .inl (dA 0, 4096, .inl (fun _ => 0))), (q2, .inl (dA 0, 4096, .inl (fun _ => 0))), (q3, .inl (dA 0, 4096, .inl (fun _ => 0)))]) (va_A [(h0, .inr (6, [.null, .null, .null, .null, .int 0, .int 0, .int 0]))] sz)) 3 12288 (va_A [(h0, .inr (6, [.null, .null, .null, .null, .int 0, .int 0, .int 0]))] sz) := by
  refine Met.ofW (cc := cX6_init) (maxL := 2) (ret := none) (by decide) rfl ?_
  intro p e s m args below meth c s₁ B hml hv
  obtain ⟨rfl, hsz, hP, hK, hD0⟩ := hv
  have hx := B.exec
  have hb := B.bytes
  have hr := B.returns
  have hts0 := atoms_spec (ws := (Cond.code yX6_init cX6_init 2 none :: aT)) B.pre
  have hts : ∀ w ∈ aT, _ := fun w hw => hts0 w (List.mem_cons_of_mem _ hw)
  have hown : s.vm.findClass RX6 = some m.cls := findClass_of_methodNamed B.named
  have hlocks := B.notSynchronized
  have hin : meth.name = "<init>" := (name_of_methodNamed B.named B.method).1
  subst hsz
  have hD := hD0.self (sz := s.heap.size)
  generalize hAe : va_A [(h0, .inr (6, [.null, .null, .null, .null, .int 0, .int 0, .int 0]))] s.heap.size = A at hD ⊢
  have hA : ∀ q : Nat, s.heap.size ≤ q → A q := fun q h => by rw [← hAe]; exact Or.inr h
  have hS : va_S A s.heap s.heap [] := va_S.rf
  have hP : va_P D vwCl [(h0, .inr (6, [.null, .null, .null, .null, .int 0, .int 0, .int 0]))] s.heap := hP
  have hl := lv_entry ([.ref h0, .ref a0]) (n := 2) (Nat.le_of_ble_eq_true rfl)
  rw [lg_entry_eq]
  generalize (lg_sl ([.ref h0, .ref a0]) ++ List.replicate (2 - (lg_sl ([.ref h0, .ref a0])).length) Slot.unset).toArray = ls at hl ⊢
  have hl : lv_has ls 2 [(0, .ref h0), (1, .ref a0)] := hl
  refine lv_aload_n hx hb (show decode cX6_init 0 = .ok (.aload_n 0, 1) by decide +kernel) rfl (lv_at hl 0 rfl) ?_
  refine W.objInit hx hb hown (hts _ (aT_of 127 (by decide +kernel) (by decide +kernel))) (hts _ (aT_of 69 (by decide +kernel) (by decide +kernel))) (hts _ (aT_of 70 (by decide +kernel) (by decide +kernel))) rfl (by rw [hml]; exact hl.1) rfl (show decode cX6_init 1 = .ok (.invokespecial 3, 3) by decide +kernel) (Nat.le_of_ble_eq_true rfl) (Nat.le_of_ble_eq_true rfl) ?_
  refine W.eq (g2 := F0 m 4 ls []) rfl ?_
  refine lv_aload_n hx hb (show decode cX6_init 4 = .ok (.aload_n 0, 1) by decide +kernel) rfl (lv_at hl 0 rfl) ?_
  refine lv_sipush (v := 4096) hx hb (show decode cX6_init 5 = .ok (.sipush 4096, 3) by decide +kernel) (by decide) ?_
  refine va_newa (ty := .int) (N' := 4096) (a0 := (4096, .inl (fun _ => 0))) hx hb (hts _ (aT_of 121 (by decide +kernel) (by decide +kernel))) rfl hK hP hD hS hA (fun _ => rfl) (by decide) (by decide) (by decide) (Nat.le_of_ble_eq_true rfl) (Nat.le_of_ble_eq_true rfl) (show decode cX6_init 8 = .ok (.newarray .int, 2) by decide +kernel) (fun q1 cA H hK2 hP hD hS => ?_)
  obtain rfl : cA = dA 0 := k_one (k := 0) (by decide) hK2
  have hP : va_P D vwCl [(h0, .inr (6, [.null, .null, .null, .null, .int 0, .int 0, .int 0])), (q1, .inl (dA 0, 4096, .inl (fun _ => 0)))] H := hP
  have hD : va_D A [(h0, .inr (6, [.null, .null, .null, .null, .int 0, .int 0, .int 0])), (q1, .inl (dA 0, 4096, .inl (fun _ => 0)))] := hD
  refine W.widen (k := 1) (n := 4096) (by omega) (by omega) ?_
  refine va_putF (D := D) (ci := 6) (v := .ref q1) (ty := .array .int) (C := RX6) (T := TX6) (N := 7) hx hb hts (woC.2.2.1 6 _ rfl).1 tyX6 tyX6_ok nmX6 hown hK hP hD hS 0 rfl rfl 1 (by decide) (hts _ (lkX6.1 9 6 1 false _ rfl rfl).1) (fun _ h9 => h9) rfl hin rfl (by decide +kernel) rfl rfl (Nat.le_of_ble_eq_true rfl) (show decode cX6_init 10 = .ok (.putfield 9, 3) by decide +kernel) (fun H locs hP hD hS => ?_)
  have hP : va_P D vwCl [(h0, .inr (6, [.null, .ref q1, .null, .null, .int 0, .int 0, .int 0])), (q1, .inl (dA 0, 4096, .inl (fun _ => 0)))] H := hP
  have hD : va_D A [(h0, .inr (6, [.null, .ref q1, .null, .null, .int 0, .int 0, .int 0])), (q1, .inl (dA 0, 4096, .inl (fun _ => 0)))] := hD
  refine lv_aload_n hx hb (show decode cX6_init 13 = .ok (.aload_n 0, 1) by decide +kernel) rfl (lv_at hl 0 rfl) ?_
  refine lv_sipush (v := 4096) hx hb (show decode cX6_init 14 = .ok (.sipush 4096, 3) by decide +kernel) (by decide) ?_
  refine va_newa (ty := .int) (N' := 4096) (a0 := (4096, .inl (fun _ => 0))) hx hb (hts _ (aT_of 121 (by decide +kernel) (by decide +kernel))) rfl hK hP hD hS hA (fun _ => rfl) (by decide) (by decide) (by decide) (Nat.le_of_ble_eq_true rfl) (Nat.le_of_ble_eq_true rfl) (show decode cX6_init 17 = .ok (.newarray .int, 2) by decide +kernel) (fun q2 cA H hK2 hP hD hS => ?_)
  obtain rfl : cA = dA 0 := k_one (k := 0) (by decide) hK2
  have hP : va_P D vwCl [(h0, .inr (6, [.null, .ref q1, .null, .null, .int 0, .int 0, .int 0])), (q1, .inl (dA 0, 4096, .inl (fun _ => 0))), (q2, .inl (dA 0, 4096, .inl (fun _ => 0)))] H := hP
  have hD : va_D A [(h0, .inr (6, [.null, .ref q1, .null, .null, .int 0, .int 0, .int 0])), (q1, .inl (dA 0, 4096, .inl (fun _ => 0))), (q2, .inl (dA 0, 4096, .inl (fun _ => 0)))] := hD
  refine W.widen (k := 2) (n := 8192) (by omega) (by omega) ?_
  refine va_putF (D := D) (ci := 6) (v := .ref q2) (ty := .array .int) (C := RX6) (T := TX6) (N := 7) hx hb hts (woC.2.2.1 6 _ rfl).1 tyX6 tyX6_ok nmX6 hown hK hP hD hS 0 rfl rfl 2 (by decide) (hts _ (lkX6.1 15 6 2 false _ rfl rfl).1) (fun _ h9 => h9) rfl hin rfl (by decide +kernel) rfl rfl (Nat.le_of_ble_eq_true rfl) (show decode cX6_init 19 = .ok (.putfield 15, 3) by decide +kernel) (fun H locs hP hD hS => ?_)
  have hP : va_P D vwCl [(h0, .inr (6, [.null, .ref q1, .ref q2, .null, .int 0, .int 0, .int 0])), (q1, .inl (dA 0, 4096, .inl (fun _ => 0))), (q2, .inl (dA 0, 4096, .inl (fun _ => 0)))] H := hP
  have hD : va_D A [(h0, .inr (6, [.null, .ref q1, .ref q2, .null, .int 0, .int 0, .int 0])), (q1, .inl (dA 0, 4096, .inl (fun _ => 0))), (q2, .inl (dA 0, 4096, .inl (fun _ => 0)))] := hD
  refine lv_aload_n hx hb (show decode cX6_init 22 = .ok (.aload_n 0, 1) by decide +kernel) rfl (lv_at hl 0 rfl) ?_
  refine lv_sipush (v := 4096) hx hb (show decode cX6_init 23 = .ok (.sipush 4096, 3) by decide +kernel) (by decide) ?_
  refine va_newa (ty := .int) (N' := 4096) (a0 := (4096, .inl (fun _ => 0))) hx hb (hts _ (aT_of 121 (by decide +kernel) (by decide +kernel))) rfl hK hP hD hS hA (fun _ => rfl) (by decide) (by decide) (by decide) (Nat.le_of_ble_eq_true rfl) (Nat.le_of_ble_eq_true rfl) (show decode cX6_init 26 = .ok (.newarray .int, 2) by decide +kernel) (fun q3 cA H hK2 hP hD hS => ?_)
  obtain rfl : cA = dA 0 := k_one (k := 0) (by decide) hK2
  have hP : va_P D vwCl [(h0, .inr (6, [.null, .ref q1, .ref q2, .null, .int 0, .int 0, .int 0])), (q1, .inl (dA 0, 4096, .inl (fun _ => 0))), (q2, .inl (dA 0, 4096, .inl (fun _ => 0))), (q3, .inl (dA 0, 4096, .inl (fun _ => 0)))] H := hP
  have hD : va_D A [(h0, .inr (6, [.null, .ref q1, .ref q2, .null, .int 0, .int 0, .int 0])), (q1, .inl (dA 0, 4096, .inl (fun _ => 0))), (q2, .inl (dA 0, 4096, .inl (fun _ => 0))), (q3, .inl (dA 0, 4096, .inl (fun _ => 0)))] := hD
  refine W.widen (k := 3) (n := 12288) (by omega) (by omega) ?_
  refine va_putF (D := D) (ci := 6) (v := .ref q3) (ty := .array .int) (C := RX6) (T := TX6) (N := 7) hx hb hts (woC.2.2.1 6 _ rfl).1 tyX6 tyX6_ok nmX6 hown hK hP hD hS 0 rfl rfl 3 (by decide) (hts _ (lkX6.1 18 6 3 false _ rfl rfl).1) (fun _ h9 => h9) rfl hin rfl (by decide +kernel) rfl rfl (Nat.le_of_ble_eq_true rfl) (show decode cX6_init 28 = .ok (.putfield 18, 3) by decide +kernel) (fun H locs hP hD hS => ?_)
  have hP : va_P D vwCl [(h0, .inr (6, [.null, .ref q1, .ref q2, .ref q3, .int 0, .int 0, .int 0])), (q1, .inl (dA 0, 4096, .inl (fun _ => 0))), (q2, .inl (dA 0, 4096, .inl (fun _ => 0))), (q3, .inl (dA 0, 4096, .inl (fun _ => 0)))] H := hP
  have hD : va_D A [(h0, .inr (6, [.null, .ref q1, .ref q2, .ref q3, .int 0, .int 0, .int 0])), (q1, .inl (dA 0, 4096, .inl (fun _ => 0))), (q2, .inl (dA 0, 4096, .inl (fun _ => 0))), (q3, .inl (dA 0, 4096, .inl (fun _ => 0)))] := hD
  refine lv_aload_n hx hb (show decode cX6_init 31 = .ok (.aload_n 0, 1) by decide +kernel) rfl (lv_at hl 0 rfl) ?_
  refine lv_aload_n hx hb (show decode cX6_init 32 = .ok (.aload_n 1, 1) by decide +kernel) rfl (lv_at hl 1 rfl) ?_
  refine va_putF (D := D) (ci := 6) (v := .ref a0) (ty := .object "LessonWays$Items") (C := RX6) (T := TX6) (N := 7) hx hb hts (woC.2.2.1 6 _ rfl).1 tyX6 tyX6_ok nmX6 hown hK hP hD hS 0 rfl rfl 0 (by decide) (hts _ (lkX6.1 21 6 0 false _ rfl rfl).1) (fun _ h9 => h9) rfl hin rfl (by decide +kernel) rfl rfl (Nat.le_of_ble_eq_true rfl) (show decode cX6_init 33 = .ok (.putfield 21, 3) by decide +kernel) (fun H locs hP hD hS => ?_)
  have hP : va_P D vwCl [(h0, .inr (6, [.ref a0, .ref q1, .ref q2, .ref q3, .int 0, .int 0, .int 0])), (q1, .inl (dA 0, 4096, .inl (fun _ => 0))), (q2, .inl (dA 0, 4096, .inl (fun _ => 0))), (q3, .inl (dA 0, 4096, .inl (fun _ => 0)))] H := hP
  have hD : va_D A [(h0, .inr (6, [.ref a0, .ref q1, .ref q2, .ref q3, .int 0, .int 0, .int 0])), (q1, .inl (dA 0, 4096, .inl (fun _ => 0))), (q2, .inl (dA 0, 4096, .inl (fun _ => 0))), (q3, .inl (dA 0, 4096, .inl (fun _ => 0)))] := hD
  exact W.vret hx hb hr (fun t ht hW => ⟨⟨(), rfl, trivial, q1, q2, q3, by rw [ht]; exact hP, hD⟩, hS.F ht⟩) hS.2.2 (show decode cX6_init 36 = .ok (.return_, 1) by decide +kernel)
set_option maxHeartbeats 4000000 in
set_option maxRecDepth 100000 in
theorem i_X2 (l : Launch) (D : va_G) (dA : Nat → ClassId) (h0 : Nat) (sz : Nat) : Met l yX2_init (Cond.code yX2_init cX2_init 1 none :: aT) { frames := 2, cells := 19, slots := 132, locals := 100 } (va_Pc [.ref h0] (fun U => U.heap.size = sz ∧ va_P D vwCl [(h0, .inr (2, [.null, .null, .null, .null, .null, .null, .null, .int 0]))] U.heap ∧ aK tkZ D vwCl dA U ∧ va_D (fun _ => True) [(h0, .inr (2, [.null, .null, .null, .null, .null, .null, .null, .int 0]))] ∧ va_AOA .int U)) (va_Qv (fun _ : Unit => True) (fun _ t => ∃ (r : Nat → Nat) (q1 q2 q3 q4 q5 q6 q7 : Nat), va_P D vwCl [(h0, .inr (2, [.ref q1, .ref q2, .ref q3, .ref q4, .ref q5, .ref q6, .ref q7, .int 0])), (q1, .inl (dA 0, 12, .inl (fun _ => 0))), (q2, .inl (dA 0, 12, .inl (fun _ => 0))), (q3, .inl (dA 0, 12, .inl (fun _ => 0))), (q4, .inl (dA 0, 12, .inl (fun _ => 0))), (q5, .inl (dA 0, 12, .inl (fun _ => 0))), (q6, .inl (dA 3, 12, .inr (.inr (.inr (.inr (fun i => if i < 12 then some (r i) else none)))))), (r 0, .inl (dA 0, 4, .inl (fun _ => 0))), (r 1, .inl (dA 0, 4, .inl (fun _ => 0))), (r 2, .inl (dA 0, 4, .inl (fun _ => 0))), (r 3, .inl (dA 0, 4, .inl (fun _ => 0))), (r 4, .inl (dA 0, 4, .inl (fun _ => 0))), (r 5, .inl (dA 0, 4, .inl (fun _ => 0))), (r 6, .inl (dA 0, 4, .inl (fun _ => 0))), (r 7, .inl (dA 0, 4, .inl (fun _ => 0))), (r 8, .inl (dA 0, 4, .inl (fun _ => 0))), (r 9, .inl (dA 0, 4, .inl (fun _ => 0))), (r 10, .inl (dA 0, 4, .inl (fun _ => 0))), (r 11, .inl (dA 0, 4, .inl (fun _ => 0))), (q7, .inl (dA 0, 12, .inl (fun _ => 0)))] t.heap ∧ va_D (va_A [(h0, .inr (2, [.null, .null, .null, .null, .null, .null, .null, .int 0]))] sz) [(h0, .inr (2, [.ref q1, .ref q2, .ref q3, .ref q4, .ref q5, .ref q6, .ref q7, .int 0])), (q1, .inl (dA 0, 12, .inl (fun _ => 0))), (q2, .inl (dA 0, 12, .inl (fun _ => 0))), (q3, .inl (dA 0, 12, .inl (fun _ => 0))), (q4, .inl (dA 0, 12, .inl (fun _ => 0))), (q5, .inl (dA 0, 12, .inl (fun _ => 0))), (q6, .inl (dA 3, 12, .inr (.inr (.inr (.inr (fun i => if i < 12 then some (r i) else none)))))), (r 0, .inl (dA 0, 4, .inl (fun _ => 0))), (r 1, .inl (dA 0, 4, .inl (fun _ => 0))), (r 2, .inl (dA 0, 4, .inl (fun _ => 0))), (r 3, .inl (dA 0, 4, .inl (fun _ => 0))), (r 4, .inl (dA 0, 4, .inl (fun _ => 0))), (r 5, .inl (dA 0, 4, .inl (fun _ => 0))), (r 6, .inl (dA 0, 4, .inl (fun _ => 0))), (r 7, .inl (dA 0, 4, .inl (fun _ => 0))), (r 8, .inl (dA 0, 4, .inl (fun _ => 0))), (r 9, .inl (dA 0, 4, .inl (fun _ => 0))), (r 10, .inl (dA 0, 4, .inl (fun _ => 0))), (r 11, .inl (dA 0, 4, .inl (fun _ => 0))), (q7, .inl (dA 0, 12, .inl (fun _ => 0)))]) (va_A [(h0, .inr (2, [.null, .null, .null, .null, .null, .null, .null, .int 0]))] sz)) 19 132 (va_A [(h0, .inr (2, [.null, .null, .null, .null, .null, .null, .null, .int 0]))] sz) := by
  refine Met.ofW (cc := cX2_init) (maxL := 1) (ret := none) (by decide) rfl ?_
  intro p e s m args below meth c s₁ B hml hv
  obtain ⟨rfl, hsz, hP, hK, hD0, hover⟩ := hv
  have hx := B.exec
  have hb := B.bytes
  have hr := B.returns
  have hts0 := atoms_spec (ws := (Cond.code yX2_init cX2_init 1 none :: aT)) B.pre
  have hts : ∀ w ∈ aT, _ := fun w hw => hts0 w (List.mem_cons_of_mem _ hw)
  have hown : s.vm.findClass RX2 = some m.cls := findClass_of_methodNamed B.named
  have hlocks := B.notSynchronized
  have hin : meth.name = "<init>" := (name_of_methodNamed B.named B.method).1
  subst hsz
  have hD := hD0.self (sz := s.heap.size)
  generalize hAe : va_A [(h0, .inr (2, [.null, .null, .null, .null, .null, .null, .null, .int 0]))] s.heap.size = A at hD ⊢
  have hA : ∀ q : Nat, s.heap.size ≤ q → A q := fun q h => by rw [← hAe]; exact Or.inr h
  have hS : va_S A s.heap s.heap [] := va_S.rf
  have hP : va_P D vwCl [(h0, .inr (2, [.null, .null, .null, .null, .null, .null, .null, .int 0]))] s.heap := hP
  have hl := lv_entry ([.ref h0]) (n := 1) (Nat.le_of_ble_eq_true rfl)
  rw [lg_entry_eq]
  generalize (lg_sl ([.ref h0]) ++ List.replicate (1 - (lg_sl ([.ref h0])).length) Slot.unset).toArray = ls at hl ⊢
  have hl : lv_has ls 1 [(0, .ref h0)] := hl
  refine lv_aload_n hx hb (show decode cX2_init 0 = .ok (.aload_n 0, 1) by decide +kernel) rfl (lv_at hl 0 rfl) ?_
  refine W.objInit hx hb hown (hts _ (aT_of 76 (by decide +kernel) (by decide +kernel))) (hts _ (aT_of 69 (by decide +kernel) (by decide +kernel))) (hts _ (aT_of 70 (by decide +kernel) (by decide +kernel))) rfl (by rw [hml]; exact hl.1) rfl (show decode cX2_init 1 = .ok (.invokespecial 3, 3) by decide +kernel) (Nat.le_of_ble_eq_true rfl) (Nat.le_of_ble_eq_true rfl) ?_
  refine W.eq (g2 := F0 m 4 ls []) rfl ?_
  refine lv_aload_n hx hb (show decode cX2_init 4 = .ok (.aload_n 0, 1) by decide +kernel) rfl (lv_at hl 0 rfl) ?_
  refine lv_bipush (v := 12) hx hb (show decode cX2_init 5 = .ok (.bipush 12, 2) by decide +kernel) (by decide) ?_
  refine va_newa (ty := .int) (N' := 12) (a0 := (12, .inl (fun _ => 0))) hx hb (hts _ (aT_of 121 (by decide +kernel) (by decide +kernel))) rfl hK hP hD hS hA (fun _ => rfl) (by decide) (by decide) (by decide) (Nat.le_of_ble_eq_true rfl) (Nat.le_of_ble_eq_true rfl) (show decode cX2_init 7 = .ok (.newarray .int, 2) by decide +kernel) (fun q1 cA H hK2 hP hD hS => ?_)
  obtain rfl : cA = dA 0 := k_one (k := 0) (by decide) hK2
  have hP : va_P D vwCl [(h0, .inr (2, [.null, .null, .null, .null, .null, .null, .null, .int 0])), (q1, .inl (dA 0, 12, .inl (fun _ => 0)))] H := hP
  have hD : va_D A [(h0, .inr (2, [.null, .null, .null, .null, .null, .null, .null, .int 0])), (q1, .inl (dA 0, 12, .inl (fun _ => 0)))] := hD
  refine W.widen (k := 1) (n := 12) (by omega) (by omega) ?_
  refine va_putF (D := D) (ci := 2) (v := .ref q1) (ty := .array .int) (C := RX2) (T := TX2) (N := 8) hx hb hts (woC.2.2.1 2 _ rfl).1 tyX2 tyX2_ok nmX2 hown hK hP hD hS 0 rfl rfl 0 (by decide) (hts _ (lkX2.1 9 2 0 false _ rfl rfl).1) (fun _ h9 => h9) rfl hin rfl (by decide +kernel) rfl rfl (Nat.le_of_ble_eq_true rfl) (show decode cX2_init 9 = .ok (.putfield 9, 3) by decide +kernel) (fun H locs hP hD hS => ?_)
  have hP : va_P D vwCl [(h0, .inr (2, [.ref q1, .null, .null, .null, .null, .null, .null, .int 0])), (q1, .inl (dA 0, 12, .inl (fun _ => 0)))] H := hP
  have hD : va_D A [(h0, .inr (2, [.ref q1, .null, .null, .null, .null, .null, .null, .int 0])), (q1, .inl (dA 0, 12, .inl (fun _ => 0)))] := hD
  refine lv_aload_n hx hb (show decode cX2_init 12 = .ok (.aload_n 0, 1) by decide +kernel) rfl (lv_at hl 0 rfl) ?_
  refine lv_bipush (v := 12) hx hb (show decode cX2_init 13 = .ok (.bipush 12, 2) by decide +kernel) (by decide) ?_
  refine va_newa (ty := .int) (N' := 12) (a0 := (12, .inl (fun _ => 0))) hx hb (hts _ (aT_of 121 (by decide +kernel) (by decide +kernel))) rfl hK hP hD hS hA (fun _ => rfl) (by decide) (by decide) (by decide) (Nat.le_of_ble_eq_true rfl) (Nat.le_of_ble_eq_true rfl) (show decode cX2_init 15 = .ok (.newarray .int, 2) by decide +kernel) (fun q2 cA H hK2 hP hD hS => ?_)
  obtain rfl : cA = dA 0 := k_one (k := 0) (by decide) hK2
  have hP : va_P D vwCl [(h0, .inr (2, [.ref q1, .null, .null, .null, .null, .null, .null, .int 0])), (q1, .inl (dA 0, 12, .inl (fun _ => 0))), (q2, .inl (dA 0, 12, .inl (fun _ => 0)))] H := hP
  have hD : va_D A [(h0, .inr (2, [.ref q1, .null, .null, .null, .null, .null, .null, .int 0])), (q1, .inl (dA 0, 12, .inl (fun _ => 0))), (q2, .inl (dA 0, 12, .inl (fun _ => 0)))] := hD
  refine W.widen (k := 2) (n := 24) (by omega) (by omega) ?_
  refine va_putF (D := D) (ci := 2) (v := .ref q2) (ty := .array .int) (C := RX2) (T := TX2) (N := 8) hx hb hts (woC.2.2.1 2 _ rfl).1 tyX2 tyX2_ok nmX2 hown hK hP hD hS 0 rfl rfl 1 (by decide) (hts _ (lkX2.1 15 2 1 false _ rfl rfl).1) (fun _ h9 => h9) rfl hin rfl (by decide +kernel) rfl rfl (Nat.le_of_ble_eq_true rfl) (show decode cX2_init 17 = .ok (.putfield 15, 3) by decide +kernel) (fun H locs hP hD hS => ?_)
  have hP : va_P D vwCl [(h0, .inr (2, [.ref q1, .ref q2, .null, .null, .null, .null, .null, .int 0])), (q1, .inl (dA 0, 12, .inl (fun _ => 0))), (q2, .inl (dA 0, 12, .inl (fun _ => 0)))] H := hP
  have hD : va_D A [(h0, .inr (2, [.ref q1, .ref q2, .null, .null, .null, .null, .null, .int 0])), (q1, .inl (dA 0, 12, .inl (fun _ => 0))), (q2, .inl (dA 0, 12, .inl (fun _ => 0)))] := hD
  refine lv_aload_n hx hb (show decode cX2_init 20 = .ok (.aload_n 0, 1) by decide +kernel) rfl (lv_at hl 0 rfl) ?_
  refine lv_bipush (v := 12) hx hb (show decode cX2_init 21 = .ok (.bipush 12, 2) by decide +kernel) (by decide) ?_
  refine va_newa (ty := .int) (N' := 12) (a0 := (12, .inl (fun _ => 0))) hx hb (hts _ (aT_of 121 (by decide +kernel) (by decide +kernel))) rfl hK hP hD hS hA (fun _ => rfl) (by decide) (by decide) (by decide) (Nat.le_of_ble_eq_true rfl) (Nat.le_of_ble_eq_true rfl) (show decode cX2_init 23 = .ok (.newarray .int, 2) by decide +kernel) (fun q3 cA H hK2 hP hD hS => ?_)
  obtain rfl : cA = dA 0 := k_one (k := 0) (by decide) hK2
  have hP : va_P D vwCl [(h0, .inr (2, [.ref q1, .ref q2, .null, .null, .null, .null, .null, .int 0])), (q1, .inl (dA 0, 12, .inl (fun _ => 0))), (q2, .inl (dA 0, 12, .inl (fun _ => 0))), (q3, .inl (dA 0, 12, .inl (fun _ => 0)))] H := hP
  have hD : va_D A [(h0, .inr (2, [.ref q1, .ref q2, .null, .null, .null, .null, .null, .int 0])), (q1, .inl (dA 0, 12, .inl (fun _ => 0))), (q2, .inl (dA 0, 12, .inl (fun _ => 0))), (q3, .inl (dA 0, 12, .inl (fun _ => 0)))] := hD
  refine W.widen (k := 3) (n := 36) (by omega) (by omega) ?_
  refine va_putF (D := D) (ci := 2) (v := .ref q3) (ty := .array .int) (C := RX2) (T := TX2) (N := 8) hx hb hts (woC.2.2.1 2 _ rfl).1 tyX2 tyX2_ok nmX2 hown hK hP hD hS 0 rfl rfl 2 (by decide) (hts _ (lkX2.1 18 2 2 false _ rfl rfl).1) (fun _ h9 => h9) rfl hin rfl (by decide +kernel) rfl rfl (Nat.le_of_ble_eq_true rfl) (show decode cX2_init 25 = .ok (.putfield 18, 3) by decide +kernel) (fun H locs hP hD hS => ?_)
  have hP : va_P D vwCl [(h0, .inr (2, [.ref q1, .ref q2, .ref q3, .null, .null, .null, .null, .int 0])), (q1, .inl (dA 0, 12, .inl (fun _ => 0))), (q2, .inl (dA 0, 12, .inl (fun _ => 0))), (q3, .inl (dA 0, 12, .inl (fun _ => 0)))] H := hP
  have hD : va_D A [(h0, .inr (2, [.ref q1, .ref q2, .ref q3, .null, .null, .null, .null, .int 0])), (q1, .inl (dA 0, 12, .inl (fun _ => 0))), (q2, .inl (dA 0, 12, .inl (fun _ => 0))), (q3, .inl (dA 0, 12, .inl (fun _ => 0)))] := hD
  refine lv_aload_n hx hb (show decode cX2_init 28 = .ok (.aload_n 0, 1) by decide +kernel) rfl (lv_at hl 0 rfl) ?_
  refine lv_bipush (v := 12) hx hb (show decode cX2_init 29 = .ok (.bipush 12, 2) by decide +kernel) (by decide) ?_
  refine va_newa (ty := .int) (N' := 12) (a0 := (12, .inl (fun _ => 0))) hx hb (hts _ (aT_of 121 (by decide +kernel) (by decide +kernel))) rfl hK hP hD hS hA (fun _ => rfl) (by decide) (by decide) (by decide) (Nat.le_of_ble_eq_true rfl) (Nat.le_of_ble_eq_true rfl) (show decode cX2_init 31 = .ok (.newarray .int, 2) by decide +kernel) (fun q4 cA H hK2 hP hD hS => ?_)
  obtain rfl : cA = dA 0 := k_one (k := 0) (by decide) hK2
  have hP : va_P D vwCl [(h0, .inr (2, [.ref q1, .ref q2, .ref q3, .null, .null, .null, .null, .int 0])), (q1, .inl (dA 0, 12, .inl (fun _ => 0))), (q2, .inl (dA 0, 12, .inl (fun _ => 0))), (q3, .inl (dA 0, 12, .inl (fun _ => 0))), (q4, .inl (dA 0, 12, .inl (fun _ => 0)))] H := hP
  have hD : va_D A [(h0, .inr (2, [.ref q1, .ref q2, .ref q3, .null, .null, .null, .null, .int 0])), (q1, .inl (dA 0, 12, .inl (fun _ => 0))), (q2, .inl (dA 0, 12, .inl (fun _ => 0))), (q3, .inl (dA 0, 12, .inl (fun _ => 0))), (q4, .inl (dA 0, 12, .inl (fun _ => 0)))] := hD
  refine W.widen (k := 4) (n := 48) (by omega) (by omega) ?_
  refine va_putF (D := D) (ci := 2) (v := .ref q4) (ty := .array .int) (C := RX2) (T := TX2) (N := 8) hx hb hts (woC.2.2.1 2 _ rfl).1 tyX2 tyX2_ok nmX2 hown hK hP hD hS 0 rfl rfl 3 (by decide) (hts _ (lkX2.1 21 2 3 false _ rfl rfl).1) (fun _ h9 => h9) rfl hin rfl (by decide +kernel) rfl rfl (Nat.le_of_ble_eq_true rfl) (show decode cX2_init 33 = .ok (.putfield 21, 3) by decide +kernel) (fun H locs hP hD hS => ?_)
  have hP : va_P D vwCl [(h0, .inr (2, [.ref q1, .ref q2, .ref q3, .ref q4, .null, .null, .null, .int 0])), (q1, .inl (dA 0, 12, .inl (fun _ => 0))), (q2, .inl (dA 0, 12, .inl (fun _ => 0))), (q3, .inl (dA 0, 12, .inl (fun _ => 0))), (q4, .inl (dA 0, 12, .inl (fun _ => 0)))] H := hP
  have hD : va_D A [(h0, .inr (2, [.ref q1, .ref q2, .ref q3, .ref q4, .null, .null, .null, .int 0])), (q1, .inl (dA 0, 12, .inl (fun _ => 0))), (q2, .inl (dA 0, 12, .inl (fun _ => 0))), (q3, .inl (dA 0, 12, .inl (fun _ => 0))), (q4, .inl (dA 0, 12, .inl (fun _ => 0)))] := hD
  refine lv_aload_n hx hb (show decode cX2_init 36 = .ok (.aload_n 0, 1) by decide +kernel) rfl (lv_at hl 0 rfl) ?_
  refine lv_bipush (v := 12) hx hb (show decode cX2_init 37 = .ok (.bipush 12, 2) by decide +kernel) (by decide) ?_
  refine va_newa (ty := .int) (N' := 12) (a0 := (12, .inl (fun _ => 0))) hx hb (hts _ (aT_of 121 (by decide +kernel) (by decide +kernel))) rfl hK hP hD hS hA (fun _ => rfl) (by decide) (by decide) (by decide) (Nat.le_of_ble_eq_true rfl) (Nat.le_of_ble_eq_true rfl) (show decode cX2_init 39 = .ok (.newarray .int, 2) by decide +kernel) (fun q5 cA H hK2 hP hD hS => ?_)
  obtain rfl : cA = dA 0 := k_one (k := 0) (by decide) hK2
  have hP : va_P D vwCl [(h0, .inr (2, [.ref q1, .ref q2, .ref q3, .ref q4, .null, .null, .null, .int 0])), (q1, .inl (dA 0, 12, .inl (fun _ => 0))), (q2, .inl (dA 0, 12, .inl (fun _ => 0))), (q3, .inl (dA 0, 12, .inl (fun _ => 0))), (q4, .inl (dA 0, 12, .inl (fun _ => 0))), (q5, .inl (dA 0, 12, .inl (fun _ => 0)))] H := hP
  have hD : va_D A [(h0, .inr (2, [.ref q1, .ref q2, .ref q3, .ref q4, .null, .null, .null, .int 0])), (q1, .inl (dA 0, 12, .inl (fun _ => 0))), (q2, .inl (dA 0, 12, .inl (fun _ => 0))), (q3, .inl (dA 0, 12, .inl (fun _ => 0))), (q4, .inl (dA 0, 12, .inl (fun _ => 0))), (q5, .inl (dA 0, 12, .inl (fun _ => 0)))] := hD
  refine W.widen (k := 5) (n := 60) (by omega) (by omega) ?_
  refine va_putF (D := D) (ci := 2) (v := .ref q5) (ty := .array .int) (C := RX2) (T := TX2) (N := 8) hx hb hts (woC.2.2.1 2 _ rfl).1 tyX2 tyX2_ok nmX2 hown hK hP hD hS 0 rfl rfl 4 (by decide) (hts _ (lkX2.1 24 2 4 false _ rfl rfl).1) (fun _ h9 => h9) rfl hin rfl (by decide +kernel) rfl rfl (Nat.le_of_ble_eq_true rfl) (show decode cX2_init 41 = .ok (.putfield 24, 3) by decide +kernel) (fun H locs hP hD hS => ?_)
  have hP : va_P D vwCl [(h0, .inr (2, [.ref q1, .ref q2, .ref q3, .ref q4, .ref q5, .null, .null, .int 0])), (q1, .inl (dA 0, 12, .inl (fun _ => 0))), (q2, .inl (dA 0, 12, .inl (fun _ => 0))), (q3, .inl (dA 0, 12, .inl (fun _ => 0))), (q4, .inl (dA 0, 12, .inl (fun _ => 0))), (q5, .inl (dA 0, 12, .inl (fun _ => 0)))] H := hP
  have hD : va_D A [(h0, .inr (2, [.ref q1, .ref q2, .ref q3, .ref q4, .ref q5, .null, .null, .int 0])), (q1, .inl (dA 0, 12, .inl (fun _ => 0))), (q2, .inl (dA 0, 12, .inl (fun _ => 0))), (q3, .inl (dA 0, 12, .inl (fun _ => 0))), (q4, .inl (dA 0, 12, .inl (fun _ => 0))), (q5, .inl (dA 0, 12, .inl (fun _ => 0)))] := hD
  refine lv_aload_n hx hb (show decode cX2_init 44 = .ok (.aload_n 0, 1) by decide +kernel) rfl (lv_at hl 0 rfl) ?_
  refine lv_bipush (v := 12) hx hb (show decode cX2_init 45 = .ok (.bipush 12, 2) by decide +kernel) (by decide) ?_
  refine lv_iconst (v := 4) hx hb (show decode cX2_init 47 = .ok (.iconst 4, 1) by decide +kernel) (by decide) ?_
  have hP : va_P D vwCl ([(h0, .inr (2, [.ref q1, .ref q2, .ref q3, .ref q4, .ref q5, .null, .null, .int 0])), (q1, .inl (dA 0, 12, .inl (fun _ => 0))), (q2, .inl (dA 0, 12, .inl (fun _ => 0))), (q3, .inl (dA 0, 12, .inl (fun _ => 0))), (q4, .inl (dA 0, 12, .inl (fun _ => 0))), (q5, .inl (dA 0, 12, .inl (fun _ => 0)))] ++ va_pl [] (fun _ => .inr (0, []))) H := hP
  have hD : va_D A ([(h0, .inr (2, [.ref q1, .ref q2, .ref q3, .ref q4, .ref q5, .null, .null, .int 0])), (q1, .inl (dA 0, 12, .inl (fun _ => 0))), (q2, .inl (dA 0, 12, .inl (fun _ => 0))), (q3, .inl (dA 0, 12, .inl (fun _ => 0))), (q4, .inl (dA 0, 12, .inl (fun _ => 0))), (q5, .inl (dA 0, 12, .inl (fun _ => 0)))] ++ va_pl [] (fun _ => .inr (0, []))) := hD
  refine va_mna (ty := .int) (N' := 12) (K' := 4) (z := (4, .inl (fun _ => 0))) hx hb hown (hts _ (aT_of 77 (by decide +kernel) (by decide +kernel))) hover (hts _ (aT_of 121 (by decide +kernel) (by decide +kernel))) (hK.2 0 (dA 0, .int) rfl).2 hK hP hD hS hA (by decide) (by decide) (by decide) (by decide) (by decide) (by decide) (by decide) (by decide) (by decide) (Nat.le_of_ble_eq_true rfl) (Nat.le_of_ble_eq_true rfl) (hz_in 4) (show decode cX2_init 48 = .ok (.multianewarray 27 2, 4) by decide +kernel) (fun q6 r cA H hri _ hK2 hP hD hS => ?_)
  obtain rfl : cA = dA 3 := k_one (k := 3) (by decide) hK2
  rw [pl_rows] at hP hD
  have hP : va_P D vwCl [(h0, .inr (2, [.ref q1, .ref q2, .ref q3, .ref q4, .ref q5, .null, .null, .int 0])), (q1, .inl (dA 0, 12, .inl (fun _ => 0))), (q2, .inl (dA 0, 12, .inl (fun _ => 0))), (q3, .inl (dA 0, 12, .inl (fun _ => 0))), (q4, .inl (dA 0, 12, .inl (fun _ => 0))), (q5, .inl (dA 0, 12, .inl (fun _ => 0))), (q6, .inl (dA 3, 12, .inr (.inr (.inr (.inr (fun i => if i < 12 then some (r i) else none)))))), (r 0, .inl (dA 0, 4, .inl (fun _ => 0))), (r 1, .inl (dA 0, 4, .inl (fun _ => 0))), (r 2, .inl (dA 0, 4, .inl (fun _ => 0))), (r 3, .inl (dA 0, 4, .inl (fun _ => 0))), (r 4, .inl (dA 0, 4, .inl (fun _ => 0))), (r 5, .inl (dA 0, 4, .inl (fun _ => 0))), (r 6, .inl (dA 0, 4, .inl (fun _ => 0))), (r 7, .inl (dA 0, 4, .inl (fun _ => 0))), (r 8, .inl (dA 0, 4, .inl (fun _ => 0))), (r 9, .inl (dA 0, 4, .inl (fun _ => 0))), (r 10, .inl (dA 0, 4, .inl (fun _ => 0))), (r 11, .inl (dA 0, 4, .inl (fun _ => 0)))] H := hP
  have hD : va_D A [(h0, .inr (2, [.ref q1, .ref q2, .ref q3, .ref q4, .ref q5, .null, .null, .int 0])), (q1, .inl (dA 0, 12, .inl (fun _ => 0))), (q2, .inl (dA 0, 12, .inl (fun _ => 0))), (q3, .inl (dA 0, 12, .inl (fun _ => 0))), (q4, .inl (dA 0, 12, .inl (fun _ => 0))), (q5, .inl (dA 0, 12, .inl (fun _ => 0))), (q6, .inl (dA 3, 12, .inr (.inr (.inr (.inr (fun i => if i < 12 then some (r i) else none)))))), (r 0, .inl (dA 0, 4, .inl (fun _ => 0))), (r 1, .inl (dA 0, 4, .inl (fun _ => 0))), (r 2, .inl (dA 0, 4, .inl (fun _ => 0))), (r 3, .inl (dA 0, 4, .inl (fun _ => 0))), (r 4, .inl (dA 0, 4, .inl (fun _ => 0))), (r 5, .inl (dA 0, 4, .inl (fun _ => 0))), (r 6, .inl (dA 0, 4, .inl (fun _ => 0))), (r 7, .inl (dA 0, 4, .inl (fun _ => 0))), (r 8, .inl (dA 0, 4, .inl (fun _ => 0))), (r 9, .inl (dA 0, 4, .inl (fun _ => 0))), (r 10, .inl (dA 0, 4, .inl (fun _ => 0))), (r 11, .inl (dA 0, 4, .inl (fun _ => 0)))] := hD
  refine W.widen (k := 18) (n := 120) (by omega) (by omega) ?_
  refine va_putF (D := D) (ci := 2) (v := .ref q6) (ty := .array (.array .int)) (C := RX2) (T := TX2) (N := 8) hx hb hts (woC.2.2.1 2 _ rfl).1 tyX2 tyX2_ok nmX2 hown hK hP hD hS 0 rfl rfl 5 (by decide) (hts _ (lkX2.1 29 2 5 false _ rfl rfl).1) (fun _ h9 => h9) rfl hin rfl (by decide +kernel) rfl rfl (Nat.le_of_ble_eq_true rfl) (show decode cX2_init 52 = .ok (.putfield 29, 3) by decide +kernel) (fun H locs hP hD hS => ?_)
  have hP : va_P D vwCl [(h0, .inr (2, [.ref q1, .ref q2, .ref q3, .ref q4, .ref q5, .ref q6, .null, .int 0])), (q1, .inl (dA 0, 12, .inl (fun _ => 0))), (q2, .inl (dA 0, 12, .inl (fun _ => 0))), (q3, .inl (dA 0, 12, .inl (fun _ => 0))), (q4, .inl (dA 0, 12, .inl (fun _ => 0))), (q5, .inl (dA 0, 12, .inl (fun _ => 0))), (q6, .inl (dA 3, 12, .inr (.inr (.inr (.inr (fun i => if i < 12 then some (r i) else none)))))), (r 0, .inl (dA 0, 4, .inl (fun _ => 0))), (r 1, .inl (dA 0, 4, .inl (fun _ => 0))), (r 2, .inl (dA 0, 4, .inl (fun _ => 0))), (r 3, .inl (dA 0, 4, .inl (fun _ => 0))), (r 4, .inl (dA 0, 4, .inl (fun _ => 0))), (r 5, .inl (dA 0, 4, .inl (fun _ => 0))), (r 6, .inl (dA 0, 4, .inl (fun _ => 0))), (r 7, .inl (dA 0, 4, .inl (fun _ => 0))), (r 8, .inl (dA 0, 4, .inl (fun _ => 0))), (r 9, .inl (dA 0, 4, .inl (fun _ => 0))), (r 10, .inl (dA 0, 4, .inl (fun _ => 0))), (r 11, .inl (dA 0, 4, .inl (fun _ => 0)))] H := hP
  have hD : va_D A [(h0, .inr (2, [.ref q1, .ref q2, .ref q3, .ref q4, .ref q5, .ref q6, .null, .int 0])), (q1, .inl (dA 0, 12, .inl (fun _ => 0))), (q2, .inl (dA 0, 12, .inl (fun _ => 0))), (q3, .inl (dA 0, 12, .inl (fun _ => 0))), (q4, .inl (dA 0, 12, .inl (fun _ => 0))), (q5, .inl (dA 0, 12, .inl (fun _ => 0))), (q6, .inl (dA 3, 12, .inr (.inr (.inr (.inr (fun i => if i < 12 then some (r i) else none)))))), (r 0, .inl (dA 0, 4, .inl (fun _ => 0))), (r 1, .inl (dA 0, 4, .inl (fun _ => 0))), (r 2, .inl (dA 0, 4, .inl (fun _ => 0))), (r 3, .inl (dA 0, 4, .inl (fun _ => 0))), (r 4, .inl (dA 0, 4, .inl (fun _ => 0))), (r 5, .inl (dA 0, 4, .inl (fun _ => 0))), (r 6, .inl (dA 0, 4, .inl (fun _ => 0))), (r 7, .inl (dA 0, 4, .inl (fun _ => 0))), (r 8, .inl (dA 0, 4, .inl (fun _ => 0))), (r 9, .inl (dA 0, 4, .inl (fun _ => 0))), (r 10, .inl (dA 0, 4, .inl (fun _ => 0))), (r 11, .inl (dA 0, 4, .inl (fun _ => 0)))] := hD
  refine lv_aload_n hx hb (show decode cX2_init 55 = .ok (.aload_n 0, 1) by decide +kernel) rfl (lv_at hl 0 rfl) ?_
  refine lv_bipush (v := 12) hx hb (show decode cX2_init 56 = .ok (.bipush 12, 2) by decide +kernel) (by decide) ?_
  refine va_newa (ty := .int) (N' := 12) (a0 := (12, .inl (fun _ => 0))) hx hb (hts _ (aT_of 121 (by decide +kernel) (by decide +kernel))) rfl hK hP hD hS hA (fun _ => rfl) (by decide) (by decide) (by decide) (Nat.le_of_ble_eq_true rfl) (Nat.le_of_ble_eq_true rfl) (show decode cX2_init 58 = .ok (.newarray .int, 2) by decide +kernel) (fun q7 cA H hK2 hP hD hS => ?_)
  obtain rfl : cA = dA 0 := k_one (k := 0) (by decide) hK2
  have hP : va_P D vwCl [(h0, .inr (2, [.ref q1, .ref q2, .ref q3, .ref q4, .ref q5, .ref q6, .null, .int 0])), (q1, .inl (dA 0, 12, .inl (fun _ => 0))), (q2, .inl (dA 0, 12, .inl (fun _ => 0))), (q3, .inl (dA 0, 12, .inl (fun _ => 0))), (q4, .inl (dA 0, 12, .inl (fun _ => 0))), (q5, .inl (dA 0, 12, .inl (fun _ => 0))), (q6, .inl (dA 3, 12, .inr (.inr (.inr (.inr (fun i => if i < 12 then some (r i) else none)))))), (r 0, .inl (dA 0, 4, .inl (fun _ => 0))), (r 1, .inl (dA 0, 4, .inl (fun _ => 0))), (r 2, .inl (dA 0, 4, .inl (fun _ => 0))), (r 3, .inl (dA 0, 4, .inl (fun _ => 0))), (r 4, .inl (dA 0, 4, .inl (fun _ => 0))), (r 5, .inl (dA 0, 4, .inl (fun _ => 0))), (r 6, .inl (dA 0, 4, .inl (fun _ => 0))), (r 7, .inl (dA 0, 4, .inl (fun _ => 0))), (r 8, .inl (dA 0, 4, .inl (fun _ => 0))), (r 9, .inl (dA 0, 4, .inl (fun _ => 0))), (r 10, .inl (dA 0, 4, .inl (fun _ => 0))), (r 11, .inl (dA 0, 4, .inl (fun _ => 0))), (q7, .inl (dA 0, 12, .inl (fun _ => 0)))] H := hP
  have hD : va_D A [(h0, .inr (2, [.ref q1, .ref q2, .ref q3, .ref q4, .ref q5, .ref q6, .null, .int 0])), (q1, .inl (dA 0, 12, .inl (fun _ => 0))), (q2, .inl (dA 0, 12, .inl (fun _ => 0))), (q3, .inl (dA 0, 12, .inl (fun _ => 0))), (q4, .inl (dA 0, 12, .inl (fun _ => 0))), (q5, .inl (dA 0, 12, .inl (fun _ => 0))), (q6, .inl (dA 3, 12, .inr (.inr (.inr (.inr (fun i => if i < 12 then some (r i) else none)))))), (r 0, .inl (dA 0, 4, .inl (fun _ => 0))), (r 1, .inl (dA 0, 4, .inl (fun _ => 0))), (r 2, .inl (dA 0, 4, .inl (fun _ => 0))), (r 3, .inl (dA 0, 4, .inl (fun _ => 0))), (r 4, .inl (dA 0, 4, .inl (fun _ => 0))), (r 5, .inl (dA 0, 4, .inl (fun _ => 0))), (r 6, .inl (dA 0, 4, .inl (fun _ => 0))), (r 7, .inl (dA 0, 4, .inl (fun _ => 0))), (r 8, .inl (dA 0, 4, .inl (fun _ => 0))), (r 9, .inl (dA 0, 4, .inl (fun _ => 0))), (r 10, .inl (dA 0, 4, .inl (fun _ => 0))), (r 11, .inl (dA 0, 4, .inl (fun _ => 0))), (q7, .inl (dA 0, 12, .inl (fun _ => 0)))] := hD
  refine W.widen (k := 19) (n := 132) (by omega) (by omega) ?_
  refine va_putF (D := D) (ci := 2) (v := .ref q7) (ty := .array .int) (C := RX2) (T := TX2) (N := 8) hx hb hts (woC.2.2.1 2 _ rfl).1 tyX2 tyX2_ok nmX2 hown hK hP hD hS 0 rfl rfl 6 (by decide) (hts _ (lkX2.1 32 2 6 false _ rfl rfl).1) (fun _ h9 => h9) rfl hin rfl (by decide +kernel) rfl rfl (Nat.le_of_ble_eq_true rfl) (show decode cX2_init 60 = .ok (.putfield 32, 3) by decide +kernel) (fun H locs hP hD hS => ?_)
  have hP : va_P D vwCl [(h0, .inr (2, [.ref q1, .ref q2, .ref q3, .ref q4, .ref q5, .ref q6, .ref q7, .int 0])), (q1, .inl (dA 0, 12, .inl (fun _ => 0))), (q2, .inl (dA 0, 12, .inl (fun _ => 0))), (q3, .inl (dA 0, 12, .inl (fun _ => 0))), (q4, .inl (dA 0, 12, .inl (fun _ => 0))), (q5, .inl (dA 0, 12, .inl (fun _ => 0))), (q6, .inl (dA 3, 12, .inr (.inr (.inr (.inr (fun i => if i < 12 then some (r i) else none)))))), (r 0, .inl (dA 0, 4, .inl (fun _ => 0))), (r 1, .inl (dA 0, 4, .inl (fun _ => 0))), (r 2, .inl (dA 0, 4, .inl (fun _ => 0))), (r 3, .inl (dA 0, 4, .inl (fun _ => 0))), (r 4, .inl (dA 0, 4, .inl (fun _ => 0))), (r 5, .inl (dA 0, 4, .inl (fun _ => 0))), (r 6, .inl (dA 0, 4, .inl (fun _ => 0))), (r 7, .inl (dA 0, 4, .inl (fun _ => 0))), (r 8, .inl (dA 0, 4, .inl (fun _ => 0))), (r 9, .inl (dA 0, 4, .inl (fun _ => 0))), (r 10, .inl (dA 0, 4, .inl (fun _ => 0))), (r 11, .inl (dA 0, 4, .inl (fun _ => 0))), (q7, .inl (dA 0, 12, .inl (fun _ => 0)))] H := hP
  have hD : va_D A [(h0, .inr (2, [.ref q1, .ref q2, .ref q3, .ref q4, .ref q5, .ref q6, .ref q7, .int 0])), (q1, .inl (dA 0, 12, .inl (fun _ => 0))), (q2, .inl (dA 0, 12, .inl (fun _ => 0))), (q3, .inl (dA 0, 12, .inl (fun _ => 0))), (q4, .inl (dA 0, 12, .inl (fun _ => 0))), (q5, .inl (dA 0, 12, .inl (fun _ => 0))), (q6, .inl (dA 3, 12, .inr (.inr (.inr (.inr (fun i => if i < 12 then some (r i) else none)))))), (r 0, .inl (dA 0, 4, .inl (fun _ => 0))), (r 1, .inl (dA 0, 4, .inl (fun _ => 0))), (r 2, .inl (dA 0, 4, .inl (fun _ => 0))), (r 3, .inl (dA 0, 4, .inl (fun _ => 0))), (r 4, .inl (dA 0, 4, .inl (fun _ => 0))), (r 5, .inl (dA 0, 4, .inl (fun _ => 0))), (r 6, .inl (dA 0, 4, .inl (fun _ => 0))), (r 7, .inl (dA 0, 4, .inl (fun _ => 0))), (r 8, .inl (dA 0, 4, .inl (fun _ => 0))), (r 9, .inl (dA 0, 4, .inl (fun _ => 0))), (r 10, .inl (dA 0, 4, .inl (fun _ => 0))), (r 11, .inl (dA 0, 4, .inl (fun _ => 0))), (q7, .inl (dA 0, 12, .inl (fun _ => 0)))] := hD
  exact W.vret hx hb hr (fun t ht hW => ⟨⟨(), rfl, trivial, r, q1, q2, q3, q4, q5, q6, q7, by rw [ht]; exact hP, hD⟩, hS.F ht⟩) hS.2.2 (show decode cX2_init 63 = .ok (.return_, 1) by decide +kernel)
