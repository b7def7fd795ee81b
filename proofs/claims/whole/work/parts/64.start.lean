/-! THE START: tables, objects, the loop -/
theorem arr_of {args : Array Value} {s : State} {k : Nat} (h : (Cond.arrayClass (kty k)).before args s = true) : ∃ c, ArrOfT s c (kty k) ∧ s.vm.findClass ("[" ++ (kty k).toString) = some c := by
  obtain ⟨c, kk, comp, h1, h2, h3⟩ := Cond.arrayClass_spec h
  exact ⟨c, fun n z => ⟨(fun q hq => by cases hq), kk, h2, comp, h3⟩, h1⟩
theorem arr_ov {args : Array Value} {s : State} (h : (Cond.arrayOver (.array .int)).before args s = true) : ∃ c, ArrOfT s c (.array .int) ∧ s.vm.findClass ("[" ++ (FieldType.array .int).toString) = some c := by
  obtain ⟨comp, c, k, h0, h1, h2, h3⟩ := Cond.arrayOver_specA h
  exact ⟨c, fun n z => ⟨(fun q hq => by cases hq), k, h1, comp, h2⟩, h3⟩
theorem aW_last {w : List aE} {ad : Nat → Nat} {dA : Nat → ClassId} {h : aH} {x : Nat × va_E} : (aW w ad dA h ++ [x])[w.length]? = some x := by
  have e : (aW w ad dA h).length = w.length := by unfold aW; rw [List.length_map, List.length_range]
  rw [List.getElem?_append_right (by omega), e, Nat.sub_self]; rfl
theorem aW_pre {w : List aE} {ad : Nat → Nat} {dA : Nat → ClassId} {h : aH} {x y : Nat × va_E} {k : Nat} (hk : (aW w ad dA h)[k]? = some y) : (aW w ad dA h ++ [x])[k]? = some y := by
  rw [List.getElem?_append_left (List.getElem?_eq_some_iff.mp hk).1]; exact hk
theorem aK_of {args : Array Value} {s : State} (hts : ∀ w ∈ aT, w.before args s = true) (hov : (Cond.arrayOver (.array .int)).before args s = true) : ∃ (D : va_G) (dA : Nat → ClassId), aK tkZ D vwCl dA s := by
  obtain ⟨c0, i0, k0⟩ := u_known (C := RX0) (T := TX0) (N := 3) (n := 3) hts (woC.2.2.1 0 _ rfl).1 (hts _ (aT_of 275 (by decide +kernel) (by decide +kernel)))
  obtain ⟨c1, i1, k1⟩ := u_known (C := RX1) (T := TX1) (N := 9) (n := 9) hts (woC.2.2.1 1 _ rfl).1 (hts _ (aT_of 181 (by decide +kernel) (by decide +kernel)))
  obtain ⟨c2, i2, k2⟩ := u_known (C := RX2) (T := TX2) (N := 8) (n := 8) hts (woC.2.2.1 2 _ rfl).1 (hts _ (aT_of 72 (by decide +kernel) (by decide +kernel)))
  obtain ⟨c3, i3, k3⟩ := u_known (C := RX3) (T := TX3) (N := 6) (n := 6) hts (woC.2.2.1 3 _ rfl).1 (hts _ (aT_of 221 (by decide +kernel) (by decide +kernel)))
  obtain ⟨c4, i4, k4⟩ := u_known (C := RX4) (T := TX4) (N := 4) (n := 4) hts (woC.2.2.1 4 _ rfl).1 (hts _ (aT_of 162 (by decide +kernel) (by decide +kernel)))
  obtain ⟨c5, i5, k5⟩ := u_known (C := RX5) (T := TX5) (N := 4) (n := 4) hts (woC.2.2.1 5 _ rfl).1 (hts _ (aT_of 249 (by decide +kernel) (by decide +kernel)))
  obtain ⟨c6, i6, k6⟩ := u_known (C := RX6) (T := TX6) (N := 7) (n := 7) hts (woC.2.2.1 6 _ rfl).1 (hts _ (aT_of 123 (by decide +kernel) (by decide +kernel)))
  obtain ⟨c7, i7, k7⟩ := u_known (C := RX7) (T := TX7) (N := 7) (n := 7) hts (woC.2.2.1 7 _ rfl).1 (hts _ (aT_of 64 (by decide +kernel) (by decide +kernel)))
  obtain ⟨c8, i8, k8⟩ := u_known (C := RX8) (T := TX8) (N := 28) (n := 28) hts (woC.2.2.1 8 _ rfl).1 (hts _ (aT_of 841 (by decide +kernel) (by decide +kernel)))
  obtain ⟨a0, b0, d0⟩ := arr_of (k := 0) (hts _ (aT_of 121 (by decide +kernel) (by decide +kernel)))
  obtain ⟨a1, b1, d1⟩ := arr_of (k := 1) (hts _ (aT_of 219 (by decide +kernel) (by decide +kernel)))
  obtain ⟨a2, b2, d2⟩ := arr_of (k := 2) (hts _ (aT_of 966 (by decide +kernel) (by decide +kernel)))
  obtain ⟨a3, b3, d3⟩ := arr_ov hov
  refine ⟨(fun k => [c0, c1, c2, c3, c4, c5, c6, c7, c8].getD k c0, fun k => [i0, i1, i2, i3, i4, i5, i6, i7, i8].getD k i0), fun k => [a0, a1, a2, a3].getD k a0, fun k q hq => ?_, fun k q hq => ?_⟩
  · match k, hq with
    | 0, hq => cases hq; exact k0
    | 1, hq => cases hq; exact k1
    | 2, hq => cases hq; exact k2
    | 3, hq => cases hq; exact k3
    | 4, hq => cases hq; exact k4
    | 5, hq => cases hq; exact k5
    | 6, hq => cases hq; exact k6
    | 7, hq => cases hq; exact k7
    | 8, hq => cases hq; exact k8
    | k + 9, hq => simp at hq
  · match k, hq with
    | 0, hq => cases hq; exact ⟨b0, d0⟩
    | 1, hq => cases hq; exact ⟨b1, d1⟩
    | 2, hq => cases hq; exact ⟨b2, d2⟩
    | 3, hq => cases hq; exact ⟨b3, d3⟩
    | k + 4, hq => simp [tkZ] at hq
-- ===== YOUR PART BEGINS =====
set_option maxHeartbeats 4000000 in
set_option maxRecDepth 100000 in
theorem whole_start {p : Program} {e : Env} {s : State} {m : MethodId} {below : List Frame} {meth : Method} {c : Code} (l : Launch) (hflags : l.flags = flags0) {b L : Nat} {xs : Nat → Int32} (hL : L ≤ 3072) (C0 : lw_At p s m meth c b L xs) : W p l e room_1 s m #[Value.ref b] below meth c s.heap [] 0 0 (lw_Z below #[Value.ref b] s) (entryFrame m ([Value.ref b] : List Value).toArray 4) := by
  obtain ⟨hx, hb, hr, hml, hown, hts0, hX, hbl, hlocks, hgv⟩ := id C0
  have hts : ∀ q ∈ aT, q.before #[Value.ref b] s = true := fun q hq => hts0 q (List.mem_filter.mp hq).1
  have hov := hts0 (Cond.arrayOver (.array .int)) (List.mem_of_getElem? (i := 78) (by decide +kernel))
  obtain ⟨D, dA, hK⟩ := aK_of hts hov
  have hover : va_AOA .int s := va_AOA.of hov
  have hnw : va_Nw (.methodLinkNest "LessonWays" 11 yX2_init "LessonWays") s := va_Nw.of rfl (hts0 _ (List.mem_of_getElem? (i := 73) (by decide +kernel)))
  have hA : ∀ q : Nat, s.heap.size ≤ q → (fun q : Nat => s.heap.size ≤ q) q := fun _ h => h
  have hS : va_S (fun q : Nat => s.heap.size ≤ q) s.heap s.heap [] := va_S.rf
  have hP : va_P D vwCl [] s.heap := fun k q h => by simp at h
  have hD : va_D (fun q : Nat => s.heap.size ≤ q) [] := ⟨fun i j p q h => by simp at h, fun k q h => by simp at h⟩
  have hl := lv_entry ([.ref b]) (n := 4) (Nat.le_of_ble_eq_true rfl)
  rw [lg_entry_eq]
  generalize (lg_sl ([.ref b]) ++ List.replicate (4 - (lg_sl ([.ref b])).length) Slot.unset).toArray = ls at hl ⊢
  have hl : lv_has ls 4 [(0, .ref b)] := hl
  refine va_new (ci := 7) (fs := [.null, .null, .null, .null, .null, .null, .null]) (C := RX7) (T := TX7) (N := 7) hx hb hts (woC.2.2.1 7 _ rfl).1 tyX7 tyX7_ok hown (hts _ (aT_of 63 (by decide +kernel) (by decide +kernel))) (hts _ (aT_of 64 (by decide +kernel) (by decide +kernel))) (hts _ (aT_of 50 (by decide +kernel) (by decide +kernel))) hK hP hD hS hA rfl (fun j hj => by rcases (show j = 0 ∨ j = 1 ∨ j = 2 ∨ j = 3 ∨ j = 4 ∨ j = 5 ∨ j = 6 by omega) with rfl | rfl | rfl | rfl | rfl | rfl | rfl <;> rfl) (Nat.le_of_ble_eq_true rfl) (Nat.le_of_ble_eq_true rfl) (show decode code 0 = .ok (.new 7, 3) by decide +kernel) (fun qC H hP hD hS => ?_)
  have hP : va_P D vwCl [(qC, .inr (7, [.null, .null, .null, .null, .null, .null, .null]))] H := hP
  have hD : va_D (fun q : Nat => s.heap.size ≤ q) [(qC, .inr (7, [.null, .null, .null, .null, .null, .null, .null]))] := hD
  refine W.widen (k := 1) (n := 7) (by omega) (by omega) ?_
  refine lv_dup hx hb (show decode code 3 = .ok (.dup, 1) by decide +kernel) rfl ?_
  have hFc := va_free (wc := [(qC, .inr (7, [.null, .null, .null, .null, .null, .null, .null]))]) hD hS hA [0] rfl
  refine va_callv (va_runI (As := []) (rest := [.ref qC]) ⟨hx, hb, hml, hown, hts⟩ (i_X7 l D dA qC H.size) (cwI 0 hts (tbl_in (aT_of 67 (by decide +kernel) (by decide +kernel))) rfl rfl rfl (hts _ (aT_of 50 (by decide +kernel) (by decide +kernel))) (hts _ (aT_of 65 (by decide +kernel) (by decide +kernel))) (hts _ (aT_of 66 (by decide +kernel) (by decide +kernel))) rfl (by decide +kernel) ⟨Nat.le_of_ble_eq_true rfl, Nat.le_of_ble_eq_true rfl⟩) ⟨fun a U g mk q => by obtain ⟨q0, q1, qP, qK, qD, qO, qN⟩ := q; exact ⟨q0, q1, qP, va_K.moved (u := U) (U := U.calling g mk a) (Vm.Alike.refl U.vm) qK, qD, aoa_moved (U := U.calling g mk a) (Vm.Alike.refl U.vm) qO, va_Nw.same rfl rfl qN⟩, fun U hU hW => ⟨rfl, by rw [hU], by rw [hU]; exact hP, va_K.moved hW.alike hK, hD.weaken (fun _ _ _ _ => trivial), aoa_moved hW.alike hover, va_Nw.warmM hW hnw⟩⟩ rfl rfl hl.1 rfl (lv_room (Nat.le_of_ble_eq_true rfl)) (show decode code 4 = .ok (.invokespecial 9, 3) by decide +kernel) ⟨Nat.le_of_ble_eq_true rfl, Nat.le_of_ble_eq_true rfl⟩) hS (fun q _ h => hFc q h) hFc (fun u t H1 locs ht hvm hw hB hz1 hk1 hS => ?_)
  obtain ⟨aC, hC, hP1, hD1, ha, hσ⟩ := hB
  rw [ht] at hP1
  clear hP hD
  have hD : va_D (fun q : Nat => s.heap.size ≤ q) (aW wC aC dA hC) := hD1.weaken (fun k q _ h => hFc q.1 h)
  have hP := hP1
  clear hP1 hD1 hFc hk1 hz1
  generalize H1 = H at hP hS ⊢
  refine W.widen (k := 43) (n := 21892) (by omega) (by omega) ?_
  refine lv_astore_n (lv' := [(1, .ref qC), (0, .ref b)]) hx hb (show decode code 7 = .ok (.astore_n 1, 1) by decide +kernel) rfl hl (by decide) rfl (fun ls hl => ?_)
  refine va_new (ci := 8) (fs := [.int 0, .null, .null, .null, .null, .null, .null, .null, .int 0, .null, .int 0, .int 0, .int 0, .int 0, .int 0, .int 0, .null, .null, .null, .null, .null, .null, .null, .null, .null, .null, .int 0, .null]) (C := RX8) (T := TX8) (N := 28) hx hb hts (woC.2.2.1 8 _ rfl).1 tyX8 tyX8_ok hown (hts _ (aT_of 840 (by decide +kernel) (by decide +kernel))) (hts _ (aT_of 841 (by decide +kernel) (by decide +kernel))) (hts _ (aT_of 60 (by decide +kernel) (by decide +kernel))) hK hP hD hS hA rfl (fun j hj => by rcases (show j = 0 ∨ j = 1 ∨ j = 2 ∨ j = 3 ∨ j = 4 ∨ j = 5 ∨ j = 6 ∨ j = 7 ∨ j = 8 ∨ j = 9 ∨ j = 10 ∨ j = 11 ∨ j = 12 ∨ j = 13 ∨ j = 14 ∨ j = 15 ∨ j = 16 ∨ j = 17 ∨ j = 18 ∨ j = 19 ∨ j = 20 ∨ j = 21 ∨ j = 22 ∨ j = 23 ∨ j = 24 ∨ j = 25 ∨ j = 26 ∨ j = 27 by omega) with rfl | rfl | rfl | rfl | rfl | rfl | rfl | rfl | rfl | rfl | rfl | rfl | rfl | rfl | rfl | rfl | rfl | rfl | rfl | rfl | rfl | rfl | rfl | rfl | rfl | rfl | rfl | rfl <;> rfl) (Nat.le_of_ble_eq_true rfl) (Nat.le_of_ble_eq_true rfl) (show decode code 8 = .ok (.new 10, 3) by decide +kernel) (fun qM H hP hD hS => ?_)
  have hPC : va_P D vwCl (aW wC aC dA hC) H := hP.by (fun k => k) (fun k q hk => aW_pre hk)
  have hPm : va_P D vwCl [(qM, .inr (8, [.int 0, .null, .null, .null, .null, .null, .null, .null, .int 0, .null, .int 0, .int 0, .int 0, .int 0, .int 0, .int 0, .null, .null, .null, .null, .null, .null, .null, .null, .null, .null, .int 0, .null]))] H := hP.by (fun _ => 43) (fun k q hk => by
    match k, hk with
    | 0, hk => cases hk; exact aW_last (w := wC)
    | k + 1, hk => simp at hk)
  have hDm : va_D (fun q : Nat => s.heap.size ≤ q) [(qM, .inr (8, [.int 0, .null, .null, .null, .null, .null, .null, .null, .int 0, .null, .int 0, .int 0, .int 0, .int 0, .int 0, .int 0, .null, .null, .null, .null, .null, .null, .null, .null, .null, .null, .int 0, .null]))] := hD.by (fun _ => 43) (fun k q hk => by
    match k, hk with
    | 0, hk => cases hk; exact aW_last (w := wC)
    | k + 1, hk => simp at hk) (fun i j hi hj _ => by
    have hi : i < 1 := hi
    have hj : j < 1 := hj
    omega)
  have hap : ∀ q, aA wC aC q → ¬ va_A [(qM, .inr (8, [.int 0, .null, .null, .null, .null, .null, .null, .null, .int 0, .null, .int 0, .int 0, .int 0, .int 0, .int 0, .int 0, .null, .null, .null, .null, .null, .null, .null, .null, .null, .null, .int 0, .null]))] H.size q := by
    rintro q ⟨i, hi, rfl⟩ hq
    rcases hq with ⟨k, e, hk⟩ | hq
    · match k, hk with
      | 0, hk =>
        have hx1 : (aW wC aC dA hC ++ [(qM, .inr (8, [.int 0, .null, .null, .null, .null, .null, .null, .null, .int 0, .null, .int 0, .int 0, .int 0, .int 0, .int 0, .int 0, .null, .null, .null, .null, .null, .null, .null, .null, .null, .null, .int 0, .null]))])[i]? = some _ := aW_pre (aW_get hi)
        have := hD.1 i 43 _ _ hx1 (aW_last (w := wC)) (by cases hk; rfl)
        have hi : i < 43 := hi
        omega
      | k + 1, hk => simp at hk
    · have := (hPC i _ (aW_get hi)).lt
      exact absurd hq (Nat.not_le.mpr this)
  have hDC : va_D (fun q : Nat => s.heap.size ≤ q) (aW wC aC dA hC) := hD.by (fun k => k) (fun k q hk => aW_pre hk) (fun i j _ _ h => h)
  have hFm : ∀ q, va_A [(qM, .inr (8, [.int 0, .null, .null, .null, .null, .null, .null, .null, .int 0, .null, .int 0, .int 0, .int 0, .int 0, .int 0, .int 0, .null, .null, .null, .null, .null, .null, .null, .null, .null, .null, .int 0, .null]))] H.size q → s.heap.size ≤ q := va_free (wc := [(qM, .inr (8, [.int 0, .null, .null, .null, .null, .null, .null, .null, .int 0, .null, .int 0, .int 0, .int 0, .int 0, .int 0, .int 0, .null, .null, .null, .null, .null, .null, .null, .null, .null, .null, .int 0, .null]))]) hDm hS hA [0] rfl
  refine W.widen (k := 44) (n := 21920) (by omega) (by omega) ?_
  refine lv_dup hx hb (show decode code 11 = .ok (.dup, 1) by decide +kernel) rfl ?_
  refine va_callv (va_runI (As := []) (rest := [.ref qM]) ⟨hx, hb, hml, hown, hts⟩ (i_X8 l D dA qM H.size) (cwI 0 hts (tbl_in (aT_of 844 (by decide +kernel) (by decide +kernel))) rfl rfl rfl (hts _ (aT_of 60 (by decide +kernel) (by decide +kernel))) (hts _ (aT_of 842 (by decide +kernel) (by decide +kernel))) (hts _ (aT_of 843 (by decide +kernel) (by decide +kernel))) rfl (by decide +kernel) ⟨Nat.le_of_ble_eq_true rfl, Nat.le_of_ble_eq_true rfl⟩) ⟨fun a U g mk q => by obtain ⟨q0, q1, qP, qK, qD⟩ := q; exact ⟨q0, q1, qP, va_K.moved (u := U) (U := U.calling g mk a) (Vm.Alike.refl U.vm) qK, qD⟩, fun U hU hW => ⟨rfl, by rw [hU], by rw [hU]; exact hPm, va_K.moved hW.alike hK, hDm.weaken (fun _ _ _ _ => trivial)⟩⟩ rfl rfl hl.1 rfl (lv_room (Nat.le_of_ble_eq_true rfl)) (show decode code 12 = .ok (.invokespecial 12, 3) by decide +kernel) ⟨Nat.le_of_ble_eq_true rfl, Nat.le_of_ble_eq_true rfl⟩) hS (fun q _ h => hFm q h) hFm (fun u t H1 locs ht hvm hw hB hz1 hk1 hS => ?_)
  obtain ⟨aM, hM, hP1, hD1, hm, hτ⟩ := hB
  rw [ht] at hP1
  have hPC2 : va_P D vwCl (aW wC aC dA hC) H1 := hPC.kept (fun k x hx => hk1 x.1 ((hPC k x hx).lt) (hap _ (aW_fst hx)))
  obtain ⟨nC, fC⟩ := aN_of hDC
  obtain ⟨nM, fM⟩ := aN_of hD1
  have B : lwB s D dA aC aM 63 43766 := ⟨hK.sub [0, 1, 3] rfl, hK.sub [0, 1, 2] rfl, nC, nM, fC, fun q hq => hFm q (fM q hq), fun q h1 h2 => hap q h1 (fM q h2), by decide, by decide⟩
  refine W.widen (k := 63) (n := 43766) (by omega) (by omega) ?_
  refine lv_astore_n (lv' := [(2, .ref qM), (1, .ref qC), (0, .ref b)]) hx hb (show decode code 15 = .ok (.astore_n 2, 1) by decide +kernel) rfl hl (by decide) rfl (fun ls hl => ?_)
  refine lv_iconst (v := nI 0) hx hb (show decode code 16 = .ok (.iconst 0, 1) by decide +kernel) (by decide) ?_
  refine lv_istore_n (lv' := [(3, .int (nI 0)), (2, .ref qM), (1, .ref qC), (0, .ref b)]) hx hb (show decode code 17 = .ok (.istore_n 3, 1) by decide +kernel) rfl hl (by decide) rfl (fun ls hl => ?_)
  have hl2 : lv_has ls 4 [(0, .ref b), (1, .ref (aC 0)), (2, .ref (aM 0)), (3, .int (nI 0))] := by
    rw [ha, hm]
    exact lv_sub hl [3, 2, 1, 0] rfl
  exact law_loop C0 B hL L 0 hC hM (fresh T0 σz) (by omega) (by omega) hσ hτ H1 locs ls hl2 hPC2 hP1 hS
