/-! THE LAW's loop -/
theorem and63 (x : Int32) : 0 ≤ (x &&& nI 63).toInt ∧ (x &&& nI 63).toInt < 64 := by
  have h : x &&& nI 63 = nI (x.toBitVec.toNat % 2 ^ 6) := pk_and x 6 (by decide)
  rw [h]
  have : x.toBitVec.toNat % 2 ^ 6 < 64 := Nat.mod_lt _ (by decide)
  rw [nI_ti (by omega)]
  omega
theorem law_loop {p : Program} {l : Launch} {e : Env} {s : State} {m : MethodId} {below : List Frame} {meth : Method} {c : Code} {b L : Nat} {xs : Nat → Int32} {D : va_G} {dA : Nat → ClassId} {aC aM : Nat → Nat} {cN sN : Nat} (C0 : lw_At p s m meth c b L xs) (B : lwB s D dA aC aM cN sN) (hL : L ≤ 3072) : ∀ (d n : Nat) (hC hM : aH) (σ : MS), L ≤ n + d → n ≤ L + 6 → ClS hC σ → MoS hM σ → LW p l e s m below meth c b D dA aC aM cN sN 18 (nI n) [] hC hM := by
  obtain ⟨hx, hb, hr, hml, hown, hts, hX, hbl, hlocks, hgv⟩ := id C0
  have done : ∀ n hC hM, LW p l e s m below meth c b D dA aC aM cN sN 1534 n [] hC hM := by
    intro n hC hM H locs ls hl hP1 hP2 hS
    refine lv_iconst (v := 1) hx hb (by decide +kernel : decode code 1534 = .ok (.iconst 1, 1)) (by decide) ?_
    refine va_forget (fun q hq => hS.2.2 q hq) ?_
    refine W.widen (k := 600000) (n := 7302250) B.2.2.2.2.2.2.2.1 B.2.2.2.2.2.2.2.2 ?_
    exact lw_ret hx hb hr hlocks (by decide +kernel : decode code 1535 = .ok (.ireturn, 1))
  intro d
  induction d with
  | zero =>
    intro n hC hM σ hd hn6 hσ hτ H locs ls hl hP1 hP2 hS
    refine lv_iload_n hx hb (by decide +kernel : decode code 18 = .ok (.iload_n 3, 1)) rfl (lv_at hl 3 rfl) ?_
    refine lv_aload_n hx hb (by decide +kernel : decode code 19 = .ok (.aload_n 0, 1)) rfl (lv_at hl 0 rfl) ?_
    refine va_slen hx hb hX hbl (Nat.not_le.mpr hbl) hS (by decide +kernel : decode code 20 = .ok (.arraylength, 1)) ?_
    refine lv_bipush (v := nI 6) hx hb (by decide +kernel : decode code 21 = .ok (.bipush 6, 2)) (by decide) ?_
    refine lv_isub hx hb (by decide +kernel : decode code 23 = .ok (.isub, 1)) ?_
    refine lv_icmp_gt (tgt := 1534) hx hb (by decide +kernel : decode code 24 = .ok (.if_icmp .gt 1510, 3)) (by decide) (fun _ => done _ _ _ H locs ls hl hP1 hP2 hS) (fun q => ?_)
    exfalso
    have e1 : (nI L - nI 6).toInt = (L : Int) - 6 := pk_sub_toInt (by omega) (by omega)
    rw [Int32.lt_iff_toInt_lt, show Int32.ofNat L = nI L from rfl, e1, nI_ti (by omega)] at q
    omega
  | succ d ih =>
    intro n hC hM σ hd hn6 hσ hτ H locs ls hl hP1 hP2 hS
    refine lv_iload_n hx hb (by decide +kernel : decode code 18 = .ok (.iload_n 3, 1)) rfl (lv_at hl 3 rfl) ?_
    refine lv_aload_n hx hb (by decide +kernel : decode code 19 = .ok (.aload_n 0, 1)) rfl (lv_at hl 0 rfl) ?_
    refine va_slen hx hb hX hbl (Nat.not_le.mpr hbl) hS (by decide +kernel : decode code 20 = .ok (.arraylength, 1)) ?_
    refine lv_bipush (v := nI 6) hx hb (by decide +kernel : decode code 21 = .ok (.bipush 6, 2)) (by decide) ?_
    refine lv_isub hx hb (by decide +kernel : decode code 23 = .ok (.isub, 1)) ?_
    refine lv_icmp_gt (tgt := 1534) hx hb (by decide +kernel : decode code 24 = .ok (.if_icmp .gt 1510, 3)) (by decide) (fun _ => done _ _ _ H locs ls hl hP1 hP2 hS) (fun q => ?_)
    have hn : n + 5 < L := by
      have e1 : (nI L - nI 6).toInt = (L : Int) - 6 := pk_sub_toInt (by omega) (by omega)
      rw [Int32.lt_iff_toInt_lt, show Int32.ofNat L = nI L from rfl, e1, nI_ti (by omega)] at q
      omega
    have next : ∀ hC hM σ, ClS hC σ → MoS hM σ → LW p l e s m below meth c b D dA aC aM cN sN 1528 (nI n) [] hC hM := by
      intro hC hM σ hσ hτ H locs ls hl hP1 hP2 hS
      refine lv_iinc (v := nI (n + 6)) (lv' := [(3, .int (nI (n + 6))), (0, .ref b), (1, .ref (aC 0)), (2, .ref (aM 0))]) hx hb (by decide +kernel : decode code 1528 = .ok (.iinc 3 6, 3)) hl (k := 3) rfl (by rw [show Int32.ofInt 6 = nI 6 by decide, q_add]) (by decide) rfl (fun ls hl => ?_)
      refine lv_goto (tgt := 18) hx hb (by decide +kernel : decode code 1531 = .ok (.goto (-1513), 3)) (by decide) ?_
      exact ih (n + 6) hC hM σ (by omega) (by omega) hσ hτ H locs ls (lv_sub hl [1, 2, 3, 0] rfl) hP1 hP2 hS
    refine lv_aload_n hx hb (by decide +kernel : decode code 27 = .ok (.aload_n 0, 1)) rfl (lv_at hl 0 rfl) ?_
    refine lv_iload_n hx hb (by decide +kernel : decode code 28 = .ok (.iload_n 3, 1)) rfl (lv_at hl 3 rfl) ?_
    refine va_sld hx hb hX hbl (Nat.not_le.mpr hbl) hS (vp_in_nI (show n < L by omega) (by omega)) (by decide +kernel : decode code 29 = .ok (.iaload, 1)) ?_
    refine lv_bipush (v := nI 63) hx hb (by decide +kernel : decode code 30 = .ok (.bipush 63, 2)) (by decide) ?_
    refine lv_iand hx hb (by decide +kernel : decode code 32 = .ok (.iand, 1)) ?_
    obtain ⟨a1, a2⟩ := and63 (xs (nI n).toNatClampNeg)
    generalize xs (nI n).toNatClampNeg &&& nI 63 = v at a1 a2 ⊢
    have hsw : decode code 33 = .ok (.tableswitch 1495 0 44 #[195, 238, 271, 304, 337, 370, 383, 406, 429, 442, 465, 488, 511, 544, 577, 590, 603, 652, 701, 714, 738, 752, 765, 798, 841, 864, 887, 910, 933, 956, 999, 1022, 1075, 1118, 1181, 1204, 1237, 1260, 1293, 1316, 1359, 1402, 1425, 1458, 1481], 195) := by decide +kernel
    by_cases z : v.toInt < 0 ∨ 44 < v.toInt
    · exact lv_tableOut (tgt := 1528) hx hb hsw z (by decide) (next hC hM σ hσ hτ H locs ls hl hP1 hP2 hS)
    · have z1 : ¬ v.toInt < 0 := fun q => z (Or.inl q)
      have z2 : ¬ 44 < v.toInt := fun q => z (Or.inr q)
      obtain ⟨k, hk⟩ : ∃ k : Nat, v.toInt = (k : Int) := ⟨v.toInt.toNat, by omega⟩
      have hix : (v.toInt - 0).toNat = k := by omega
      obtain rfl | rfl | rfl | rfl | rfl | rfl | rfl | rfl | rfl | rfl | rfl | rfl | rfl | rfl | rfl | rfl | rfl | rfl | rfl | rfl | rfl | rfl | rfl | rfl | rfl | rfl | rfl | rfl | rfl | rfl | rfl | rfl | rfl | rfl | rfl | rfl | rfl | rfl | rfl | rfl | rfl | rfl | rfl | rfl | rfl : k = 0 ∨ k = 1 ∨ k = 2 ∨ k = 3 ∨ k = 4 ∨ k = 5 ∨ k = 6 ∨ k = 7 ∨ k = 8 ∨ k = 9 ∨ k = 10 ∨ k = 11 ∨ k = 12 ∨ k = 13 ∨ k = 14 ∨ k = 15 ∨ k = 16 ∨ k = 17 ∨ k = 18 ∨ k = 19 ∨ k = 20 ∨ k = 21 ∨ k = 22 ∨ k = 23 ∨ k = 24 ∨ k = 25 ∨ k = 26 ∨ k = 27 ∨ k = 28 ∨ k = 29 ∨ k = 30 ∨ k = 31 ∨ k = 32 ∨ k = 33 ∨ k = 34 ∨ k = 35 ∨ k = 36 ∨ k = 37 ∨ k = 38 ∨ k = 39 ∨ k = 40 ∨ k = 41 ∨ k = 42 ∨ k = 43 ∨ k = 44 := by omega
      · exact lv_tableIn (off := 195) (tgt := 228) hx hb hsw z1 z2 (by rw [hix]; rfl) (by decide) (law_0 C0 B hL hn hσ hτ next H locs ls hl hP1 hP2 hS)
      · exact lv_tableIn (off := 238) (tgt := 271) hx hb hsw z1 z2 (by rw [hix]; rfl) (by decide) (law_1 C0 B hL hn hσ hτ next H locs ls hl hP1 hP2 hS)
      · exact lv_tableIn (off := 271) (tgt := 304) hx hb hsw z1 z2 (by rw [hix]; rfl) (by decide) (law_2 C0 B hL hn hσ hτ next H locs ls hl hP1 hP2 hS)
      · exact lv_tableIn (off := 304) (tgt := 337) hx hb hsw z1 z2 (by rw [hix]; rfl) (by decide) (law_3 C0 B hL hn hσ hτ next H locs ls hl hP1 hP2 hS)
      · exact lv_tableIn (off := 337) (tgt := 370) hx hb hsw z1 z2 (by rw [hix]; rfl) (by decide) (law_4 C0 B hL hn hσ hτ next H locs ls hl hP1 hP2 hS)
      · exact lv_tableIn (off := 370) (tgt := 403) hx hb hsw z1 z2 (by rw [hix]; rfl) (by decide) (law_5 C0 B hL hn hσ hτ next H locs ls hl hP1 hP2 hS)
      · exact lv_tableIn (off := 383) (tgt := 416) hx hb hsw z1 z2 (by rw [hix]; rfl) (by decide) (law_6 C0 B hL hn hσ hτ next H locs ls hl hP1 hP2 hS)
      · exact lv_tableIn (off := 406) (tgt := 439) hx hb hsw z1 z2 (by rw [hix]; rfl) (by decide) (law_7 C0 B hL hn hσ hτ next H locs ls hl hP1 hP2 hS)
      · exact lv_tableIn (off := 429) (tgt := 462) hx hb hsw z1 z2 (by rw [hix]; rfl) (by decide) (law_8 C0 B hL hn hσ hτ next H locs ls hl hP1 hP2 hS)
      · exact lv_tableIn (off := 442) (tgt := 475) hx hb hsw z1 z2 (by rw [hix]; rfl) (by decide) (law_9 C0 B hL hn hσ hτ next H locs ls hl hP1 hP2 hS)
      · exact lv_tableIn (off := 465) (tgt := 498) hx hb hsw z1 z2 (by rw [hix]; rfl) (by decide) (law_10 C0 B hL hn hσ hτ next H locs ls hl hP1 hP2 hS)
      · exact lv_tableIn (off := 488) (tgt := 521) hx hb hsw z1 z2 (by rw [hix]; rfl) (by decide) (law_11 C0 B hL hn hσ hτ next H locs ls hl hP1 hP2 hS)
      · exact lv_tableIn (off := 511) (tgt := 544) hx hb hsw z1 z2 (by rw [hix]; rfl) (by decide) (law_12 C0 B hL hn hσ hτ next H locs ls hl hP1 hP2 hS)
      · exact lv_tableIn (off := 544) (tgt := 577) hx hb hsw z1 z2 (by rw [hix]; rfl) (by decide) (law_13 C0 B hL hn hσ hτ next H locs ls hl hP1 hP2 hS)
      · exact lv_tableIn (off := 577) (tgt := 610) hx hb hsw z1 z2 (by rw [hix]; rfl) (by decide) (law_14 C0 B hL hn hσ hτ next H locs ls hl hP1 hP2 hS)
      · exact lv_tableIn (off := 590) (tgt := 623) hx hb hsw z1 z2 (by rw [hix]; rfl) (by decide) (law_15 C0 B hL hn hσ hτ next H locs ls hl hP1 hP2 hS)
      · exact lv_tableIn (off := 603) (tgt := 636) hx hb hsw z1 z2 (by rw [hix]; rfl) (by decide) (law_16 C0 B hL hn hσ hτ next H locs ls hl hP1 hP2 hS)
      · exact lv_tableIn (off := 652) (tgt := 685) hx hb hsw z1 z2 (by rw [hix]; rfl) (by decide) (law_17 C0 B hL hn hσ hτ next H locs ls hl hP1 hP2 hS)
      · exact lv_tableIn (off := 701) (tgt := 734) hx hb hsw z1 z2 (by rw [hix]; rfl) (by decide) (law_18 C0 B hL hn hσ hτ next H locs ls hl hP1 hP2 hS)
      · exact lv_tableIn (off := 714) (tgt := 747) hx hb hsw z1 z2 (by rw [hix]; rfl) (by decide) (law_19 C0 B hL hn hσ hτ next H locs ls hl hP1 hP2 hS)
      · exact lv_tableIn (off := 738) (tgt := 771) hx hb hsw z1 z2 (by rw [hix]; rfl) (by decide) (law_20 C0 B hL hn hσ hτ next H locs ls hl hP1 hP2 hS)
      · exact lv_tableIn (off := 752) (tgt := 785) hx hb hsw z1 z2 (by rw [hix]; rfl) (by decide) (law_21 C0 B hL hn hσ hτ next H locs ls hl hP1 hP2 hS)
      · exact lv_tableIn (off := 765) (tgt := 798) hx hb hsw z1 z2 (by rw [hix]; rfl) (by decide) (law_22 C0 B hL hn hσ hτ next H locs ls hl hP1 hP2 hS)
      · exact lv_tableIn (off := 798) (tgt := 831) hx hb hsw z1 z2 (by rw [hix]; rfl) (by decide) (law_23 C0 B hL hn hσ hτ next H locs ls hl hP1 hP2 hS)
      · exact lv_tableIn (off := 841) (tgt := 874) hx hb hsw z1 z2 (by rw [hix]; rfl) (by decide) (law_24 C0 B hL hn hσ hτ next H locs ls hl hP1 hP2 hS)
      · exact lv_tableIn (off := 864) (tgt := 897) hx hb hsw z1 z2 (by rw [hix]; rfl) (by decide) (law_25 C0 B hL hn hσ hτ next H locs ls hl hP1 hP2 hS)
      · exact lv_tableIn (off := 887) (tgt := 920) hx hb hsw z1 z2 (by rw [hix]; rfl) (by decide) (law_26 C0 B hL hn hσ hτ next H locs ls hl hP1 hP2 hS)
      · exact lv_tableIn (off := 910) (tgt := 943) hx hb hsw z1 z2 (by rw [hix]; rfl) (by decide) (law_27 C0 B hL hn hσ hτ next H locs ls hl hP1 hP2 hS)
      · exact lv_tableIn (off := 933) (tgt := 966) hx hb hsw z1 z2 (by rw [hix]; rfl) (by decide) (law_28 C0 B hL hn hσ hτ next H locs ls hl hP1 hP2 hS)
      · exact lv_tableIn (off := 956) (tgt := 989) hx hb hsw z1 z2 (by rw [hix]; rfl) (by decide) (law_29 C0 B hL hn hσ hτ next H locs ls hl hP1 hP2 hS)
      · exact lv_tableIn (off := 999) (tgt := 1032) hx hb hsw z1 z2 (by rw [hix]; rfl) (by decide) (law_30 C0 B hL hn hσ hτ next H locs ls hl hP1 hP2 hS)
      · exact lv_tableIn (off := 1022) (tgt := 1055) hx hb hsw z1 z2 (by rw [hix]; rfl) (by decide) (law_31 C0 B hL hn hσ hτ next H locs ls hl hP1 hP2 hS)
      · exact lv_tableIn (off := 1075) (tgt := 1108) hx hb hsw z1 z2 (by rw [hix]; rfl) (by decide) (law_32 C0 B hL hn hσ hτ next H locs ls hl hP1 hP2 hS)
      · exact lv_tableIn (off := 1118) (tgt := 1151) hx hb hsw z1 z2 (by rw [hix]; rfl) (by decide) (law_33 C0 B hL hn hσ hτ next H locs ls hl hP1 hP2 hS)
      · exact lv_tableIn (off := 1181) (tgt := 1214) hx hb hsw z1 z2 (by rw [hix]; rfl) (by decide) (law_34 C0 B hL hn hσ hτ next H locs ls hl hP1 hP2 hS)
      · exact lv_tableIn (off := 1204) (tgt := 1237) hx hb hsw z1 z2 (by rw [hix]; rfl) (by decide) (law_35 C0 B hL hn hσ hτ next H locs ls hl hP1 hP2 hS)
      · exact lv_tableIn (off := 1237) (tgt := 1270) hx hb hsw z1 z2 (by rw [hix]; rfl) (by decide) (law_36 C0 B hL hn hσ hτ next H locs ls hl hP1 hP2 hS)
      · exact lv_tableIn (off := 1260) (tgt := 1293) hx hb hsw z1 z2 (by rw [hix]; rfl) (by decide) (law_37 C0 B hL hn hσ hτ next H locs ls hl hP1 hP2 hS)
      · exact lv_tableIn (off := 1293) (tgt := 1326) hx hb hsw z1 z2 (by rw [hix]; rfl) (by decide) (law_38 C0 B hL hn hσ hτ next H locs ls hl hP1 hP2 hS)
      · exact lv_tableIn (off := 1316) (tgt := 1349) hx hb hsw z1 z2 (by rw [hix]; rfl) (by decide) (law_39 C0 B hL hn hσ hτ next H locs ls hl hP1 hP2 hS)
      · exact lv_tableIn (off := 1359) (tgt := 1392) hx hb hsw z1 z2 (by rw [hix]; rfl) (by decide) (law_40 C0 B hL hn hσ hτ next H locs ls hl hP1 hP2 hS)
      · exact lv_tableIn (off := 1402) (tgt := 1435) hx hb hsw z1 z2 (by rw [hix]; rfl) (by decide) (law_41 C0 B hL hn hσ hτ next H locs ls hl hP1 hP2 hS)
      · exact lv_tableIn (off := 1425) (tgt := 1458) hx hb hsw z1 z2 (by rw [hix]; rfl) (by decide) (law_42 C0 B hL hn hσ hτ next H locs ls hl hP1 hP2 hS)
      · exact lv_tableIn (off := 1458) (tgt := 1491) hx hb hsw z1 z2 (by rw [hix]; rfl) (by decide) (law_43 C0 B hL hn hσ hτ next H locs ls hl hP1 hP2 hS)
      · exact lv_tableIn (off := 1481) (tgt := 1514) hx hb hsw z1 z2 (by rw [hix]; rfl) (by decide) (law_44 C0 B hL hn hσ hτ next H locs ls hl hP1 hP2 hS)
