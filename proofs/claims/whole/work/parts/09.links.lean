/-! WORLDS: the class's cells and the reference's, by places; links; code -/
def wC : List aE := [.inl (7, [some 1, some 2, some 3, some 4, some 5, some 6, some 7]), .inl (2, [some 8, some 9, some 10, some 11, some 12, some 14, some 13, none]), .inl (6, [some 1, some 27, some 28, some 29, none, none, none]), .inl (4, [some 1, some 2, some 30, some 31]), .inl (1, [some 1, some 2, some 32, some 33, some 34, none, none, none, none]), .inl (3, [some 1, some 2, some 35, none, none, none]), .inl (5, [some 36, some 37, some 38, none]), .inl (0, [some 1, some 2, some 6]), .inr (0, 12, 0), .inr (0, 12, 0), .inr (0, 12, 0), .inr (0, 12, 0), .inr (0, 12, 0), .inr (0, 12, 0), .inr (3, 12, 15), .inr (0, 4, 0), .inr (0, 4, 0), .inr (0, 4, 0), .inr (0, 4, 0), .inr (0, 4, 0), .inr (0, 4, 0), .inr (0, 4, 0), .inr (0, 4, 0), .inr (0, 4, 0), .inr (0, 4, 0), .inr (0, 4, 0), .inr (0, 4, 0), .inr (0, 4096, 0), .inr (0, 4096, 0), .inr (0, 4096, 0), .inr (0, 4096, 0), .inr (0, 12, 0), .inr (1, 4096, 0), .inr (0, 12, 0), .inr (0, 1024, 0), .inr (0, 12, 0), .inr (0, 4, 0), .inr (0, 4, 0), .inr (3, 4, 39), .inr (0, 40, 0), .inr (0, 40, 0), .inr (0, 40, 0), .inr (0, 40, 0)]
def wM : List aE := [.inl (8, [none, some 1, some 2, some 3, some 4, some 5, some 6, some 7, none, some 8, none, none, none, none, none, none, some 9, some 10, some 11, some 12, some 13, some 14, some 15, some 16, some 17, some 18, none, some 19]), .inr (0, 12, 0), .inr (0, 12, 0), .inr (0, 12, 0), .inr (0, 12, 0), .inr (0, 12, 0), .inr (0, 48, 0), .inr (2, 4096, 0), .inr (1, 4096, 0), .inr (0, 12, 0), .inr (0, 10, 0), .inr (0, 1024, 0), .inr (0, 4096, 0), .inr (0, 4096, 0), .inr (2, 4, 0), .inr (0, 4, 0), .inr (0, 4, 0), .inr (0, 160, 0), .inr (0, 40, 0), .inr (0, 4096, 0)]
def tkC : List Nat := [0, 1, 3]
def tkM : List Nat := [0, 1, 2]
theorem lnC_8 : lenK wC 0 8 = 12 := (rfl)
theorem alC_8 : alen wC 8 = some 12 := (rfl)
theorem lnC_9 : lenK wC 0 9 = 12 := (rfl)
theorem alC_9 : alen wC 9 = some 12 := (rfl)
theorem lnC_10 : lenK wC 0 10 = 12 := (rfl)
theorem alC_10 : alen wC 10 = some 12 := (rfl)
theorem lnC_11 : lenK wC 0 11 = 12 := (rfl)
theorem alC_11 : alen wC 11 = some 12 := (rfl)
theorem lnC_12 : lenK wC 0 12 = 12 := (rfl)
theorem alC_12 : alen wC 12 = some 12 := (rfl)
theorem lnC_13 : lenK wC 0 13 = 12 := (rfl)
theorem alC_13 : alen wC 13 = some 12 := (rfl)
theorem lnC_14 : lenK wC 3 14 = 12 := (rfl)
theorem alC_14 : alen wC 14 = some 12 := (rfl)
theorem bsC_14 : basK wC 14 = 15 := (rfl)
theorem lnC_15 : lenK wC 0 15 = 4 := (rfl)
theorem alC_15 : alen wC 15 = some 4 := (rfl)
theorem lnC_16 : lenK wC 0 16 = 4 := (rfl)
theorem alC_16 : alen wC 16 = some 4 := (rfl)
theorem lnC_17 : lenK wC 0 17 = 4 := (rfl)
theorem alC_17 : alen wC 17 = some 4 := (rfl)
theorem lnC_18 : lenK wC 0 18 = 4 := (rfl)
theorem alC_18 : alen wC 18 = some 4 := (rfl)
theorem lnC_19 : lenK wC 0 19 = 4 := (rfl)
theorem alC_19 : alen wC 19 = some 4 := (rfl)
theorem lnC_20 : lenK wC 0 20 = 4 := (rfl)
theorem alC_20 : alen wC 20 = some 4 := (rfl)
theorem lnC_21 : lenK wC 0 21 = 4 := (rfl)
theorem alC_21 : alen wC 21 = some 4 := (rfl)
theorem lnC_22 : lenK wC 0 22 = 4 := (rfl)
theorem alC_22 : alen wC 22 = some 4 := (rfl)
theorem lnC_23 : lenK wC 0 23 = 4 := (rfl)
theorem alC_23 : alen wC 23 = some 4 := (rfl)
theorem lnC_24 : lenK wC 0 24 = 4 := (rfl)
theorem alC_24 : alen wC 24 = some 4 := (rfl)
theorem lnC_25 : lenK wC 0 25 = 4 := (rfl)
theorem alC_25 : alen wC 25 = some 4 := (rfl)
theorem lnC_26 : lenK wC 0 26 = 4 := (rfl)
theorem alC_26 : alen wC 26 = some 4 := (rfl)
theorem lnC_27 : lenK wC 0 27 = 4096 := (rfl)
theorem alC_27 : alen wC 27 = some 4096 := (rfl)
theorem lnC_28 : lenK wC 0 28 = 4096 := (rfl)
theorem alC_28 : alen wC 28 = some 4096 := (rfl)
theorem lnC_29 : lenK wC 0 29 = 4096 := (rfl)
theorem alC_29 : alen wC 29 = some 4096 := (rfl)
theorem lnC_30 : lenK wC 0 30 = 4096 := (rfl)
theorem alC_30 : alen wC 30 = some 4096 := (rfl)
theorem lnC_31 : lenK wC 0 31 = 12 := (rfl)
theorem alC_31 : alen wC 31 = some 12 := (rfl)
theorem lnC_32 : lenK wC 1 32 = 4096 := (rfl)
theorem alC_32 : alen wC 32 = some 4096 := (rfl)
theorem lnC_33 : lenK wC 0 33 = 12 := (rfl)
theorem alC_33 : alen wC 33 = some 12 := (rfl)
theorem lnC_34 : lenK wC 0 34 = 1024 := (rfl)
theorem alC_34 : alen wC 34 = some 1024 := (rfl)
theorem lnC_35 : lenK wC 0 35 = 12 := (rfl)
theorem alC_35 : alen wC 35 = some 12 := (rfl)
theorem lnC_36 : lenK wC 0 36 = 4 := (rfl)
theorem alC_36 : alen wC 36 = some 4 := (rfl)
theorem lnC_37 : lenK wC 0 37 = 4 := (rfl)
theorem alC_37 : alen wC 37 = some 4 := (rfl)
theorem lnC_38 : lenK wC 3 38 = 4 := (rfl)
theorem alC_38 : alen wC 38 = some 4 := (rfl)
theorem bsC_38 : basK wC 38 = 39 := (rfl)
theorem lnC_39 : lenK wC 0 39 = 40 := (rfl)
theorem alC_39 : alen wC 39 = some 40 := (rfl)
theorem lnC_40 : lenK wC 0 40 = 40 := (rfl)
theorem alC_40 : alen wC 40 = some 40 := (rfl)
theorem lnC_41 : lenK wC 0 41 = 40 := (rfl)
theorem alC_41 : alen wC 41 = some 40 := (rfl)
theorem lnC_42 : lenK wC 0 42 = 40 := (rfl)
theorem alC_42 : alen wC 42 = some 40 := (rfl)
theorem fvC_0_0 {h : aH} {b : Bool} : fval wC h 0 (some (7, 0, b)) = some (.ref 1) := (rfl)
theorem fvC_0_1 {h : aH} {b : Bool} : fval wC h 0 (some (7, 1, b)) = some (.ref 2) := (rfl)
theorem fvC_0_2 {h : aH} {b : Bool} : fval wC h 0 (some (7, 2, b)) = some (.ref 3) := (rfl)
theorem fvC_0_3 {h : aH} {b : Bool} : fval wC h 0 (some (7, 3, b)) = some (.ref 4) := (rfl)
theorem fvC_0_4 {h : aH} {b : Bool} : fval wC h 0 (some (7, 4, b)) = some (.ref 5) := (rfl)
theorem fvC_0_5 {h : aH} {b : Bool} : fval wC h 0 (some (7, 5, b)) = some (.ref 6) := (rfl)
theorem fvC_0_6 {h : aH} {b : Bool} : fval wC h 0 (some (7, 6, b)) = some (.ref 7) := (rfl)
theorem fvC_1_0 {h : aH} {b : Bool} : fval wC h 1 (some (2, 0, b)) = some (.ref 8) := (rfl)
theorem fvC_1_1 {h : aH} {b : Bool} : fval wC h 1 (some (2, 1, b)) = some (.ref 9) := (rfl)
theorem fvC_1_2 {h : aH} {b : Bool} : fval wC h 1 (some (2, 2, b)) = some (.ref 10) := (rfl)
theorem fvC_1_3 {h : aH} {b : Bool} : fval wC h 1 (some (2, 3, b)) = some (.ref 11) := (rfl)
theorem fvC_1_4 {h : aH} {b : Bool} : fval wC h 1 (some (2, 4, b)) = some (.ref 12) := (rfl)
theorem fvC_1_5 {h : aH} {b : Bool} : fval wC h 1 (some (2, 5, b)) = some (.ref 14) := (rfl)
theorem fvC_1_6 {h : aH} {b : Bool} : fval wC h 1 (some (2, 6, b)) = some (.ref 13) := (rfl)
theorem fvC_1_7 {h : aH} {b : Bool} : fval wC h 1 (some (2, 7, b)) = some (.int (fI h 1 7)) := (rfl)
theorem pfC_1_7 : pfok wC 1 (some (2, 7, true)) = some 7 := (rfl)
theorem fvC_2_0 {h : aH} {b : Bool} : fval wC h 2 (some (6, 0, b)) = some (.ref 1) := (rfl)
theorem fvC_2_1 {h : aH} {b : Bool} : fval wC h 2 (some (6, 1, b)) = some (.ref 27) := (rfl)
theorem fvC_2_2 {h : aH} {b : Bool} : fval wC h 2 (some (6, 2, b)) = some (.ref 28) := (rfl)
theorem fvC_2_3 {h : aH} {b : Bool} : fval wC h 2 (some (6, 3, b)) = some (.ref 29) := (rfl)
theorem fvC_2_4 {h : aH} {b : Bool} : fval wC h 2 (some (6, 4, b)) = some (.int (fI h 2 4)) := (rfl)
theorem pfC_2_4 : pfok wC 2 (some (6, 4, true)) = some 4 := (rfl)
theorem fvC_2_5 {h : aH} {b : Bool} : fval wC h 2 (some (6, 5, b)) = some (.int (fI h 2 5)) := (rfl)
theorem pfC_2_5 : pfok wC 2 (some (6, 5, true)) = some 5 := (rfl)
theorem fvC_2_6 {h : aH} {b : Bool} : fval wC h 2 (some (6, 6, b)) = some (.int (fI h 2 6)) := (rfl)
theorem pfC_2_6 : pfok wC 2 (some (6, 6, true)) = some 6 := (rfl)
theorem fvC_3_0 {h : aH} {b : Bool} : fval wC h 3 (some (4, 0, b)) = some (.ref 1) := (rfl)
theorem fvC_3_1 {h : aH} {b : Bool} : fval wC h 3 (some (4, 1, b)) = some (.ref 2) := (rfl)
theorem fvC_3_2 {h : aH} {b : Bool} : fval wC h 3 (some (4, 2, b)) = some (.ref 30) := (rfl)
theorem fvC_3_3 {h : aH} {b : Bool} : fval wC h 3 (some (4, 3, b)) = some (.ref 31) := (rfl)
theorem fvC_4_0 {h : aH} {b : Bool} : fval wC h 4 (some (1, 0, b)) = some (.ref 1) := (rfl)
theorem fvC_4_1 {h : aH} {b : Bool} : fval wC h 4 (some (1, 1, b)) = some (.ref 2) := (rfl)
theorem fvC_4_2 {h : aH} {b : Bool} : fval wC h 4 (some (1, 2, b)) = some (.ref 32) := (rfl)
theorem fvC_4_3 {h : aH} {b : Bool} : fval wC h 4 (some (1, 3, b)) = some (.ref 33) := (rfl)
theorem fvC_4_4 {h : aH} {b : Bool} : fval wC h 4 (some (1, 4, b)) = some (.ref 34) := (rfl)
theorem fvC_4_5 {h : aH} {b : Bool} : fval wC h 4 (some (1, 5, b)) = some (.int (fI h 4 5)) := (rfl)
theorem pfC_4_5 : pfok wC 4 (some (1, 5, true)) = some 5 := (rfl)
theorem fvC_4_6 {h : aH} {b : Bool} : fval wC h 4 (some (1, 6, b)) = some (.int (fI h 4 6)) := (rfl)
theorem pfC_4_6 : pfok wC 4 (some (1, 6, true)) = some 6 := (rfl)
theorem fvC_4_7 {h : aH} {b : Bool} : fval wC h 4 (some (1, 7, b)) = some (.int (fI h 4 7)) := (rfl)
theorem pfC_4_7 : pfok wC 4 (some (1, 7, true)) = some 7 := (rfl)
theorem fvC_4_8 {h : aH} {b : Bool} : fval wC h 4 (some (1, 8, b)) = some (.int (fI h 4 8)) := (rfl)
theorem pfC_4_8 : pfok wC 4 (some (1, 8, true)) = some 8 := (rfl)
theorem fvC_5_0 {h : aH} {b : Bool} : fval wC h 5 (some (3, 0, b)) = some (.ref 1) := (rfl)
theorem fvC_5_1 {h : aH} {b : Bool} : fval wC h 5 (some (3, 1, b)) = some (.ref 2) := (rfl)
theorem fvC_5_2 {h : aH} {b : Bool} : fval wC h 5 (some (3, 2, b)) = some (.ref 35) := (rfl)
theorem fvC_5_3 {h : aH} {b : Bool} : fval wC h 5 (some (3, 3, b)) = some (.int (fI h 5 3)) := (rfl)
theorem pfC_5_3 : pfok wC 5 (some (3, 3, true)) = some 3 := (rfl)
theorem fvC_5_4 {h : aH} {b : Bool} : fval wC h 5 (some (3, 4, b)) = some (.int (fI h 5 4)) := (rfl)
theorem pfC_5_4 : pfok wC 5 (some (3, 4, true)) = some 4 := (rfl)
theorem fvC_5_5 {h : aH} {b : Bool} : fval wC h 5 (some (3, 5, b)) = some (.int (fI h 5 5)) := (rfl)
theorem pfC_5_5 : pfok wC 5 (some (3, 5, true)) = some 5 := (rfl)
theorem fvC_6_0 {h : aH} {b : Bool} : fval wC h 6 (some (5, 0, b)) = some (.ref 36) := (rfl)
theorem fvC_6_1 {h : aH} {b : Bool} : fval wC h 6 (some (5, 1, b)) = some (.ref 37) := (rfl)
theorem fvC_6_2 {h : aH} {b : Bool} : fval wC h 6 (some (5, 2, b)) = some (.ref 38) := (rfl)
theorem fvC_6_3 {h : aH} {b : Bool} : fval wC h 6 (some (5, 3, b)) = some (.int (fI h 6 3)) := (rfl)
theorem pfC_6_3 : pfok wC 6 (some (5, 3, true)) = some 3 := (rfl)
theorem fvC_7_0 {h : aH} {b : Bool} : fval wC h 7 (some (0, 0, b)) = some (.ref 1) := (rfl)
theorem fvC_7_1 {h : aH} {b : Bool} : fval wC h 7 (some (0, 1, b)) = some (.ref 2) := (rfl)
theorem fvC_7_2 {h : aH} {b : Bool} : fval wC h 7 (some (0, 2, b)) = some (.ref 6) := (rfl)
theorem lnM_1 : lenK wM 0 1 = 12 := (rfl)
theorem alM_1 : alen wM 1 = some 12 := (rfl)
theorem lnM_2 : lenK wM 0 2 = 12 := (rfl)
theorem alM_2 : alen wM 2 = some 12 := (rfl)
theorem lnM_3 : lenK wM 0 3 = 12 := (rfl)
theorem alM_3 : alen wM 3 = some 12 := (rfl)
theorem lnM_4 : lenK wM 0 4 = 12 := (rfl)
theorem alM_4 : alen wM 4 = some 12 := (rfl)
theorem lnM_5 : lenK wM 0 5 = 12 := (rfl)
theorem alM_5 : alen wM 5 = some 12 := (rfl)
theorem lnM_6 : lenK wM 0 6 = 48 := (rfl)
theorem alM_6 : alen wM 6 = some 48 := (rfl)
theorem lnM_7 : lenK wM 2 7 = 4096 := (rfl)
theorem alM_7 : alen wM 7 = some 4096 := (rfl)
theorem lnM_8 : lenK wM 1 8 = 4096 := (rfl)
theorem alM_8 : alen wM 8 = some 4096 := (rfl)
theorem lnM_9 : lenK wM 0 9 = 12 := (rfl)
theorem alM_9 : alen wM 9 = some 12 := (rfl)
theorem lnM_10 : lenK wM 0 10 = 10 := (rfl)
theorem alM_10 : alen wM 10 = some 10 := (rfl)
theorem lnM_11 : lenK wM 0 11 = 1024 := (rfl)
theorem alM_11 : alen wM 11 = some 1024 := (rfl)
theorem lnM_12 : lenK wM 0 12 = 4096 := (rfl)
theorem alM_12 : alen wM 12 = some 4096 := (rfl)
theorem lnM_13 : lenK wM 0 13 = 4096 := (rfl)
theorem alM_13 : alen wM 13 = some 4096 := (rfl)
theorem lnM_14 : lenK wM 2 14 = 4 := (rfl)
theorem alM_14 : alen wM 14 = some 4 := (rfl)
theorem lnM_15 : lenK wM 0 15 = 4 := (rfl)
theorem alM_15 : alen wM 15 = some 4 := (rfl)
theorem lnM_16 : lenK wM 0 16 = 4 := (rfl)
theorem alM_16 : alen wM 16 = some 4 := (rfl)
theorem lnM_17 : lenK wM 0 17 = 160 := (rfl)
theorem alM_17 : alen wM 17 = some 160 := (rfl)
theorem lnM_18 : lenK wM 0 18 = 40 := (rfl)
theorem alM_18 : alen wM 18 = some 40 := (rfl)
theorem lnM_19 : lenK wM 0 19 = 4096 := (rfl)
theorem alM_19 : alen wM 19 = some 4096 := (rfl)
theorem fvM_0_0 {h : aH} {b : Bool} : fval wM h 0 (some (8, 0, b)) = some (.int (fI h 0 0)) := (rfl)
theorem pfM_0_0 : pfok wM 0 (some (8, 0, true)) = some 0 := (rfl)
theorem fvM_0_1 {h : aH} {b : Bool} : fval wM h 0 (some (8, 1, b)) = some (.ref 1) := (rfl)
theorem fvM_0_2 {h : aH} {b : Bool} : fval wM h 0 (some (8, 2, b)) = some (.ref 2) := (rfl)
theorem fvM_0_3 {h : aH} {b : Bool} : fval wM h 0 (some (8, 3, b)) = some (.ref 3) := (rfl)
theorem fvM_0_4 {h : aH} {b : Bool} : fval wM h 0 (some (8, 4, b)) = some (.ref 4) := (rfl)
theorem fvM_0_5 {h : aH} {b : Bool} : fval wM h 0 (some (8, 5, b)) = some (.ref 5) := (rfl)
theorem fvM_0_6 {h : aH} {b : Bool} : fval wM h 0 (some (8, 6, b)) = some (.ref 6) := (rfl)
theorem fvM_0_7 {h : aH} {b : Bool} : fval wM h 0 (some (8, 7, b)) = some (.ref 7) := (rfl)
theorem fvM_0_8 {h : aH} {b : Bool} : fval wM h 0 (some (8, 8, b)) = some (.int (fI h 0 8)) := (rfl)
theorem pfM_0_8 : pfok wM 0 (some (8, 8, true)) = some 8 := (rfl)
theorem fvM_0_9 {h : aH} {b : Bool} : fval wM h 0 (some (8, 9, b)) = some (.ref 8) := (rfl)
theorem fvM_0_10 {h : aH} {b : Bool} : fval wM h 0 (some (8, 10, b)) = some (.int (fI h 0 10)) := (rfl)
theorem pfM_0_10 : pfok wM 0 (some (8, 10, true)) = some 10 := (rfl)
theorem fvM_0_11 {h : aH} {b : Bool} : fval wM h 0 (some (8, 11, b)) = some (.int (fI h 0 11)) := (rfl)
theorem pfM_0_11 : pfok wM 0 (some (8, 11, true)) = some 11 := (rfl)
theorem fvM_0_12 {h : aH} {b : Bool} : fval wM h 0 (some (8, 12, b)) = some (.int (fI h 0 12)) := (rfl)
theorem pfM_0_12 : pfok wM 0 (some (8, 12, true)) = some 12 := (rfl)
theorem fvM_0_13 {h : aH} {b : Bool} : fval wM h 0 (some (8, 13, b)) = some (.int (fI h 0 13)) := (rfl)
theorem pfM_0_13 : pfok wM 0 (some (8, 13, true)) = some 13 := (rfl)
theorem fvM_0_14 {h : aH} {b : Bool} : fval wM h 0 (some (8, 14, b)) = some (.int (fI h 0 14)) := (rfl)
theorem pfM_0_14 : pfok wM 0 (some (8, 14, true)) = some 14 := (rfl)
theorem fvM_0_15 {h : aH} {b : Bool} : fval wM h 0 (some (8, 15, b)) = some (.int (fI h 0 15)) := (rfl)
theorem pfM_0_15 : pfok wM 0 (some (8, 15, true)) = some 15 := (rfl)
theorem fvM_0_16 {h : aH} {b : Bool} : fval wM h 0 (some (8, 16, b)) = some (.ref 9) := (rfl)
theorem fvM_0_17 {h : aH} {b : Bool} : fval wM h 0 (some (8, 17, b)) = some (.ref 10) := (rfl)
theorem fvM_0_18 {h : aH} {b : Bool} : fval wM h 0 (some (8, 18, b)) = some (.ref 11) := (rfl)
theorem fvM_0_19 {h : aH} {b : Bool} : fval wM h 0 (some (8, 19, b)) = some (.ref 12) := (rfl)
theorem fvM_0_20 {h : aH} {b : Bool} : fval wM h 0 (some (8, 20, b)) = some (.ref 13) := (rfl)
theorem fvM_0_21 {h : aH} {b : Bool} : fval wM h 0 (some (8, 21, b)) = some (.ref 14) := (rfl)
theorem fvM_0_22 {h : aH} {b : Bool} : fval wM h 0 (some (8, 22, b)) = some (.ref 15) := (rfl)
theorem fvM_0_23 {h : aH} {b : Bool} : fval wM h 0 (some (8, 23, b)) = some (.ref 16) := (rfl)
theorem fvM_0_24 {h : aH} {b : Bool} : fval wM h 0 (some (8, 24, b)) = some (.ref 17) := (rfl)
theorem fvM_0_25 {h : aH} {b : Bool} : fval wM h 0 (some (8, 25, b)) = some (.ref 18) := (rfl)
theorem fvM_0_26 {h : aH} {b : Bool} : fval wM h 0 (some (8, 26, b)) = some (.int (fI h 0 26)) := (rfl)
theorem pfM_0_26 : pfok wM 0 (some (8, 26, true)) = some 26 := (rfl)
theorem fvM_0_27 {h : aH} {b : Bool} : fval wM h 0 (some (8, 27, b)) = some (.ref 19) := (rfl)
theorem lk_in {α : Type} : ∀ {l : List (Nat × α)} {i : Nat} {a : α}, lk l i = some a → (i, a) ∈ l := by
  intro l
  induction l with
  | nil => intro i a h; cases h
  | cons b l ih =>
    intro i a h
    obtain ⟨j, b⟩ := b
    unfold lk at h
    by_cases e : j = i
    · rw [if_pos e] at h
      cases h
      rw [e]
      exact List.mem_cons_self
    · rw [if_neg e] at h
      exact List.mem_cons_of_mem _ (ih h)
def atP (p : Nat) (w : Cond) : Bool := decide (lw_tbl[p]? = some w) && goodWord w
theorem atP_sp {p : Nat} {w : Cond} (h : atP p w = true) : w ∈ aT := by
  unfold atP at h
  rw [Bool.and_eq_true] at h
  exact aT_of p (of_decide_eq_true h.1) h.2
def ckF (cl : List vw_C) (own : String) (e : (Nat × Nat × Nat × Bool) × Nat) : Bool := match cl[e.1.2.1]? with
  | some q => atP e.2 (Cond.fieldLink own e.1.1 q.1 (q.2.1 e.1.2.2.1).2.1 (q.2.1 e.1.2.2.1).2.2.1) && (!e.1.2.2.2 || (!(q.2.1 e.1.2.2.1).2.2.2 && decide (parseFieldDescriptor (q.2.1 e.1.2.2.1).2.2.1 = some .int)))
  | none => true
def ckM (own : String) (e : (Nat × MethodName × Nat × Nat) × (Nat × Nat × Nat × Nat)) : Bool :=
  atP e.2.1 (Cond.methodLink own e.1.1 e.1.2.1) && (atP e.2.2.1 (Cond.initialized e.1.2.1.cls) && (decide (e.1.2.1.cls ≠ "java/lang/invoke/MethodHandle" ∧ e.1.2.1.cls ≠ "java/lang/invoke/VarHandle" ∧ (parseMethodDescriptor e.1.2.1.desc).map (fun d => d.parameters.length) = some e.1.2.2.1) &&
    (match e.1.2.2.2 with
      | 0 => atP e.2.2.2.1 (Cond.instanceMethod e.1.2.1) && atP e.2.2.2.2 (Cond.selects e.1.2.1.cls e.1.2.1 e.1.2.1)
      | 1 => atP e.2.2.2.1 (Cond.static e.1.2.1)
      | 2 => decide (e.1.2.1 = arraycopyName) && (atP e.2.2.2.1 (Cond.native e.1.2.1) && atP e.2.2.2.2 (Cond.static e.1.2.1))
      | 3 => decide (e.1.2.1 = Lib.Math.max.name) && (atP e.2.2.2.1 (Cond.static e.1.2.1) && atP e.2.2.2.2 (Cond.code e.1.2.1 Lib.Math.max.code 2 (some .int)))
      | 4 => decide (e.1.2.1 = Lib.Math.min.name) && (atP e.2.2.2.1 (Cond.static e.1.2.1) && atP e.2.2.2.2 (Cond.code e.1.2.1 Lib.Math.min.code 2 (some .int)))
      | _ => false)))
theorem aLk_of {cl : List vw_C} {own : String} {x : aX} (pF : List Nat) (pM : List (Nat × Nat × Nat × Nat)) (pI pL : List Nat) (h1 : x.1.length = pF.length) (h2 : x.2.1.length = pM.length) (h3 : x.2.2.1.length = pI.length) (h4 : x.2.2.2.length = pL.length)
    (g1 : (x.1.zip pF).all (ckF cl own) = true) (g2 : (x.2.1.zip pM).all (ckM own) = true) (g3 : (x.2.2.1.zip pI).all (fun e => atP e.2 (Cond.constant own e.1.1 e.1.2)) = true) (g4 : (x.2.2.2.zip pL).all (fun e => atP e.2 (Cond.constantLong own e.1.1 e.1.2)) = true) : aLk cl own x := by
  have zz : ∀ {α β : Type} {l : List α} {m : List β} (f : α × β → Bool) (a : α), l.length = m.length → (l.zip m).all f = true → a ∈ l → ∃ b, f (a, b) = true := by
    intro α β l m f a hl hf ha
    obtain ⟨i, hi⟩ := List.getElem?_of_mem ha
    have hlt : i < l.length := (List.getElem?_eq_some_iff.mp hi).1
    have hb : m[i]? = some m[i] := List.getElem?_eq_getElem (by omega)
    exact ⟨m[i], List.all_eq_true.mp hf _ (List.mem_of_getElem? (i := i) (List.getElem?_zip_eq_some.mpr ⟨hi, hb⟩))⟩
  refine ⟨fun i ci k b q hk hq => ?_, fun i y n kd hk => ?_, fun i v hk => ?_, fun i v hk => ?_⟩
  · obtain ⟨p, hp⟩ := zz _ _ h1 g1 (lk_in hk)
    unfold ckF at hp
    dsimp only at hp
    rw [hq] at hp
    dsimp only at hp
    rw [Bool.and_eq_true] at hp
    refine ⟨atP_sp hp.1, fun hb => ?_⟩
    have h5 := hp.2
    rw [hb] at h5
    simp only [Bool.not_true, Bool.false_or, Bool.and_eq_true, Bool.not_eq_true'] at h5
    exact ⟨h5.1, of_decide_eq_true h5.2⟩
  · obtain ⟨p, hp⟩ := zz _ _ h2 g2 (lk_in hk)
    unfold ckM at hp
    dsimp only at hp
    rw [Bool.and_eq_true, Bool.and_eq_true, Bool.and_eq_true] at hp
    obtain ⟨q1, q2, q3, q4⟩ := hp
    refine ⟨atP_sp q1, atP_sp q2, of_decide_eq_true q3, fun e => ?_, fun e => ?_, fun e => ?_, fun e => ?_, fun e => ?_⟩
    · subst e
      have q5 : (atP p.2.2.1 (Cond.instanceMethod y) && atP p.2.2.2 (Cond.selects y.cls y y)) = true := q4
      rw [Bool.and_eq_true] at q5
      exact ⟨atP_sp q5.1, atP_sp q5.2⟩
    · subst e
      exact atP_sp q4
    · subst e
      have q5 : (decide (y = arraycopyName) && (atP p.2.2.1 (Cond.native y) && atP p.2.2.2 (Cond.static y))) = true := q4
      rw [Bool.and_eq_true, Bool.and_eq_true] at q5
      exact ⟨of_decide_eq_true q5.1, atP_sp q5.2.1, atP_sp q5.2.2⟩
    · subst e
      have q5 : (decide (y = Lib.Math.max.name) && (atP p.2.2.1 (Cond.static y) && atP p.2.2.2 (Cond.code y Lib.Math.max.code 2 (some .int)))) = true := q4
      rw [Bool.and_eq_true, Bool.and_eq_true] at q5
      exact ⟨of_decide_eq_true q5.1, atP_sp q5.2.1, atP_sp q5.2.2⟩
    · subst e
      have q5 : (decide (y = Lib.Math.min.name) && (atP p.2.2.1 (Cond.static y) && atP p.2.2.2 (Cond.code y Lib.Math.min.code 2 (some .int)))) = true := q4
      rw [Bool.and_eq_true, Bool.and_eq_true] at q5
      exact ⟨of_decide_eq_true q5.1, atP_sp q5.2.1, atP_sp q5.2.2⟩
  · obtain ⟨p, hp⟩ := zz _ _ h3 g3 (lk_in hk)
    exact atP_sp hp
  · obtain ⟨p, hp⟩ := zz _ _ h4 g4 (lk_in hk)
    exact atP_sp hp
def ckW (q : vw_C) (ps : List Nat) : Bool := decide ((u_ws q.1 q.2.1 q.2.2).length = ps.length) && ((u_ws q.1 q.2.1 q.2.2).zip ps).all (fun e => atP e.2 e.1)
theorem ckW_sp {q : vw_C} {ps : List Nat} (h : ckW q ps = true) : ∀ x ∈ u_ws q.1 q.2.1 q.2.2, x ∈ aT := by
  unfold ckW at h
  rw [Bool.and_eq_true] at h
  intro a ha
  have hl := of_decide_eq_true h.1
  obtain ⟨i, hi⟩ := List.getElem?_of_mem ha
  have hlt : i < (u_ws q.1 q.2.1 q.2.2).length := (List.getElem?_eq_some_iff.mp hi).1
  have hb : ps[i]? = some ps[i] := List.getElem?_eq_getElem (by omega)
  exact atP_sp (List.all_eq_true.mp h.2 (a, ps[i]) (List.mem_of_getElem? (i := i) (List.getElem?_zip_eq_some.mpr ⟨hi, hb⟩)))
set_option maxRecDepth 100000 in
theorem cwX0 : ckW (RX0, TX0, 3) [283, 285, 287] = true := by decide +kernel
theorem foX0 : ∀ k, k < 3 → (TX0 k).1 = RX0 := by decide +kernel
set_option maxRecDepth 100000 in
theorem cwX1 : ckW (RX1, TX1, 9) [200, 202, 204, 206, 208, 210, 212, 214, 216] = true := by decide +kernel
theorem foX1 : ∀ k, k < 9 → (TX1 k).1 = RX1 := by decide +kernel
set_option maxRecDepth 100000 in
theorem cwX2 : ckW (RX2, TX2, 8) [104, 106, 108, 110, 112, 114, 116, 118] = true := by decide +kernel
theorem foX2 : ∀ k, k < 8 → (TX2 k).1 = RX2 := by decide +kernel
set_option maxRecDepth 100000 in
theorem cwX3 : ckW (RX3, TX3, 6) [235, 237, 239, 241, 243, 245] = true := by decide +kernel
theorem foX3 : ∀ k, k < 6 → (TX3 k).1 = RX3 := by decide +kernel
set_option maxRecDepth 100000 in
theorem cwX4 : ckW (RX4, TX4, 4) [171, 173, 175, 177] = true := by decide +kernel
theorem foX4 : ∀ k, k < 4 → (TX4 k).1 = RX4 := by decide +kernel
set_option maxRecDepth 100000 in
theorem cwX5 : ckW (RX5, TX5, 4) [265, 267, 269, 271] = true := by decide +kernel
theorem foX5 : ∀ k, k < 4 → (TX5 k).1 = RX5 := by decide +kernel
set_option maxRecDepth 100000 in
theorem cwX6 : ckW (RX6, TX6, 7) [146, 148, 150, 152, 154, 156, 158] = true := by decide +kernel
theorem foX6 : ∀ k, k < 7 → (TX6 k).1 = RX6 := by decide +kernel
set_option maxRecDepth 100000 in
theorem cwX7 : ckW (RX7, TX7, 7) [362, 364, 366, 368, 370, 372, 374] = true := by decide +kernel
theorem foX7 : ∀ k, k < 7 → (TX7 k).1 = RX7 := by decide +kernel
set_option maxRecDepth 100000 in
theorem cwX8 : ckW (RX8, TX8, 28) [909, 911, 913, 915, 917, 919, 921, 923, 925, 927, 929, 931, 933, 935, 937, 939, 941, 943, 945, 947, 949, 951, 953, 955, 957, 959, 961, 963] = true := by decide +kernel
theorem foX8 : ∀ k, k < 28 → (TX8 k).1 = RX8 := by decide +kernel
theorem cls_ok : ∀ (ci : Nat) (q : vw_C), vwCl[ci]? = some q → (∀ x ∈ u_ws q.1 q.2.1 q.2.2, x ∈ aT) ∧ (∃ ty0 : Nat → FieldType, ∀ k, k < q.2.2 → parseFieldDescriptor (q.2.1 k).2.2.1 = some (ty0 k)) ∧ (∀ a, a < q.2.2 → ∀ b, b < q.2.2 → a ≠ b → (q.2.1 a).2.1 ≠ (q.2.1 b).2.1) ∧ ∀ k, k < q.2.2 → (q.2.1 k).1 = q.1 := by
  intro ci q hq
  match ci, hq with
  | 0, hq => cases hq; exact ⟨ckW_sp cwX0, ⟨tyX0, tyX0_ok⟩, nmX0, foX0⟩
  | 1, hq => cases hq; exact ⟨ckW_sp cwX1, ⟨tyX1, tyX1_ok⟩, nmX1, foX1⟩
  | 2, hq => cases hq; exact ⟨ckW_sp cwX2, ⟨tyX2, tyX2_ok⟩, nmX2, foX2⟩
  | 3, hq => cases hq; exact ⟨ckW_sp cwX3, ⟨tyX3, tyX3_ok⟩, nmX3, foX3⟩
  | 4, hq => cases hq; exact ⟨ckW_sp cwX4, ⟨tyX4, tyX4_ok⟩, nmX4, foX4⟩
  | 5, hq => cases hq; exact ⟨ckW_sp cwX5, ⟨tyX5, tyX5_ok⟩, nmX5, foX5⟩
  | 6, hq => cases hq; exact ⟨ckW_sp cwX6, ⟨tyX6, tyX6_ok⟩, nmX6, foX6⟩
  | 7, hq => cases hq; exact ⟨ckW_sp cwX7, ⟨tyX7, tyX7_ok⟩, nmX7, foX7⟩
  | 8, hq => cases hq; exact ⟨ckW_sp cwX8, ⟨tyX8, tyX8_ok⟩, nmX8, foX8⟩
  | k + 9, hq => simp [vwCl] at hq
def ckWo (w : List aE) (tk : List Nat) : Bool := (List.range w.length).all (fun p => match shp w p with
  | .inr (k, n, b) => decide (k ∈ tk) && (!decide (k = 3) || (decide (b + n ≤ w.length) && decide (n < 100)))
  | .inl (c, rs) => match vwCl[c]? with
    | some q => decide (rs.length = q.2.2)
    | none => false)
theorem aWo_of {w : List aE} {tk : List Nat} (h : ckWo w tk = true) : aWo vwCl tk w := by
  have hp : ∀ p, p < w.length → _ := fun p hp => List.all_eq_true.mp h p (List.mem_range.mpr hp)
  refine ⟨fun p k n b hs hl => ?_, fun p k n b hs hk => ?_, cls_ok, fun p c rs hs => ?_⟩
  · have h1 := hp p hl
    rw [hs] at h1
    dsimp only at h1
    rw [Bool.and_eq_true] at h1
    exact of_decide_eq_true h1.1
  · subst hk
    have hl : p < w.length := shp_lt (by rw [hs]; intro z; cases z)
    have h1 := hp p hl
    rw [hs] at h1
    dsimp only at h1
    simp only [Bool.and_eq_true, decide_true, Bool.not_true, Bool.false_or, decide_eq_true_eq] at h1
    exact ⟨h1.2.1, by have := h1.2.2; omega⟩
  · have hl : p < w.length := shp_lt (by rw [hs]; intro z; cases z)
    have h1 := hp p hl
    rw [hs] at h1
    dsimp only at h1
    split at h1
    · rename_i q hq
      exact ⟨q, hq, of_decide_eq_true h1⟩
    · cases h1
theorem woC : aWo vwCl tkC wC := aWo_of (by decide +kernel)
theorem woM : aWo vwCl tkM wM := aWo_of (by decide +kernel)
def xX0 : aX := ([(9, 0, 0, false), (15, 0, 1, false), (19, 0, 2, false), (35, 5, 1, false), (51, 2, 7, true)], [(23, yX5_read, 2, 0), (29, yX2_all, 0, 0), (39, yX0_rightIn, 2, 0), (42, yX6_farFromNearest, 1, 0), (48, yX6_nearestTo, 1, 0), (55, yX0_countAgainst, 3, 0), (59, yX0_countNearest, 2, 0)], [], [])
set_option maxRecDepth 100000 in
theorem lkX0 : aLk vwCl RX0 xX0 := aLk_of [280, 281, 282, 261, 101] [(778, 56, 720, 721), (779, 51, 304, 305), (774, 58, 775, 776), (780, 52, 781, 782), (792, 52, 743, 744), (801, 58, 803, 20), (813, 58, 815, 21)] [] [] rfl rfl rfl rfl (by decide +kernel) (by decide +kernel) (by decide +kernel) (by decide +kernel)
theorem lX0f_9 : lk xX0.1 9 = some (0, 0, false) := (rfl)
theorem lX0f_15 : lk xX0.1 15 = some (0, 1, false) := (rfl)
theorem lX0f_19 : lk xX0.1 19 = some (0, 2, false) := (rfl)
theorem lX0f_35 : lk xX0.1 35 = some (5, 1, false) := (rfl)
theorem lX0f_51 : lk xX0.1 51 = some (2, 7, true) := (rfl)
theorem lX0m_23 : lk xX0.2.1 23 = some (yX5_read, 2, 0) := (rfl)
theorem lX0m_29 : lk xX0.2.1 29 = some (yX2_all, 0, 0) := (rfl)
theorem lX0m_39 : lk xX0.2.1 39 = some (yX0_rightIn, 2, 0) := (rfl)
theorem lX0m_42 : lk xX0.2.1 42 = some (yX6_farFromNearest, 1, 0) := (rfl)
theorem lX0m_48 : lk xX0.2.1 48 = some (yX6_nearestTo, 1, 0) := (rfl)
theorem lX0m_55 : lk xX0.2.1 55 = some (yX0_countAgainst, 3, 0) := (rfl)
theorem lX0m_59 : lk xX0.2.1 59 = some (yX0_countNearest, 2, 0) := (rfl)
def xX1 : aX := ([(9, 1, 2, false), (15, 1, 3, false), (19, 1, 4, false), (22, 1, 0, false), (26, 1, 1, false), (30, 1, 6, true), (34, 1, 7, true), (37, 1, 8, true), (40, 6, 4, true), (45, 1, 5, true), (52, 6, 1, false), (55, 2, 7, true), (80, 6, 5, true)], [(46, yJ7_fill_d0a16, 2, 1), (58, yX1_leftWith, 1, 0), (62, yJ9_max_7cf53, 2, 3), (68, yX1_weigh, 3, 0), (72, yX1_begin, 2, 0), (76, yX1_takeUnsure, 2, 0), (83, yX1_gatherFamily, 0, 0), (86, yX1_fewestFor, 1, 0), (89, yJ7_fill_53178, 2, 1), (92, yX1_markHaving, 2, 0), (95, yJ6_bitCount_0f7a4, 1, 1), (100, yJ9_min_7cf53, 2, 4)], [], [])
set_option maxRecDepth 100000 in
theorem lkX1 : aLk vwCl RX1 xX1 := aLk_of [188, 190, 191, 186, 187, 194, 196, 198, 137, 192, 130, 99, 142] [(347, 57, 348, 0), (503, 54, 505, 7), (507, 59, 508, 509), (518, 54, 520, 8), (826, 54, 344, 345), (827, 54, 527, 528), (559, 54, 561, 9), (568, 54, 570, 11), (563, 57, 256, 0), (564, 54, 566, 10), (572, 61, 573, 0), (578, 59, 341, 342)] [] [] rfl rfl rfl rfl (by decide +kernel) (by decide +kernel) (by decide +kernel) (by decide +kernel)
theorem lX1f_9 : lk xX1.1 9 = some (1, 2, false) := (rfl)
theorem lX1f_15 : lk xX1.1 15 = some (1, 3, false) := (rfl)
theorem lX1f_19 : lk xX1.1 19 = some (1, 4, false) := (rfl)
theorem lX1f_22 : lk xX1.1 22 = some (1, 0, false) := (rfl)
theorem lX1f_26 : lk xX1.1 26 = some (1, 1, false) := (rfl)
theorem lX1f_30 : lk xX1.1 30 = some (1, 6, true) := (rfl)
theorem lX1f_34 : lk xX1.1 34 = some (1, 7, true) := (rfl)
theorem lX1f_37 : lk xX1.1 37 = some (1, 8, true) := (rfl)
theorem lX1f_40 : lk xX1.1 40 = some (6, 4, true) := (rfl)
theorem lX1f_45 : lk xX1.1 45 = some (1, 5, true) := (rfl)
theorem lX1f_52 : lk xX1.1 52 = some (6, 1, false) := (rfl)
theorem lX1f_55 : lk xX1.1 55 = some (2, 7, true) := (rfl)
theorem lX1f_80 : lk xX1.1 80 = some (6, 5, true) := (rfl)
theorem lX1m_46 : lk xX1.2.1 46 = some (yJ7_fill_d0a16, 2, 1) := (rfl)
theorem lX1m_58 : lk xX1.2.1 58 = some (yX1_leftWith, 1, 0) := (rfl)
theorem lX1m_62 : lk xX1.2.1 62 = some (yJ9_max_7cf53, 2, 3) := (rfl)
theorem lX1m_68 : lk xX1.2.1 68 = some (yX1_weigh, 3, 0) := (rfl)
theorem lX1m_72 : lk xX1.2.1 72 = some (yX1_begin, 2, 0) := (rfl)
theorem lX1m_76 : lk xX1.2.1 76 = some (yX1_takeUnsure, 2, 0) := (rfl)
theorem lX1m_83 : lk xX1.2.1 83 = some (yX1_gatherFamily, 0, 0) := (rfl)
theorem lX1m_86 : lk xX1.2.1 86 = some (yX1_fewestFor, 1, 0) := (rfl)
theorem lX1m_89 : lk xX1.2.1 89 = some (yJ7_fill_53178, 2, 1) := (rfl)
theorem lX1m_92 : lk xX1.2.1 92 = some (yX1_markHaving, 2, 0) := (rfl)
theorem lX1m_95 : lk xX1.2.1 95 = some (yJ6_bitCount_0f7a4, 1, 1) := (rfl)
theorem lX1m_100 : lk xX1.2.1 100 = some (yJ9_min_7cf53, 2, 4) := (rfl)
def xX2 : aX := ([(9, 2, 0, false), (15, 2, 1, false), (18, 2, 2, false), (21, 2, 3, false), (24, 2, 4, false), (29, 2, 5, false), (32, 2, 6, false), (39, 2, 7, true)], [(35, yX2_canBeSet, 1, 1), (43, yX2_gatherGroup, 1, 0), (47, yX2_isInGroup, 2, 0), (51, yX2_servingSet, 2, 0), (55, yX2_isServed, 2, 0)], [], [])
set_option maxRecDepth 100000 in
theorem lkX2 : aLk vwCl RX2 xX2 := aLk_of [79, 82, 84, 87, 89, 91, 92, 98] [(384, 51, 385, 0), (391, 51, 393, 4), (395, 51, 397, 5), (327, 51, 328, 329), (323, 51, 324, 325)] [] [] rfl rfl rfl rfl (by decide +kernel) (by decide +kernel) (by decide +kernel) (by decide +kernel)
theorem lX2f_9 : lk xX2.1 9 = some (2, 0, false) := (rfl)
theorem lX2f_15 : lk xX2.1 15 = some (2, 1, false) := (rfl)
theorem lX2f_18 : lk xX2.1 18 = some (2, 2, false) := (rfl)
theorem lX2f_21 : lk xX2.1 21 = some (2, 3, false) := (rfl)
theorem lX2f_24 : lk xX2.1 24 = some (2, 4, false) := (rfl)
theorem lX2f_29 : lk xX2.1 29 = some (2, 5, false) := (rfl)
theorem lX2f_32 : lk xX2.1 32 = some (2, 6, false) := (rfl)
theorem lX2f_39 : lk xX2.1 39 = some (2, 7, true) := (rfl)
theorem lX2m_35 : lk xX2.2.1 35 = some (yX2_canBeSet, 1, 1) := (rfl)
theorem lX2m_43 : lk xX2.2.1 43 = some (yX2_gatherGroup, 1, 0) := (rfl)
theorem lX2m_47 : lk xX2.2.1 47 = some (yX2_isInGroup, 2, 0) := (rfl)
theorem lX2m_51 : lk xX2.2.1 51 = some (yX2_servingSet, 2, 0) := (rfl)
theorem lX2m_55 : lk xX2.2.1 55 = some (yX2_isServed, 2, 0) := (rfl)
def xX3 : aX := ([(9, 3, 2, false), (15, 3, 0, false), (19, 3, 1, false), (23, 3, 3, true), (27, 3, 4, true), (30, 3, 5, true), (39, 2, 6, false), (48, 2, 0, false), (66, 2, 7, true), (69, 2, 2, false)], [(33, yJ7_fill_53178, 2, 1), (44, yX2_fits, 2, 0), (51, yX3_forgottenNow, 0, 0), (55, yX6_coreOf, 1, 0), (61, yJ6_bitCount_0f7a4, 1, 1)], [], [])
set_option maxRecDepth 100000 in
theorem lkX3 : aLk vwCl RX3 xX3 := aLk_of [228, 226, 227, 229, 231, 233, 93, 81, 102, 86] [(354, 57, 256, 0), (637, 51, 320, 321), (654, 55, 656, 17), (658, 52, 475, 476), (659, 61, 573, 0)] [] [] rfl rfl rfl rfl (by decide +kernel) (by decide +kernel) (by decide +kernel) (by decide +kernel)
theorem lX3f_9 : lk xX3.1 9 = some (3, 2, false) := (rfl)
theorem lX3f_15 : lk xX3.1 15 = some (3, 0, false) := (rfl)
theorem lX3f_19 : lk xX3.1 19 = some (3, 1, false) := (rfl)
theorem lX3f_23 : lk xX3.1 23 = some (3, 3, true) := (rfl)
theorem lX3f_27 : lk xX3.1 27 = some (3, 4, true) := (rfl)
theorem lX3f_30 : lk xX3.1 30 = some (3, 5, true) := (rfl)
theorem lX3f_39 : lk xX3.1 39 = some (2, 6, false) := (rfl)
theorem lX3f_48 : lk xX3.1 48 = some (2, 0, false) := (rfl)
theorem lX3f_66 : lk xX3.1 66 = some (2, 7, true) := (rfl)
theorem lX3f_69 : lk xX3.1 69 = some (2, 2, false) := (rfl)
theorem lX3m_33 : lk xX3.2.1 33 = some (yJ7_fill_53178, 2, 1) := (rfl)
theorem lX3m_44 : lk xX3.2.1 44 = some (yX2_fits, 2, 0) := (rfl)
theorem lX3m_51 : lk xX3.2.1 51 = some (yX3_forgottenNow, 0, 0) := (rfl)
theorem lX3m_55 : lk xX3.2.1 55 = some (yX6_coreOf, 1, 0) := (rfl)
theorem lX3m_61 : lk xX3.2.1 61 = some (yJ6_bitCount_0f7a4, 1, 1) := (rfl)
def xX4 : aX := ([(9, 4, 2, false), (15, 4, 3, false), (18, 4, 0, false), (22, 4, 1, false), (34, 2, 6, false), (45, 6, 5, true), (51, 6, 4, true), (54, 6, 1, false), (57, 2, 7, true)], [(26, yX4_sumCosts, 1, 0), (30, yX4_firstStep, 1, 0), (39, yJ7_fill_53178, 2, 1), (58, yX6_isNext, 2, 0), (62, yX2_hoursOf, 1, 0), (65, yX4_leastThroughNext, 1, 0), (68, yX4_costThrough, 2, 0)], [], [])
set_option maxRecDepth 100000 in
theorem lkX4 : aLk vwCl RX4 xX4 := aLk_of [169, 170, 167, 168, 94, 141, 138, 131, 100] [(591, 53, 593, 13), (616, 53, 618, 16), (628, 57, 256, 0), (607, 52, 467, 468), (595, 51, 596, 597), (599, 53, 601, 14), (603, 53, 605, 15)] [] [] rfl rfl rfl rfl (by decide +kernel) (by decide +kernel) (by decide +kernel) (by decide +kernel)
theorem lX4f_9 : lk xX4.1 9 = some (4, 2, false) := (rfl)
theorem lX4f_15 : lk xX4.1 15 = some (4, 3, false) := (rfl)
theorem lX4f_18 : lk xX4.1 18 = some (4, 0, false) := (rfl)
theorem lX4f_22 : lk xX4.1 22 = some (4, 1, false) := (rfl)
theorem lX4f_34 : lk xX4.1 34 = some (2, 6, false) := (rfl)
theorem lX4f_45 : lk xX4.1 45 = some (6, 5, true) := (rfl)
theorem lX4f_51 : lk xX4.1 51 = some (6, 4, true) := (rfl)
theorem lX4f_54 : lk xX4.1 54 = some (6, 1, false) := (rfl)
theorem lX4f_57 : lk xX4.1 57 = some (2, 7, true) := (rfl)
theorem lX4m_26 : lk xX4.2.1 26 = some (yX4_sumCosts, 1, 0) := (rfl)
theorem lX4m_30 : lk xX4.2.1 30 = some (yX4_firstStep, 1, 0) := (rfl)
theorem lX4m_39 : lk xX4.2.1 39 = some (yJ7_fill_53178, 2, 1) := (rfl)
theorem lX4m_58 : lk xX4.2.1 58 = some (yX6_isNext, 2, 0) := (rfl)
theorem lX4m_62 : lk xX4.2.1 62 = some (yX2_hoursOf, 1, 0) := (rfl)
theorem lX4m_65 : lk xX4.2.1 65 = some (yX4_leastThroughNext, 1, 0) := (rfl)
theorem lX4m_68 : lk xX4.2.1 68 = some (yX4_costThrough, 2, 0) := (rfl)
def xX5 : aX := ([(11, 5, 0, false), (15, 5, 1, false), (20, 5, 2, false), (29, 5, 3, true)], [(23, yJ7_fill_53178, 2, 1), (33, arraycopyName, 5, 2)], [], [])
set_option maxRecDepth 100000 in
theorem lkX5 : aLk vwCl RX5 xX5 := aLk_of [258, 260, 262, 263] [(255, 57, 256, 0), (735, 62, 737, 736)] [] [] rfl rfl rfl rfl (by decide +kernel) (by decide +kernel) (by decide +kernel) (by decide +kernel)
theorem lX5f_11 : lk xX5.1 11 = some (5, 0, false) := (rfl)
theorem lX5f_15 : lk xX5.1 15 = some (5, 1, false) := (rfl)
theorem lX5f_20 : lk xX5.1 20 = some (5, 2, false) := (rfl)
theorem lX5f_29 : lk xX5.1 29 = some (5, 3, true) := (rfl)
theorem lX5m_23 : lk xX5.2.1 23 = some (yJ7_fill_53178, 2, 1) := (rfl)
theorem lX5m_33 : lk xX5.2.1 33 = some (arraycopyName, 5, 2) := (rfl)
def xX6 : aX := ([(9, 6, 1, false), (15, 6, 2, false), (18, 6, 3, false), (21, 6, 0, false), (31, 6, 4, true), (41, 6, 5, true), (44, 6, 6, true), (62, 2, 7, true), (63, 2, 6, false)], [(25, yJ7_fill_53178, 2, 1), (35, yX2_ofKind, 1, 0), (47, yX2_all, 0, 0), (51, yX6_isState, 1, 0), (55, yX6_enter, 1, 0), (59, yX6_measure, 0, 0), (66, yX2_leads, 1, 0), (69, yX2_fits, 2, 0), (74, yX6_compare, 2, 0), (78, yJ9_min_7cf53, 2, 4), (84, yX6_isNext, 2, 0), (87, yX6_lastOf, 1, 0), (90, yJ6_bitCount_0f7a4, 1, 1)], [(73, 1048576)], [])
set_option maxRecDepth 100000 in
theorem lkX6 : aLk vwCl RX6 xX6 := aLk_of [129, 133, 135, 128, 136, 140, 144, 97, 95] [(298, 57, 256, 0), (299, 51, 300, 301), (303, 51, 304, 305), (307, 52, 308, 309), (311, 52, 313, 1), (331, 52, 333, 2), (315, 51, 316, 317), (319, 51, 320, 321), (336, 52, 338, 3), (340, 59, 341, 342), (466, 52, 467, 468), (760, 52, 463, 464), (761, 61, 573, 0)] [335] [] rfl rfl rfl rfl (by decide +kernel) (by decide +kernel) (by decide +kernel) (by decide +kernel)
theorem lX6f_9 : lk xX6.1 9 = some (6, 1, false) := (rfl)
theorem lX6f_15 : lk xX6.1 15 = some (6, 2, false) := (rfl)
theorem lX6f_18 : lk xX6.1 18 = some (6, 3, false) := (rfl)
theorem lX6f_21 : lk xX6.1 21 = some (6, 0, false) := (rfl)
theorem lX6f_31 : lk xX6.1 31 = some (6, 4, true) := (rfl)
theorem lX6f_41 : lk xX6.1 41 = some (6, 5, true) := (rfl)
theorem lX6f_44 : lk xX6.1 44 = some (6, 6, true) := (rfl)
theorem lX6f_62 : lk xX6.1 62 = some (2, 7, true) := (rfl)
theorem lX6f_63 : lk xX6.1 63 = some (2, 6, false) := (rfl)
theorem lX6m_25 : lk xX6.2.1 25 = some (yJ7_fill_53178, 2, 1) := (rfl)
theorem lX6m_35 : lk xX6.2.1 35 = some (yX2_ofKind, 1, 0) := (rfl)
theorem lX6m_47 : lk xX6.2.1 47 = some (yX2_all, 0, 0) := (rfl)
theorem lX6m_51 : lk xX6.2.1 51 = some (yX6_isState, 1, 0) := (rfl)
theorem lX6m_55 : lk xX6.2.1 55 = some (yX6_enter, 1, 0) := (rfl)
theorem lX6m_59 : lk xX6.2.1 59 = some (yX6_measure, 0, 0) := (rfl)
theorem lX6m_66 : lk xX6.2.1 66 = some (yX2_leads, 1, 0) := (rfl)
theorem lX6m_69 : lk xX6.2.1 69 = some (yX2_fits, 2, 0) := (rfl)
theorem lX6m_74 : lk xX6.2.1 74 = some (yX6_compare, 2, 0) := (rfl)
theorem lX6m_78 : lk xX6.2.1 78 = some (yJ9_min_7cf53, 2, 4) := (rfl)
theorem lX6m_84 : lk xX6.2.1 84 = some (yX6_isNext, 2, 0) := (rfl)
theorem lX6m_87 : lk xX6.2.1 87 = some (yX6_lastOf, 1, 0) := (rfl)
theorem lX6m_90 : lk xX6.2.1 90 = some (yJ6_bitCount_0f7a4, 1, 1) := (rfl)
theorem lX6i_73 : lk xX6.2.2.1 73 = some 1048576 := (rfl)
def xX7 : aX := ([(12, 7, 0, false), (21, 7, 1, false), (30, 7, 2, false), (37, 7, 3, false), (44, 7, 4, false), (51, 7, 5, false), (60, 7, 6, false), (79, 2, 0, false), (90, 2, 3, false), (93, 2, 1, false), (96, 2, 2, false), (99, 2, 4, false), (109, 6, 4, true), (116, 6, 1, false), (119, 6, 6, true), (126, 6, 2, false), (150, 1, 5, true), (165, 1, 2, false), (199, 3, 3, true), (235, 5, 0, false), (257, 2, 6, false), (281, 2, 7, true), (282, 3, 4, true), (285, 3, 5, true), (288, 1, 8, true), (291, 1, 6, true), (294, 1, 7, true), (297, 5, 3, true), (313, 6, 5, true)], [(64, yX7_beginAnew, 0, 0), (67, yX2_canBe, 3, 1), (71, yX2_add, 3, 0), (75, yX2_has, 1, 0), (83, yX2_canBeSet, 1, 1), (86, yX2_addOther, 2, 0), (102, yX2_hasAll, 1, 0), (105, yX2_isServed, 2, 0), (113, yX6_isState, 1, 0), (122, yX7_refusalOfState, 1, 0), (129, yX2_allOf, 1, 0), (132, yX6_lastOf, 1, 0), (135, yX6_coreOf, 1, 0), (138, yX2_servingSet, 2, 0), (141, yJ6_numberOfTrailingZeros_0f7a4, 1, 1), (146, yX1_begin, 2, 0), (151, yX1_bestItem, 0, 0), (155, yX1_takeSure, 2, 0), (159, yX1_takeUnsure, 2, 0), (162, yX1_heaviest, 0, 0), (171, yX1_sumOfWeights, 0, 0), (175, yX1_fewestQuestions, 0, 0), (178, yX7_refusalOfWay, 2, 0), (181, yX4_leastCost, 2, 0), (184, yX4_lessonOnWay, 3, 0), (187, yX4_rowsTo, 1, 0), (190, yX3_takeLesson, 1, 0), (193, yX3_practise, 1, 0), (196, yX3_liveOneDay, 0, 0), (202, yX3_begin, 1, 0), (205, yX5_canBe, 1, 1), (207, yX5_canBeForm, 1, 1), (210, yX5_find, 1, 0), (213, yX5_begin, 3, 0), (216, yX7_refusalOfSheet, 1, 0), (219, yX5_drop, 1, 0), (222, yX7_refusalOfMark, 3, 0), (225, yX5_write, 3, 0), (229, yX5_read, 2, 0), (232, yX5_isLost, 1, 0), (238, yX5_hasRange, 3, 0), (241, yX5_move, 5, 0), (245, yX6_nearestTo, 1, 0), (248, yJ6_bitCount_0f7a4, 1, 1), (251, yX2_all, 0, 0), (254, yX6_baseState, 2, 0), (260, yX0_sumOfMisfits, 1, 0), (263, yX0_oddAnswers, 3, 0), (266, yX0_seenNeeds, 3, 0), (269, yX0_commonState, 1, 0), (272, yX5_hasMark, 2, 0), (275, yX0_rightIn, 2, 0), (278, yX1_takeAll, 1, 0), (304, yX7_count, 1, 0), (307, yX7_about, 2, 0), (310, yX6_chart, 0, 0)], [(228, (-2147483648))], [(169, (-2)), (300, 17), (302, 31)])
set_option maxRecDepth 100000 in
theorem lkX7 : aLk vwCl RX7 xX7 := aLk_of [355, 356, 357, 358, 359, 360, 361, 80, 88, 83, 85, 90, 139, 132, 145, 134, 193, 189, 230, 259, 96, 103, 232, 234, 199, 195, 197, 264, 143] [(290, 50, 292, 0), (381, 51, 382, 0), (387, 51, 388, 389), (403, 51, 404, 405), (407, 51, 385, 0), (408, 51, 409, 410), (424, 51, 425, 426), (428, 51, 324, 325), (437, 52, 308, 309), (450, 50, 452, 6), (454, 51, 455, 456), (462, 52, 463, 464), (474, 52, 475, 476), (482, 51, 328, 329), (483, 61, 484, 0), (343, 54, 344, 345), (499, 54, 500, 501), (514, 54, 515, 516), (526, 54, 527, 528), (534, 54, 535, 536), (547, 54, 548, 549), (555, 54, 556, 557), (583, 50, 585, 12), (587, 53, 588, 589), (612, 53, 613, 614), (624, 53, 625, 626), (633, 55, 634, 635), (642, 55, 643, 644), (650, 55, 651, 652), (350, 55, 351, 352), (668, 56, 669, 0), (671, 56, 672, 0), (674, 56, 675, 676), (678, 56, 679, 680), (686, 50, 688, 18), (694, 56, 695, 696), (702, 50, 704, 19), (710, 56, 711, 712), (719, 56, 720, 721), (690, 56, 691, 692), (727, 56, 728, 729), (731, 56, 732, 733), (742, 52, 743, 744), (750, 61, 573, 0), (755, 51, 304, 305), (756, 52, 757, 758), (770, 58, 771, 772), (788, 58, 789, 790), (797, 58, 798, 799), (809, 58, 810, 811), (706, 56, 707, 708), (821, 58, 775, 776), (822, 54, 823, 824), (838, 50, 829, 830), (839, 50, 417, 418), (294, 52, 295, 296)] [718] [542, 836, 837] rfl rfl rfl rfl (by decide +kernel) (by decide +kernel) (by decide +kernel) (by decide +kernel)
theorem lX7f_12 : lk xX7.1 12 = some (7, 0, false) := (rfl)
theorem lX7f_21 : lk xX7.1 21 = some (7, 1, false) := (rfl)
theorem lX7f_30 : lk xX7.1 30 = some (7, 2, false) := (rfl)
theorem lX7f_37 : lk xX7.1 37 = some (7, 3, false) := (rfl)
theorem lX7f_44 : lk xX7.1 44 = some (7, 4, false) := (rfl)
theorem lX7f_51 : lk xX7.1 51 = some (7, 5, false) := (rfl)
theorem lX7f_60 : lk xX7.1 60 = some (7, 6, false) := (rfl)
theorem lX7f_79 : lk xX7.1 79 = some (2, 0, false) := (rfl)
theorem lX7f_90 : lk xX7.1 90 = some (2, 3, false) := (rfl)
theorem lX7f_93 : lk xX7.1 93 = some (2, 1, false) := (rfl)
theorem lX7f_96 : lk xX7.1 96 = some (2, 2, false) := (rfl)
theorem lX7f_99 : lk xX7.1 99 = some (2, 4, false) := (rfl)
theorem lX7f_109 : lk xX7.1 109 = some (6, 4, true) := (rfl)
theorem lX7f_116 : lk xX7.1 116 = some (6, 1, false) := (rfl)
theorem lX7f_119 : lk xX7.1 119 = some (6, 6, true) := (rfl)
theorem lX7f_126 : lk xX7.1 126 = some (6, 2, false) := (rfl)
theorem lX7f_150 : lk xX7.1 150 = some (1, 5, true) := (rfl)
theorem lX7f_165 : lk xX7.1 165 = some (1, 2, false) := (rfl)
theorem lX7f_199 : lk xX7.1 199 = some (3, 3, true) := (rfl)
theorem lX7f_235 : lk xX7.1 235 = some (5, 0, false) := (rfl)
theorem lX7f_257 : lk xX7.1 257 = some (2, 6, false) := (rfl)
theorem lX7f_281 : lk xX7.1 281 = some (2, 7, true) := (rfl)
theorem lX7f_282 : lk xX7.1 282 = some (3, 4, true) := (rfl)
theorem lX7f_285 : lk xX7.1 285 = some (3, 5, true) := (rfl)
theorem lX7f_288 : lk xX7.1 288 = some (1, 8, true) := (rfl)
theorem lX7f_291 : lk xX7.1 291 = some (1, 6, true) := (rfl)
theorem lX7f_294 : lk xX7.1 294 = some (1, 7, true) := (rfl)
theorem lX7f_297 : lk xX7.1 297 = some (5, 3, true) := (rfl)
theorem lX7f_313 : lk xX7.1 313 = some (6, 5, true) := (rfl)
theorem lX7m_64 : lk xX7.2.1 64 = some (yX7_beginAnew, 0, 0) := (rfl)
theorem lX7m_67 : lk xX7.2.1 67 = some (yX2_canBe, 3, 1) := (rfl)
theorem lX7m_71 : lk xX7.2.1 71 = some (yX2_add, 3, 0) := (rfl)
theorem lX7m_75 : lk xX7.2.1 75 = some (yX2_has, 1, 0) := (rfl)
theorem lX7m_83 : lk xX7.2.1 83 = some (yX2_canBeSet, 1, 1) := (rfl)
theorem lX7m_86 : lk xX7.2.1 86 = some (yX2_addOther, 2, 0) := (rfl)
theorem lX7m_102 : lk xX7.2.1 102 = some (yX2_hasAll, 1, 0) := (rfl)
theorem lX7m_105 : lk xX7.2.1 105 = some (yX2_isServed, 2, 0) := (rfl)
theorem lX7m_113 : lk xX7.2.1 113 = some (yX6_isState, 1, 0) := (rfl)
theorem lX7m_122 : lk xX7.2.1 122 = some (yX7_refusalOfState, 1, 0) := (rfl)
theorem lX7m_129 : lk xX7.2.1 129 = some (yX2_allOf, 1, 0) := (rfl)
theorem lX7m_132 : lk xX7.2.1 132 = some (yX6_lastOf, 1, 0) := (rfl)
theorem lX7m_135 : lk xX7.2.1 135 = some (yX6_coreOf, 1, 0) := (rfl)
theorem lX7m_138 : lk xX7.2.1 138 = some (yX2_servingSet, 2, 0) := (rfl)
theorem lX7m_141 : lk xX7.2.1 141 = some (yJ6_numberOfTrailingZeros_0f7a4, 1, 1) := (rfl)
theorem lX7m_146 : lk xX7.2.1 146 = some (yX1_begin, 2, 0) := (rfl)
theorem lX7m_151 : lk xX7.2.1 151 = some (yX1_bestItem, 0, 0) := (rfl)
theorem lX7m_155 : lk xX7.2.1 155 = some (yX1_takeSure, 2, 0) := (rfl)
theorem lX7m_159 : lk xX7.2.1 159 = some (yX1_takeUnsure, 2, 0) := (rfl)
theorem lX7m_162 : lk xX7.2.1 162 = some (yX1_heaviest, 0, 0) := (rfl)
theorem lX7m_171 : lk xX7.2.1 171 = some (yX1_sumOfWeights, 0, 0) := (rfl)
theorem lX7m_175 : lk xX7.2.1 175 = some (yX1_fewestQuestions, 0, 0) := (rfl)
theorem lX7m_178 : lk xX7.2.1 178 = some (yX7_refusalOfWay, 2, 0) := (rfl)
theorem lX7m_181 : lk xX7.2.1 181 = some (yX4_leastCost, 2, 0) := (rfl)
theorem lX7m_184 : lk xX7.2.1 184 = some (yX4_lessonOnWay, 3, 0) := (rfl)
theorem lX7m_187 : lk xX7.2.1 187 = some (yX4_rowsTo, 1, 0) := (rfl)
theorem lX7m_190 : lk xX7.2.1 190 = some (yX3_takeLesson, 1, 0) := (rfl)
theorem lX7m_193 : lk xX7.2.1 193 = some (yX3_practise, 1, 0) := (rfl)
theorem lX7m_196 : lk xX7.2.1 196 = some (yX3_liveOneDay, 0, 0) := (rfl)
theorem lX7m_202 : lk xX7.2.1 202 = some (yX3_begin, 1, 0) := (rfl)
theorem lX7m_205 : lk xX7.2.1 205 = some (yX5_canBe, 1, 1) := (rfl)
theorem lX7m_207 : lk xX7.2.1 207 = some (yX5_canBeForm, 1, 1) := (rfl)
theorem lX7m_210 : lk xX7.2.1 210 = some (yX5_find, 1, 0) := (rfl)
theorem lX7m_213 : lk xX7.2.1 213 = some (yX5_begin, 3, 0) := (rfl)
theorem lX7m_216 : lk xX7.2.1 216 = some (yX7_refusalOfSheet, 1, 0) := (rfl)
theorem lX7m_219 : lk xX7.2.1 219 = some (yX5_drop, 1, 0) := (rfl)
theorem lX7m_222 : lk xX7.2.1 222 = some (yX7_refusalOfMark, 3, 0) := (rfl)
theorem lX7m_225 : lk xX7.2.1 225 = some (yX5_write, 3, 0) := (rfl)
theorem lX7m_229 : lk xX7.2.1 229 = some (yX5_read, 2, 0) := (rfl)
theorem lX7m_232 : lk xX7.2.1 232 = some (yX5_isLost, 1, 0) := (rfl)
theorem lX7m_238 : lk xX7.2.1 238 = some (yX5_hasRange, 3, 0) := (rfl)
theorem lX7m_241 : lk xX7.2.1 241 = some (yX5_move, 5, 0) := (rfl)
theorem lX7m_245 : lk xX7.2.1 245 = some (yX6_nearestTo, 1, 0) := (rfl)
theorem lX7m_248 : lk xX7.2.1 248 = some (yJ6_bitCount_0f7a4, 1, 1) := (rfl)
theorem lX7m_251 : lk xX7.2.1 251 = some (yX2_all, 0, 0) := (rfl)
theorem lX7m_254 : lk xX7.2.1 254 = some (yX6_baseState, 2, 0) := (rfl)
theorem lX7m_260 : lk xX7.2.1 260 = some (yX0_sumOfMisfits, 1, 0) := (rfl)
theorem lX7m_263 : lk xX7.2.1 263 = some (yX0_oddAnswers, 3, 0) := (rfl)
theorem lX7m_266 : lk xX7.2.1 266 = some (yX0_seenNeeds, 3, 0) := (rfl)
theorem lX7m_269 : lk xX7.2.1 269 = some (yX0_commonState, 1, 0) := (rfl)
theorem lX7m_272 : lk xX7.2.1 272 = some (yX5_hasMark, 2, 0) := (rfl)
theorem lX7m_275 : lk xX7.2.1 275 = some (yX0_rightIn, 2, 0) := (rfl)
theorem lX7m_278 : lk xX7.2.1 278 = some (yX1_takeAll, 1, 0) := (rfl)
theorem lX7m_304 : lk xX7.2.1 304 = some (yX7_count, 1, 0) := (rfl)
theorem lX7m_307 : lk xX7.2.1 307 = some (yX7_about, 2, 0) := (rfl)
theorem lX7m_310 : lk xX7.2.1 310 = some (yX6_chart, 0, 0) := (rfl)
theorem lX7i_228 : lk xX7.2.2.1 228 = some (-2147483648) := (rfl)
theorem lX7l_169 : lk xX7.2.2.2 169 = some (-2) := (rfl)
theorem lX7l_300 : lk xX7.2.2.2 300 = some 17 := (rfl)
theorem lX7l_302 : lk xX7.2.2.2 302 = some 31 := (rfl)
def xX8 : aX := ([(7, 8, 1, false), (13, 8, 2, false), (16, 8, 3, false), (19, 8, 4, false), (22, 8, 5, false), (25, 8, 6, false), (28, 8, 7, false), (32, 8, 9, false), (36, 8, 16, false), (39, 8, 17, false), (42, 8, 18, false), (45, 8, 19, false), (48, 8, 20, false), (51, 8, 21, false), (54, 8, 22, false), (57, 8, 23, false), (60, 8, 24, false), (63, 8, 25, false), (66, 8, 27, false), (72, 8, 0, true), (95, 8, 8, true), (105, 8, 10, true), (108, 8, 11, true), (118, 8, 12, true), (121, 8, 13, true), (124, 8, 14, true), (127, 8, 15, true), (179, 8, 26, true)], [(69, yX8_anew, 0, 0), (76, yX8_in, 3, 1), (80, yX8_has, 2, 1), (84, yX8_lessonOf, 1, 0), (88, yX8_isServed, 2, 0), (91, yX8_bottom, 0, 0), (98, yX8_isLeast, 1, 0), (102, yX8_fits, 2, 0), (111, yX8_beginTest, 0, 0), (114, yX8_beginPupil, 1, 0), (130, yX8_isItem, 1, 0), (133, yX8_isSet, 1, 0), (136, yX8_coreOf, 1, 0), (139, yX8_nextOf, 1, 0), (142, yX8_isLast, 2, 0), (145, yX8_leastOf, 1, 1), (148, yX8_leftNow, 0, 0), (151, yX8_having, 1, 0), (154, yX8_factor, 3, 0), (158, yX8_answers, 2, 0), (164, yX8_many, 1, 1), (167, yX8_hoursOf, 1, 0), (170, yX8_reckon, 1, 0), (173, yX8_goesOn, 2, 0), (176, yX8_faded, 0, 0), (182, yX8_isSheet, 1, 1), (185, yX8_meets, 1, 0), (188, yX8_lacks, 3, 0), (193, yX8_nearestOf, 1, 0), (196, yX8_isBase, 1, 0), (199, yX8_isAtom, 2, 0), (202, yX8_answersOf, 2, 0), (210, yX8_count, 1, 0), (213, yX8_about, 2, 0)], [(192, (-2147483648))], [(162, (-2)), (206, 17), (208, 31)])
set_option maxRecDepth 100000 in
theorem lkX8 : aLk vwCl RX8 xX8 := aLk_of [882, 883, 884, 885, 886, 887, 888, 890, 897, 898, 899, 900, 901, 902, 903, 904, 905, 906, 908, 881, 889, 891, 892, 893, 894, 895, 896, 907] [(846, 60, 848, 22), (971, 60, 972, 0), (870, 60, 871, 0), (858, 60, 860, 25), (866, 60, 868, 27), (850, 60, 852, 23), (854, 60, 856, 24), (862, 60, 864, 26), (873, 60, 875, 28), (877, 60, 879, 29), (978, 60, 980, 30), (994, 60, 996, 31), (1014, 60, 1016, 32), (1022, 60, 1024, 33), (1030, 60, 1032, 34), (1042, 60, 1043, 0), (1053, 60, 1055, 35), (1061, 60, 1063, 36), (1077, 60, 1079, 38), (1073, 60, 1075, 37), (1098, 60, 1099, 0), (1109, 60, 1111, 40), (1105, 60, 1107, 39), (1117, 60, 1119, 41), (1137, 60, 1139, 42), (1149, 60, 1150, 0), (1152, 60, 1154, 43), (1164, 60, 1166, 44), (1181, 60, 1183, 45), (1193, 60, 1195, 46), (1201, 60, 1203, 47), (1209, 60, 1211, 48), (1239, 60, 1230, 1231), (1240, 60, 987, 988)] [1172] [1089, 1237, 1238] rfl rfl rfl rfl (by decide +kernel) (by decide +kernel) (by decide +kernel) (by decide +kernel)
theorem lX8f_7 : lk xX8.1 7 = some (8, 1, false) := (rfl)
theorem lX8f_13 : lk xX8.1 13 = some (8, 2, false) := (rfl)
theorem lX8f_16 : lk xX8.1 16 = some (8, 3, false) := (rfl)
theorem lX8f_19 : lk xX8.1 19 = some (8, 4, false) := (rfl)
theorem lX8f_22 : lk xX8.1 22 = some (8, 5, false) := (rfl)
theorem lX8f_25 : lk xX8.1 25 = some (8, 6, false) := (rfl)
theorem lX8f_28 : lk xX8.1 28 = some (8, 7, false) := (rfl)
theorem lX8f_32 : lk xX8.1 32 = some (8, 9, false) := (rfl)
theorem lX8f_36 : lk xX8.1 36 = some (8, 16, false) := (rfl)
theorem lX8f_39 : lk xX8.1 39 = some (8, 17, false) := (rfl)
theorem lX8f_42 : lk xX8.1 42 = some (8, 18, false) := (rfl)
theorem lX8f_45 : lk xX8.1 45 = some (8, 19, false) := (rfl)
theorem lX8f_48 : lk xX8.1 48 = some (8, 20, false) := (rfl)
theorem lX8f_51 : lk xX8.1 51 = some (8, 21, false) := (rfl)
theorem lX8f_54 : lk xX8.1 54 = some (8, 22, false) := (rfl)
theorem lX8f_57 : lk xX8.1 57 = some (8, 23, false) := (rfl)
theorem lX8f_60 : lk xX8.1 60 = some (8, 24, false) := (rfl)
theorem lX8f_63 : lk xX8.1 63 = some (8, 25, false) := (rfl)
theorem lX8f_66 : lk xX8.1 66 = some (8, 27, false) := (rfl)
theorem lX8f_72 : lk xX8.1 72 = some (8, 0, true) := (rfl)
theorem lX8f_95 : lk xX8.1 95 = some (8, 8, true) := (rfl)
theorem lX8f_105 : lk xX8.1 105 = some (8, 10, true) := (rfl)
theorem lX8f_108 : lk xX8.1 108 = some (8, 11, true) := (rfl)
theorem lX8f_118 : lk xX8.1 118 = some (8, 12, true) := (rfl)
theorem lX8f_121 : lk xX8.1 121 = some (8, 13, true) := (rfl)
theorem lX8f_124 : lk xX8.1 124 = some (8, 14, true) := (rfl)
theorem lX8f_127 : lk xX8.1 127 = some (8, 15, true) := (rfl)
theorem lX8f_179 : lk xX8.1 179 = some (8, 26, true) := (rfl)
theorem lX8m_69 : lk xX8.2.1 69 = some (yX8_anew, 0, 0) := (rfl)
theorem lX8m_76 : lk xX8.2.1 76 = some (yX8_in, 3, 1) := (rfl)
theorem lX8m_80 : lk xX8.2.1 80 = some (yX8_has, 2, 1) := (rfl)
theorem lX8m_84 : lk xX8.2.1 84 = some (yX8_lessonOf, 1, 0) := (rfl)
theorem lX8m_88 : lk xX8.2.1 88 = some (yX8_isServed, 2, 0) := (rfl)
theorem lX8m_91 : lk xX8.2.1 91 = some (yX8_bottom, 0, 0) := (rfl)
theorem lX8m_98 : lk xX8.2.1 98 = some (yX8_isLeast, 1, 0) := (rfl)
theorem lX8m_102 : lk xX8.2.1 102 = some (yX8_fits, 2, 0) := (rfl)
theorem lX8m_111 : lk xX8.2.1 111 = some (yX8_beginTest, 0, 0) := (rfl)
theorem lX8m_114 : lk xX8.2.1 114 = some (yX8_beginPupil, 1, 0) := (rfl)
theorem lX8m_130 : lk xX8.2.1 130 = some (yX8_isItem, 1, 0) := (rfl)
theorem lX8m_133 : lk xX8.2.1 133 = some (yX8_isSet, 1, 0) := (rfl)
theorem lX8m_136 : lk xX8.2.1 136 = some (yX8_coreOf, 1, 0) := (rfl)
theorem lX8m_139 : lk xX8.2.1 139 = some (yX8_nextOf, 1, 0) := (rfl)
theorem lX8m_142 : lk xX8.2.1 142 = some (yX8_isLast, 2, 0) := (rfl)
theorem lX8m_145 : lk xX8.2.1 145 = some (yX8_leastOf, 1, 1) := (rfl)
theorem lX8m_148 : lk xX8.2.1 148 = some (yX8_leftNow, 0, 0) := (rfl)
theorem lX8m_151 : lk xX8.2.1 151 = some (yX8_having, 1, 0) := (rfl)
theorem lX8m_154 : lk xX8.2.1 154 = some (yX8_factor, 3, 0) := (rfl)
theorem lX8m_158 : lk xX8.2.1 158 = some (yX8_answers, 2, 0) := (rfl)
theorem lX8m_164 : lk xX8.2.1 164 = some (yX8_many, 1, 1) := (rfl)
theorem lX8m_167 : lk xX8.2.1 167 = some (yX8_hoursOf, 1, 0) := (rfl)
theorem lX8m_170 : lk xX8.2.1 170 = some (yX8_reckon, 1, 0) := (rfl)
theorem lX8m_173 : lk xX8.2.1 173 = some (yX8_goesOn, 2, 0) := (rfl)
theorem lX8m_176 : lk xX8.2.1 176 = some (yX8_faded, 0, 0) := (rfl)
theorem lX8m_182 : lk xX8.2.1 182 = some (yX8_isSheet, 1, 1) := (rfl)
theorem lX8m_185 : lk xX8.2.1 185 = some (yX8_meets, 1, 0) := (rfl)
theorem lX8m_188 : lk xX8.2.1 188 = some (yX8_lacks, 3, 0) := (rfl)
theorem lX8m_193 : lk xX8.2.1 193 = some (yX8_nearestOf, 1, 0) := (rfl)
theorem lX8m_196 : lk xX8.2.1 196 = some (yX8_isBase, 1, 0) := (rfl)
theorem lX8m_199 : lk xX8.2.1 199 = some (yX8_isAtom, 2, 0) := (rfl)
theorem lX8m_202 : lk xX8.2.1 202 = some (yX8_answersOf, 2, 0) := (rfl)
theorem lX8m_210 : lk xX8.2.1 210 = some (yX8_count, 1, 0) := (rfl)
theorem lX8m_213 : lk xX8.2.1 213 = some (yX8_about, 2, 0) := (rfl)
theorem lX8i_192 : lk xX8.2.2.1 192 = some (-2147483648) := (rfl)
theorem lX8l_162 : lk xX8.2.2.2 162 = some (-2) := (rfl)
theorem lX8l_206 : lk xX8.2.2.2 206 = some 17 := (rfl)
theorem lX8l_208 : lk xX8.2.2.2 208 = some 31 := (rfl)
def xJ6 : aX := ([], [], [(264, 65536), (265, 1431655765), (266, 858993459), (267, 252645135)], [])
set_option maxRecDepth 100000 in
theorem lkJ6 : aLk vwCl RJ6 xJ6 := aLk_of [] [] [486, 575, 576, 577] [] rfl rfl rfl rfl (by decide +kernel) (by decide +kernel) (by decide +kernel) (by decide +kernel)
theorem lJ6i_264 : lk xJ6.2.2.1 264 = some 65536 := (rfl)
theorem lJ6i_265 : lk xJ6.2.2.1 265 = some 1431655765 := (rfl)
theorem lJ6i_266 : lk xJ6.2.2.1 266 = some 858993459 := (rfl)
theorem lJ6i_267 : lk xJ6.2.2.1 267 = some 252645135 := (rfl)
def xJ9 : aX := ([], [], [], [])
set_option maxRecDepth 100000 in
theorem lkJ9 : aLk vwCl RJ9 xJ9 := aLk_of [] [] [] [] rfl rfl rfl rfl (by decide +kernel) (by decide +kernel) (by decide +kernel) (by decide +kernel)
def xJ7 : aX := ([], [], [], [])
set_option maxRecDepth 100000 in
theorem lkJ7 : aLk vwCl RJ7 xJ7 := aLk_of [] [] [] [] rfl rfl rfl rfl (by decide +kernel) (by decide +kernel) (by decide +kernel) (by decide +kernel)
theorem rcX0_rightIn : rcv wC vwCl 7 yX0_rightIn = true := by decide +kernel
theorem rcX0_sumOfMisfits : rcv wC vwCl 7 yX0_sumOfMisfits = true := by decide +kernel
theorem rcX0_oddAnswers : rcv wC vwCl 7 yX0_oddAnswers = true := by decide +kernel
theorem rcX0_seenNeeds : rcv wC vwCl 7 yX0_seenNeeds = true := by decide +kernel
theorem rcX0_countAgainst : rcv wC vwCl 7 yX0_countAgainst = true := by decide +kernel
theorem rcX0_commonState : rcv wC vwCl 7 yX0_commonState = true := by decide +kernel
theorem rcX0_countNearest : rcv wC vwCl 7 yX0_countNearest = true := by decide +kernel
theorem rcX1_begin : rcv wC vwCl 4 yX1_begin = true := by decide +kernel
theorem rcX1_leftWith : rcv wC vwCl 4 yX1_leftWith = true := by decide +kernel
theorem rcX1_bestItem : rcv wC vwCl 4 yX1_bestItem = true := by decide +kernel
theorem rcX1_takeSure : rcv wC vwCl 4 yX1_takeSure = true := by decide +kernel
theorem rcX1_takeUnsure : rcv wC vwCl 4 yX1_takeUnsure = true := by decide +kernel
theorem rcX1_weigh : rcv wC vwCl 4 yX1_weigh = true := by decide +kernel
theorem rcX1_takeAll : rcv wC vwCl 4 yX1_takeAll = true := by decide +kernel
theorem rcX1_heaviest : rcv wC vwCl 4 yX1_heaviest = true := by decide +kernel
theorem rcX1_sumOfWeights : rcv wC vwCl 4 yX1_sumOfWeights = true := by decide +kernel
theorem rcX1_fewestQuestions : rcv wC vwCl 4 yX1_fewestQuestions = true := by decide +kernel
theorem rcX1_gatherFamily : rcv wC vwCl 4 yX1_gatherFamily = true := by decide +kernel
theorem rcX1_markHaving : rcv wC vwCl 4 yX1_markHaving = true := by decide +kernel
theorem rcX1_fewestFor : rcv wC vwCl 4 yX1_fewestFor = true := by decide +kernel
theorem rcX2_canBeSet : rcv wC vwCl 1 yX2_canBeSet = true := by decide +kernel
theorem rcX2_canBe : rcv wC vwCl 1 yX2_canBe = true := by decide +kernel
theorem rcX2_has : rcv wC vwCl 1 yX2_has = true := by decide +kernel
theorem rcX2_hasAll : rcv wC vwCl 1 yX2_hasAll = true := by decide +kernel
theorem rcX2_all : rcv wC vwCl 1 yX2_all = true := by decide +kernel
theorem rcX2_add : rcv wC vwCl 1 yX2_add = true := by decide +kernel
theorem rcX2_addOther : rcv wC vwCl 1 yX2_addOther = true := by decide +kernel
theorem rcX2_gatherGroup : rcv wC vwCl 1 yX2_gatherGroup = true := by decide +kernel
theorem rcX2_isInGroup : rcv wC vwCl 1 yX2_isInGroup = true := by decide +kernel
theorem rcX2_leads : rcv wC vwCl 1 yX2_leads = true := by decide +kernel
theorem rcX2_allOf : rcv wC vwCl 1 yX2_allOf = true := by decide +kernel
theorem rcX2_ofKind : rcv wC vwCl 1 yX2_ofKind = true := by decide +kernel
theorem rcX2_servingSet : rcv wC vwCl 1 yX2_servingSet = true := by decide +kernel
theorem rcX2_isServed : rcv wC vwCl 1 yX2_isServed = true := by decide +kernel
theorem rcX2_fits : rcv wC vwCl 1 yX2_fits = true := by decide +kernel
theorem rcX2_hoursOf : rcv wC vwCl 1 yX2_hoursOf = true := by decide +kernel
theorem rcX3_begin : rcv wC vwCl 5 yX3_begin = true := by decide +kernel
theorem rcX3_takeLesson : rcv wC vwCl 5 yX3_takeLesson = true := by decide +kernel
theorem rcX3_practise : rcv wC vwCl 5 yX3_practise = true := by decide +kernel
theorem rcX3_liveOneDay : rcv wC vwCl 5 yX3_liveOneDay = true := by decide +kernel
theorem rcX3_forgottenNow : rcv wC vwCl 5 yX3_forgottenNow = true := by decide +kernel
theorem rcX4_leastCost : rcv wC vwCl 3 yX4_leastCost = true := by decide +kernel
theorem rcX4_lessonOnWay : rcv wC vwCl 3 yX4_lessonOnWay = true := by decide +kernel
theorem rcX4_rowsTo : rcv wC vwCl 3 yX4_rowsTo = true := by decide +kernel
theorem rcX4_sumCosts : rcv wC vwCl 3 yX4_sumCosts = true := by decide +kernel
theorem rcX4_leastThroughNext : rcv wC vwCl 3 yX4_leastThroughNext = true := by decide +kernel
theorem rcX4_costThrough : rcv wC vwCl 3 yX4_costThrough = true := by decide +kernel
theorem rcX4_firstStep : rcv wC vwCl 3 yX4_firstStep = true := by decide +kernel
theorem rcX5_canBe : rcv wC vwCl 6 yX5_canBe = true := by decide +kernel
theorem rcX5_canBeForm : rcv wC vwCl 6 yX5_canBeForm = true := by decide +kernel
theorem rcX5_find : rcv wC vwCl 6 yX5_find = true := by decide +kernel
theorem rcX5_isLost : rcv wC vwCl 6 yX5_isLost = true := by decide +kernel
theorem rcX5_hasMark : rcv wC vwCl 6 yX5_hasMark = true := by decide +kernel
theorem rcX5_hasRange : rcv wC vwCl 6 yX5_hasRange = true := by decide +kernel
theorem rcX5_begin : rcv wC vwCl 6 yX5_begin = true := by decide +kernel
theorem rcX5_drop : rcv wC vwCl 6 yX5_drop = true := by decide +kernel
theorem rcX5_read : rcv wC vwCl 6 yX5_read = true := by decide +kernel
theorem rcX5_write : rcv wC vwCl 6 yX5_write = true := by decide +kernel
theorem rcX5_move : rcv wC vwCl 6 yX5_move = true := by decide +kernel
theorem rcX6_chart : rcv wC vwCl 2 yX6_chart = true := by decide +kernel
theorem rcX6_enter : rcv wC vwCl 2 yX6_enter = true := by decide +kernel
theorem rcX6_measure : rcv wC vwCl 2 yX6_measure = true := by decide +kernel
theorem rcX6_compare : rcv wC vwCl 2 yX6_compare = true := by decide +kernel
theorem rcX6_isState : rcv wC vwCl 2 yX6_isState = true := by decide +kernel
theorem rcX6_isNext : rcv wC vwCl 2 yX6_isNext = true := by decide +kernel
theorem rcX6_lastOf : rcv wC vwCl 2 yX6_lastOf = true := by decide +kernel
theorem rcX6_coreOf : rcv wC vwCl 2 yX6_coreOf = true := by decide +kernel
theorem rcX6_nearestTo : rcv wC vwCl 2 yX6_nearestTo = true := by decide +kernel
theorem rcX6_farFromNearest : rcv wC vwCl 2 yX6_farFromNearest = true := by decide +kernel
theorem rcX6_baseState : rcv wC vwCl 2 yX6_baseState = true := by decide +kernel
theorem rcX7_item : rcv wC vwCl 0 yX7_item = true := by decide +kernel
theorem rcX7_other : rcv wC vwCl 0 yX7_other = true := by decide +kernel
theorem rcX7_hours : rcv wC vwCl 0 yX7_hours = true := by decide +kernel
theorem rcX7_about : rcv wC vwCl 0 yX7_about = true := by decide +kernel
theorem rcX7_served : rcv wC vwCl 0 yX7_served = true := by decide +kernel
theorem rcX7_states : rcv wC vwCl 0 yX7_states = true := by decide +kernel
theorem rcX7_state : rcv wC vwCl 0 yX7_state = true := by decide +kernel
theorem rcX7_at : rcv wC vwCl 0 yX7_at = true := by decide +kernel
theorem rcX7_top : rcv wC vwCl 0 yX7_top = true := by decide +kernel
theorem rcX7_next : rcv wC vwCl 0 yX7_next = true := by decide +kernel
theorem rcX7_last : rcv wC vwCl 0 yX7_last = true := by decide +kernel
theorem rcX7_core : rcv wC vwCl 0 yX7_core = true := by decide +kernel
theorem rcX7_reason : rcv wC vwCl 0 yX7_reason = true := by decide +kernel
theorem rcX7_test : rcv wC vwCl 0 yX7_test = true := by decide +kernel
theorem rcX7_left : rcv wC vwCl 0 yX7_left = true := by decide +kernel
theorem rcX7_ask : rcv wC vwCl 0 yX7_ask = true := by decide +kernel
theorem rcX7_answer : rcv wC vwCl 0 yX7_answer = true := by decide +kernel
theorem rcX7_unsure : rcv wC vwCl 0 yX7_unsure = true := by decide +kernel
theorem rcX7_likely : rcv wC vwCl 0 yX7_likely = true := by decide +kernel
theorem rcX7_weight : rcv wC vwCl 0 yX7_weight = true := by decide +kernel
theorem rcX7_weights : rcv wC vwCl 0 yX7_weights = true := by decide +kernel
theorem rcX7_worst : rcv wC vwCl 0 yX7_worst = true := by decide +kernel
theorem rcX7_cost : rcv wC vwCl 0 yX7_cost = true := by decide +kernel
theorem rcX7_way : rcv wC vwCl 0 yX7_way = true := by decide +kernel
theorem rcX7_ways : rcv wC vwCl 0 yX7_ways = true := by decide +kernel
theorem rcX7_learn : rcv wC vwCl 0 yX7_learn = true := by decide +kernel
theorem rcX7_use : rcv wC vwCl 0 yX7_use = true := by decide +kernel
theorem rcX7_pass : rcv wC vwCl 0 yX7_pass = true := by decide +kernel
theorem rcX7_pupil : rcv wC vwCl 0 yX7_pupil = true := by decide +kernel
theorem rcX7_sheet : rcv wC vwCl 0 yX7_sheet = true := by decide +kernel
theorem rcX7_lose : rcv wC vwCl 0 yX7_lose = true := by decide +kernel
theorem rcX7_put : rcv wC vwCl 0 yX7_put = true := by decide +kernel
theorem rcX7_get : rcv wC vwCl 0 yX7_get = true := by decide +kernel
theorem rcX7_copy : rcv wC vwCl 0 yX7_copy = true := by decide +kernel
theorem rcX7_nearest : rcv wC vwCl 0 yX7_nearest = true := by decide +kernel
theorem rcX7_far : rcv wC vwCl 0 yX7_far = true := by decide +kernel
theorem rcX7_base : rcv wC vwCl 0 yX7_base = true := by decide +kernel
theorem rcX7_atom : rcv wC vwCl 0 yX7_atom = true := by decide +kernel
theorem rcX7_misfit : rcv wC vwCl 0 yX7_misfit = true := by decide +kernel
theorem rcX7_odd : rcv wC vwCl 0 yX7_odd = true := by decide +kernel
theorem rcX7_seen : rcv wC vwCl 0 yX7_seen = true := by decide +kernel
theorem rcX7_common : rcv wC vwCl 0 yX7_common = true := by decide +kernel
theorem rcX7_judge : rcv wC vwCl 0 yX7_judge = true := by decide +kernel
theorem rcX7_count : rcv wC vwCl 0 yX7_count = true := by decide +kernel
theorem rcX7_digest : rcv wC vwCl 0 yX7_digest = true := by decide +kernel
theorem rcX7_beginAnew : rcv wC vwCl 0 yX7_beginAnew = true := by decide +kernel
theorem rcX7_refusalOfState : rcv wC vwCl 0 yX7_refusalOfState = true := by decide +kernel
theorem rcX7_refusalOfWay : rcv wC vwCl 0 yX7_refusalOfWay = true := by decide +kernel
theorem rcX7_refusalOfSheet : rcv wC vwCl 0 yX7_refusalOfSheet = true := by decide +kernel
theorem rcX7_refusalOfMark : rcv wC vwCl 0 yX7_refusalOfMark = true := by decide +kernel
theorem rcX8_in : rcv wM vwCl 0 yX8_in = true := by decide +kernel
theorem rcX8_has : rcv wM vwCl 0 yX8_has = true := by decide +kernel
theorem rcX8_many : rcv wM vwCl 0 yX8_many = true := by decide +kernel
theorem rcX8_isItem : rcv wM vwCl 0 yX8_isItem = true := by decide +kernel
theorem rcX8_isSet : rcv wM vwCl 0 yX8_isSet = true := by decide +kernel
theorem rcX8_isServed : rcv wM vwCl 0 yX8_isServed = true := by decide +kernel
theorem rcX8_lessonOf : rcv wM vwCl 0 yX8_lessonOf = true := by decide +kernel
theorem rcX8_isLeast : rcv wM vwCl 0 yX8_isLeast = true := by decide +kernel
theorem rcX8_fits : rcv wM vwCl 0 yX8_fits = true := by decide +kernel
theorem rcX8_bottom : rcv wM vwCl 0 yX8_bottom = true := by decide +kernel
theorem rcX8_anew : rcv wM vwCl 0 yX8_anew = true := by decide +kernel
theorem rcX8_beginTest : rcv wM vwCl 0 yX8_beginTest = true := by decide +kernel
theorem rcX8_beginPupil : rcv wM vwCl 0 yX8_beginPupil = true := by decide +kernel
theorem rcX8_item : rcv wM vwCl 0 yX8_item = true := by decide +kernel
theorem rcX8_other : rcv wM vwCl 0 yX8_other = true := by decide +kernel
theorem rcX8_hours : rcv wM vwCl 0 yX8_hours = true := by decide +kernel
theorem rcX8_about : rcv wM vwCl 0 yX8_about = true := by decide +kernel
theorem rcX8_served : rcv wM vwCl 0 yX8_served = true := by decide +kernel
theorem rcX8_states : rcv wM vwCl 0 yX8_states = true := by decide +kernel
theorem rcX8_state : rcv wM vwCl 0 yX8_state = true := by decide +kernel
theorem rcX8_at : rcv wM vwCl 0 yX8_at = true := by decide +kernel
theorem rcX8_coreOf : rcv wM vwCl 0 yX8_coreOf = true := by decide +kernel
theorem rcX8_top : rcv wM vwCl 0 yX8_top = true := by decide +kernel
theorem rcX8_nextOf : rcv wM vwCl 0 yX8_nextOf = true := by decide +kernel
theorem rcX8_next : rcv wM vwCl 0 yX8_next = true := by decide +kernel
theorem rcX8_isLast : rcv wM vwCl 0 yX8_isLast = true := by decide +kernel
theorem rcX8_last : rcv wM vwCl 0 yX8_last = true := by decide +kernel
theorem rcX8_core : rcv wM vwCl 0 yX8_core = true := by decide +kernel
theorem rcX8_leastOf : rcv wM vwCl 0 yX8_leastOf = true := by decide +kernel
theorem rcX8_reason : rcv wM vwCl 0 yX8_reason = true := by decide +kernel
theorem rcX8_leftNow : rcv wM vwCl 0 yX8_leftNow = true := by decide +kernel
theorem rcX8_test : rcv wM vwCl 0 yX8_test = true := by decide +kernel
theorem rcX8_left : rcv wM vwCl 0 yX8_left = true := by decide +kernel
theorem rcX8_having : rcv wM vwCl 0 yX8_having = true := by decide +kernel
theorem rcX8_ask : rcv wM vwCl 0 yX8_ask = true := by decide +kernel
theorem rcX8_answer : rcv wM vwCl 0 yX8_answer = true := by decide +kernel
theorem rcX8_factor : rcv wM vwCl 0 yX8_factor = true := by decide +kernel
theorem rcX8_answers : rcv wM vwCl 0 yX8_answers = true := by decide +kernel
theorem rcX8_unsure : rcv wM vwCl 0 yX8_unsure = true := by decide +kernel
theorem rcX8_likely : rcv wM vwCl 0 yX8_likely = true := by decide +kernel
theorem rcX8_weight : rcv wM vwCl 0 yX8_weight = true := by decide +kernel
theorem rcX8_weights : rcv wM vwCl 0 yX8_weights = true := by decide +kernel
theorem rcX8_worst : rcv wM vwCl 0 yX8_worst = true := by decide +kernel
theorem rcX8_hoursOf : rcv wM vwCl 0 yX8_hoursOf = true := by decide +kernel
theorem rcX8_reckon : rcv wM vwCl 0 yX8_reckon = true := by decide +kernel
theorem rcX8_cost : rcv wM vwCl 0 yX8_cost = true := by decide +kernel
theorem rcX8_goesOn : rcv wM vwCl 0 yX8_goesOn = true := by decide +kernel
theorem rcX8_way : rcv wM vwCl 0 yX8_way = true := by decide +kernel
theorem rcX8_ways : rcv wM vwCl 0 yX8_ways = true := by decide +kernel
theorem rcX8_learn : rcv wM vwCl 0 yX8_learn = true := by decide +kernel
theorem rcX8_use : rcv wM vwCl 0 yX8_use = true := by decide +kernel
theorem rcX8_faded : rcv wM vwCl 0 yX8_faded = true := by decide +kernel
theorem rcX8_pass : rcv wM vwCl 0 yX8_pass = true := by decide +kernel
theorem rcX8_pupil : rcv wM vwCl 0 yX8_pupil = true := by decide +kernel
theorem rcX8_meets : rcv wM vwCl 0 yX8_meets = true := by decide +kernel
theorem rcX8_isSheet : rcv wM vwCl 0 yX8_isSheet = true := by decide +kernel
theorem rcX8_sheet : rcv wM vwCl 0 yX8_sheet = true := by decide +kernel
theorem rcX8_lose : rcv wM vwCl 0 yX8_lose = true := by decide +kernel
theorem rcX8_lacks : rcv wM vwCl 0 yX8_lacks = true := by decide +kernel
theorem rcX8_put : rcv wM vwCl 0 yX8_put = true := by decide +kernel
theorem rcX8_get : rcv wM vwCl 0 yX8_get = true := by decide +kernel
theorem rcX8_copy : rcv wM vwCl 0 yX8_copy = true := by decide +kernel
theorem rcX8_answersOf : rcv wM vwCl 0 yX8_answersOf = true := by decide +kernel
theorem rcX8_nearestOf : rcv wM vwCl 0 yX8_nearestOf = true := by decide +kernel
theorem rcX8_nearest : rcv wM vwCl 0 yX8_nearest = true := by decide +kernel
theorem rcX8_far : rcv wM vwCl 0 yX8_far = true := by decide +kernel
theorem rcX8_isBase : rcv wM vwCl 0 yX8_isBase = true := by decide +kernel
theorem rcX8_base : rcv wM vwCl 0 yX8_base = true := by decide +kernel
theorem rcX8_isAtom : rcv wM vwCl 0 yX8_isAtom = true := by decide +kernel
theorem rcX8_atom : rcv wM vwCl 0 yX8_atom = true := by decide +kernel
theorem rcX8_misfit : rcv wM vwCl 0 yX8_misfit = true := by decide +kernel
theorem rcX8_odd : rcv wM vwCl 0 yX8_odd = true := by decide +kernel
theorem rcX8_seen : rcv wM vwCl 0 yX8_seen = true := by decide +kernel
theorem rcX8_common : rcv wM vwCl 0 yX8_common = true := by decide +kernel
theorem rcX8_judge : rcv wM vwCl 0 yX8_judge = true := by decide +kernel
theorem rcX8_count : rcv wM vwCl 0 yX8_count = true := by decide +kernel
theorem rcX8_digest : rcv wM vwCl 0 yX8_digest = true := by decide +kernel
