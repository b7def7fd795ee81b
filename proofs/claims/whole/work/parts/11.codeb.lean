def kX7_item_0 : List (Nat × Instr × Nat) := [(0, .iload_n 1, 0), (1, .iload_n 2, 0), (2, .iload_n 3, 0), (3, .invokestatic 67, 0), (6, .ifCond .ne 6, 12), (9, .bipush (-2), 0), (11, .ireturn, 0)]
def kX7_item_12 : List (Nat × Instr × Nat) := [(12, .aload_n 0, 0), (13, .getfield 12, 0), (16, .iload_n 1, 0), (17, .iload_n 2, 0), (18, .iload_n 3, 0), (19, .invokevirtual 71, 0), (22, .istore 4, 0), (24, .iload 4, 0), (26, .bipush (-3), 0), (28, .if_icmp .eq 7, 35), (31, .aload_n 0, 0), (32, .invokevirtual 64, 0)]
def kX7_item_35 : List (Nat × Instr × Nat) := [(35, .iload 4, 0), (37, .ireturn, 0)]
def cdX7_item : aCd := ([], [(0, 12, kX7_item_0), (12, 35, kX7_item_12), (35, 38, kX7_item_35)])
set_option maxRecDepth 100000 in
theorem okX7_item : okC cX7_item cdX7_item = true := by decide +kernel
theorem wX7_item : Cond.code yX7_item cX7_item 5 (rty 0) ∈ aT := aT_of 380 (by decide +kernel) (by decide +kernel)
theorem gX7_item_0 {w : List aE} {cl : List vw_C} {x : aX} {S : aS} {Q : Option Value → aH → Prop} {rk n : Nat} {J : Nat → List Value → List Value → aH → Prop} {ls st : List Value} {h : aH} : go w cl x S Q rk cdX7_item J n 0 ls st h = blk w cl x S Q rk 12 (jm w cl x S Q rk cdX7_item J n) kX7_item_0 ls st h := (rfl)
theorem jX7_item_12 {w : List aE} {cl : List vw_C} {x : aX} {S : aS} {Q : Option Value → aH → Prop} {rk n : Nat} {J : Nat → List Value → List Value → aH → Prop} {ls st : List Value} {h : aH} : jm w cl x S Q rk cdX7_item J (n + 1) 12 ls st h = blk w cl x S Q rk 35 (jm w cl x S Q rk cdX7_item J n) kX7_item_12 ls st h := (rfl)
theorem jX7_item_35 {w : List aE} {cl : List vw_C} {x : aX} {S : aS} {Q : Option Value → aH → Prop} {rk n : Nat} {J : Nat → List Value → List Value → aH → Prop} {ls st : List Value} {h : aH} : jm w cl x S Q rk cdX7_item J (n + 1) 35 ls st h = blk w cl x S Q rk 38 (jm w cl x S Q rk cdX7_item J n) kX7_item_35 ls st h := (rfl)
def kX7_other_0 : List (Nat × Instr × Nat) := [(0, .aload_n 0, 0), (1, .getfield 12, 0), (4, .iload_n 1, 0), (5, .invokevirtual 75, 0), (8, .ifCond .eq 23, 31), (11, .aload_n 0, 0), (12, .getfield 12, 0), (15, .getfield 79, 0), (18, .iload_n 1, 0), (19, .iaload, 0), (20, .iconst 1, 0), (21, .if_icmp .ne 10, 31), (24, .iload_n 2, 0), (25, .invokestatic 83, 0), (28, .ifCond .ne 6, 34)]
def kX7_other_31 : List (Nat × Instr × Nat) := [(31, .bipush (-2), 0), (33, .ireturn, 0)]
def kX7_other_34 : List (Nat × Instr × Nat) := [(34, .aload_n 0, 0), (35, .getfield 12, 0), (38, .iload_n 1, 0), (39, .iload_n 2, 0), (40, .invokevirtual 86, 0), (43, .istore_n 3, 0), (44, .iload_n 3, 0), (45, .bipush (-3), 0), (47, .if_icmp .eq 7, 54), (50, .aload_n 0, 0), (51, .invokevirtual 64, 0)]
def kX7_other_54 : List (Nat × Instr × Nat) := [(54, .iload_n 3, 0), (55, .ireturn, 0)]
def cdX7_other : aCd := ([], [(0, 31, kX7_other_0), (31, 34, kX7_other_31), (34, 54, kX7_other_34), (54, 56, kX7_other_54)])
set_option maxRecDepth 100000 in
theorem okX7_other : okC cX7_other cdX7_other = true := by decide +kernel
theorem wX7_other : Cond.code yX7_other cX7_other 4 (rty 0) ∈ aT := aT_of 402 (by decide +kernel) (by decide +kernel)
theorem gX7_other_0 {w : List aE} {cl : List vw_C} {x : aX} {S : aS} {Q : Option Value → aH → Prop} {rk n : Nat} {J : Nat → List Value → List Value → aH → Prop} {ls st : List Value} {h : aH} : go w cl x S Q rk cdX7_other J n 0 ls st h = blk w cl x S Q rk 31 (jm w cl x S Q rk cdX7_other J n) kX7_other_0 ls st h := (rfl)
theorem jX7_other_31 {w : List aE} {cl : List vw_C} {x : aX} {S : aS} {Q : Option Value → aH → Prop} {rk n : Nat} {J : Nat → List Value → List Value → aH → Prop} {ls st : List Value} {h : aH} : jm w cl x S Q rk cdX7_other J (n + 1) 31 ls st h = blk w cl x S Q rk 34 (jm w cl x S Q rk cdX7_other J n) kX7_other_31 ls st h := (rfl)
theorem jX7_other_34 {w : List aE} {cl : List vw_C} {x : aX} {S : aS} {Q : Option Value → aH → Prop} {rk n : Nat} {J : Nat → List Value → List Value → aH → Prop} {ls st : List Value} {h : aH} : jm w cl x S Q rk cdX7_other J (n + 1) 34 ls st h = blk w cl x S Q rk 54 (jm w cl x S Q rk cdX7_other J n) kX7_other_34 ls st h := (rfl)
theorem jX7_other_54 {w : List aE} {cl : List vw_C} {x : aX} {S : aS} {Q : Option Value → aH → Prop} {rk n : Nat} {J : Nat → List Value → List Value → aH → Prop} {ls st : List Value} {h : aH} : jm w cl x S Q rk cdX7_other J (n + 1) 54 ls st h = blk w cl x S Q rk 56 (jm w cl x S Q rk cdX7_other J n) kX7_other_54 ls st h := (rfl)
def kX7_hours_0 : List (Nat × Instr × Nat) := [(0, .aload_n 0, 0), (1, .getfield 12, 0), (4, .iload_n 1, 0), (5, .invokevirtual 75, 0), (8, .ifCond .eq 14, 22), (11, .iload_n 2, 0), (12, .iconst 1, 0), (13, .if_icmp .lt 9, 22), (16, .iload_n 2, 0), (17, .bipush 100, 0), (19, .if_icmp .le 6, 25)]
def kX7_hours_22 : List (Nat × Instr × Nat) := [(22, .bipush (-2), 0), (24, .ireturn, 0)]
def kX7_hours_25 : List (Nat × Instr × Nat) := [(25, .aload_n 0, 0), (26, .getfield 12, 0), (29, .getfield 90, 0), (32, .iload_n 1, 0), (33, .iaload, 0), (34, .istore_n 3, 0), (35, .aload_n 0, 0), (36, .getfield 12, 0), (39, .getfield 90, 0), (42, .iload_n 1, 0), (43, .iload_n 2, 0), (44, .iastore, 0), (45, .iload_n 3, 0), (46, .ireturn, 0)]
def cdX7_hours : aCd := ([], [(0, 22, kX7_hours_0), (22, 25, kX7_hours_22), (25, 47, kX7_hours_25)])
set_option maxRecDepth 100000 in
theorem okX7_hours : okC cX7_hours cdX7_hours = true := by decide +kernel
theorem wX7_hours : Cond.code yX7_hours cX7_hours 4 (rty 0) ∈ aT := aT_of 415 (by decide +kernel) (by decide +kernel)
theorem gX7_hours_0 {w : List aE} {cl : List vw_C} {x : aX} {S : aS} {Q : Option Value → aH → Prop} {rk n : Nat} {J : Nat → List Value → List Value → aH → Prop} {ls st : List Value} {h : aH} : go w cl x S Q rk cdX7_hours J n 0 ls st h = blk w cl x S Q rk 22 (jm w cl x S Q rk cdX7_hours J n) kX7_hours_0 ls st h := (rfl)
theorem jX7_hours_22 {w : List aE} {cl : List vw_C} {x : aX} {S : aS} {Q : Option Value → aH → Prop} {rk n : Nat} {J : Nat → List Value → List Value → aH → Prop} {ls st : List Value} {h : aH} : jm w cl x S Q rk cdX7_hours J (n + 1) 22 ls st h = blk w cl x S Q rk 25 (jm w cl x S Q rk cdX7_hours J n) kX7_hours_22 ls st h := (rfl)
theorem jX7_hours_25 {w : List aE} {cl : List vw_C} {x : aX} {S : aS} {Q : Option Value → aH → Prop} {rk n : Nat} {J : Nat → List Value → List Value → aH → Prop} {ls st : List Value} {h : aH} : jm w cl x S Q rk cdX7_hours J (n + 1) 25 ls st h = blk w cl x S Q rk 47 (jm w cl x S Q rk cdX7_hours J n) kX7_hours_25 ls st h := (rfl)
def kX7_about_0 : List (Nat × Instr × Nat) := [(0, .aload_n 0, 0), (1, .getfield 12, 0), (4, .iload_n 1, 0), (5, .invokevirtual 75, 0), (8, .ifCond .ne 6, 14), (11, .bipush (-2), 0), (13, .ireturn, 0)]
def kX7_about_14 : List (Nat × Instr × Nat) := [(14, .iload_n 2, 0), (15, .tableswitch 83 0 4 #[33, 43, 53, 63, 73], 0)]
def kX7_about_48 : List (Nat × Instr × Nat) := [(48, .aload_n 0, 0), (49, .getfield 12, 0), (52, .getfield 79, 0), (55, .iload_n 1, 0), (56, .iaload, 0), (57, .ireturn, 0)]
def kX7_about_58 : List (Nat × Instr × Nat) := [(58, .aload_n 0, 0), (59, .getfield 12, 0), (62, .getfield 93, 0), (65, .iload_n 1, 0), (66, .iaload, 0), (67, .ireturn, 0)]
def kX7_about_68 : List (Nat × Instr × Nat) := [(68, .aload_n 0, 0), (69, .getfield 12, 0), (72, .getfield 96, 0), (75, .iload_n 1, 0), (76, .iaload, 0), (77, .ireturn, 0)]
def kX7_about_78 : List (Nat × Instr × Nat) := [(78, .aload_n 0, 0), (79, .getfield 12, 0), (82, .getfield 99, 0), (85, .iload_n 1, 0), (86, .iaload, 0), (87, .ireturn, 0)]
def kX7_about_88 : List (Nat × Instr × Nat) := [(88, .aload_n 0, 0), (89, .getfield 12, 0), (92, .getfield 90, 0), (95, .iload_n 1, 0), (96, .iaload, 0), (97, .ireturn, 0)]
def kX7_about_98 : List (Nat × Instr × Nat) := [(98, .bipush (-2), 0), (100, .ireturn, 0)]
def cdX7_about : aCd := ([], [(0, 14, kX7_about_0), (14, 16, kX7_about_14), (48, 58, kX7_about_48), (58, 68, kX7_about_58), (68, 78, kX7_about_68), (78, 88, kX7_about_78), (88, 98, kX7_about_88), (98, 101, kX7_about_98)])
set_option maxRecDepth 100000 in
theorem okX7_about : okC cX7_about cdX7_about = true := by decide +kernel
theorem wX7_about : Cond.code yX7_about cX7_about 3 (rty 0) ∈ aT := aT_of 419 (by decide +kernel) (by decide +kernel)
theorem gX7_about_0 {w : List aE} {cl : List vw_C} {x : aX} {S : aS} {Q : Option Value → aH → Prop} {rk n : Nat} {J : Nat → List Value → List Value → aH → Prop} {ls st : List Value} {h : aH} : go w cl x S Q rk cdX7_about J n 0 ls st h = blk w cl x S Q rk 14 (jm w cl x S Q rk cdX7_about J n) kX7_about_0 ls st h := (rfl)
theorem jX7_about_14 {w : List aE} {cl : List vw_C} {x : aX} {S : aS} {Q : Option Value → aH → Prop} {rk n : Nat} {J : Nat → List Value → List Value → aH → Prop} {ls st : List Value} {h : aH} : jm w cl x S Q rk cdX7_about J (n + 1) 14 ls st h = blk w cl x S Q rk 16 (jm w cl x S Q rk cdX7_about J n) kX7_about_14 ls st h := (rfl)
theorem jX7_about_48 {w : List aE} {cl : List vw_C} {x : aX} {S : aS} {Q : Option Value → aH → Prop} {rk n : Nat} {J : Nat → List Value → List Value → aH → Prop} {ls st : List Value} {h : aH} : jm w cl x S Q rk cdX7_about J (n + 1) 48 ls st h = blk w cl x S Q rk 58 (jm w cl x S Q rk cdX7_about J n) kX7_about_48 ls st h := (rfl)
theorem jX7_about_58 {w : List aE} {cl : List vw_C} {x : aX} {S : aS} {Q : Option Value → aH → Prop} {rk n : Nat} {J : Nat → List Value → List Value → aH → Prop} {ls st : List Value} {h : aH} : jm w cl x S Q rk cdX7_about J (n + 1) 58 ls st h = blk w cl x S Q rk 68 (jm w cl x S Q rk cdX7_about J n) kX7_about_58 ls st h := (rfl)
theorem jX7_about_68 {w : List aE} {cl : List vw_C} {x : aX} {S : aS} {Q : Option Value → aH → Prop} {rk n : Nat} {J : Nat → List Value → List Value → aH → Prop} {ls st : List Value} {h : aH} : jm w cl x S Q rk cdX7_about J (n + 1) 68 ls st h = blk w cl x S Q rk 78 (jm w cl x S Q rk cdX7_about J n) kX7_about_68 ls st h := (rfl)
theorem jX7_about_78 {w : List aE} {cl : List vw_C} {x : aX} {S : aS} {Q : Option Value → aH → Prop} {rk n : Nat} {J : Nat → List Value → List Value → aH → Prop} {ls st : List Value} {h : aH} : jm w cl x S Q rk cdX7_about J (n + 1) 78 ls st h = blk w cl x S Q rk 88 (jm w cl x S Q rk cdX7_about J n) kX7_about_78 ls st h := (rfl)
theorem jX7_about_88 {w : List aE} {cl : List vw_C} {x : aX} {S : aS} {Q : Option Value → aH → Prop} {rk n : Nat} {J : Nat → List Value → List Value → aH → Prop} {ls st : List Value} {h : aH} : jm w cl x S Q rk cdX7_about J (n + 1) 88 ls st h = blk w cl x S Q rk 98 (jm w cl x S Q rk cdX7_about J n) kX7_about_88 ls st h := (rfl)
theorem jX7_about_98 {w : List aE} {cl : List vw_C} {x : aX} {S : aS} {Q : Option Value → aH → Prop} {rk n : Nat} {J : Nat → List Value → List Value → aH → Prop} {ls st : List Value} {h : aH} : jm w cl x S Q rk cdX7_about J (n + 1) 98 ls st h = blk w cl x S Q rk 101 (jm w cl x S Q rk cdX7_about J n) kX7_about_98 ls st h := (rfl)
def kX7_served_0 : List (Nat × Instr × Nat) := [(0, .aload_n 0, 0), (1, .getfield 12, 0), (4, .iload_n 1, 0), (5, .invokevirtual 75, 0), (8, .ifCond .eq 14, 22), (11, .aload_n 0, 0), (12, .getfield 12, 0), (15, .iload_n 2, 0), (16, .invokevirtual 102, 0), (19, .ifCond .ne 6, 25)]
def kX7_served_22 : List (Nat × Instr × Nat) := [(22, .bipush (-2), 0), (24, .ireturn, 0)]
def kX7_served_25 : List (Nat × Instr × Nat) := [(25, .aload_n 0, 0), (26, .getfield 12, 0), (29, .iload_n 1, 0), (30, .iload_n 2, 0), (31, .invokevirtual 105, 0), (34, .ifCond .eq 7, 41), (37, .iconst 1, 0), (38, .goto 4, 42)]
def kX7_served_41 : List (Nat × Instr × Nat) := [(41, .iconst 0, 0)]
def kX7_served_42 : List (Nat × Instr × Nat) := [(42, .ireturn, 0)]
def cdX7_served : aCd := ([], [(0, 22, kX7_served_0), (22, 25, kX7_served_22), (25, 41, kX7_served_25), (41, 42, kX7_served_41), (42, 43, kX7_served_42)])
set_option maxRecDepth 100000 in
theorem okX7_served : okC cX7_served cdX7_served = true := by decide +kernel
theorem wX7_served : Cond.code yX7_served cX7_served 3 (rty 0) ∈ aT := aT_of 423 (by decide +kernel) (by decide +kernel)
theorem gX7_served_0 {w : List aE} {cl : List vw_C} {x : aX} {S : aS} {Q : Option Value → aH → Prop} {rk n : Nat} {J : Nat → List Value → List Value → aH → Prop} {ls st : List Value} {h : aH} : go w cl x S Q rk cdX7_served J n 0 ls st h = blk w cl x S Q rk 22 (jm w cl x S Q rk cdX7_served J n) kX7_served_0 ls st h := (rfl)
theorem jX7_served_22 {w : List aE} {cl : List vw_C} {x : aX} {S : aS} {Q : Option Value → aH → Prop} {rk n : Nat} {J : Nat → List Value → List Value → aH → Prop} {ls st : List Value} {h : aH} : jm w cl x S Q rk cdX7_served J (n + 1) 22 ls st h = blk w cl x S Q rk 25 (jm w cl x S Q rk cdX7_served J n) kX7_served_22 ls st h := (rfl)
theorem jX7_served_25 {w : List aE} {cl : List vw_C} {x : aX} {S : aS} {Q : Option Value → aH → Prop} {rk n : Nat} {J : Nat → List Value → List Value → aH → Prop} {ls st : List Value} {h : aH} : jm w cl x S Q rk cdX7_served J (n + 1) 25 ls st h = blk w cl x S Q rk 41 (jm w cl x S Q rk cdX7_served J n) kX7_served_25 ls st h := (rfl)
theorem jX7_served_41 {w : List aE} {cl : List vw_C} {x : aX} {S : aS} {Q : Option Value → aH → Prop} {rk n : Nat} {J : Nat → List Value → List Value → aH → Prop} {ls st : List Value} {h : aH} : jm w cl x S Q rk cdX7_served J (n + 1) 41 ls st h = blk w cl x S Q rk 42 (jm w cl x S Q rk cdX7_served J n) kX7_served_41 ls st h := (rfl)
theorem jX7_served_42 {w : List aE} {cl : List vw_C} {x : aX} {S : aS} {Q : Option Value → aH → Prop} {rk n : Nat} {J : Nat → List Value → List Value → aH → Prop} {ls st : List Value} {h : aH} : jm w cl x S Q rk cdX7_served J (n + 1) 42 ls st h = blk w cl x S Q rk 43 (jm w cl x S Q rk cdX7_served J n) kX7_served_42 ls st h := (rfl)
def kX7_states_0 : List (Nat × Instr × Nat) := [(0, .aload_n 0, 0), (1, .getfield 21, 0), (4, .getfield 109, 0), (7, .ireturn, 0)]
def cdX7_states : aCd := ([], [(0, 8, kX7_states_0)])
set_option maxRecDepth 100000 in
theorem okX7_states : okC cX7_states cdX7_states = true := by decide +kernel
theorem wX7_states : Cond.code yX7_states cX7_states 1 (rty 0) ∈ aT := aT_of 432 (by decide +kernel) (by decide +kernel)
theorem gX7_states_0 {w : List aE} {cl : List vw_C} {x : aX} {S : aS} {Q : Option Value → aH → Prop} {rk n : Nat} {J : Nat → List Value → List Value → aH → Prop} {ls st : List Value} {h : aH} : go w cl x S Q rk cdX7_states J n 0 ls st h = blk w cl x S Q rk 8 (jm w cl x S Q rk cdX7_states J n) kX7_states_0 ls st h := (rfl)
def kX7_state_0 : List (Nat × Instr × Nat) := [(0, .aload_n 0, 0), (1, .getfield 12, 0), (4, .iload_n 1, 0), (5, .invokevirtual 102, 0), (8, .ifCond .ne 6, 14), (11, .bipush (-2), 0), (13, .ireturn, 0)]
def kX7_state_14 : List (Nat × Instr × Nat) := [(14, .aload_n 0, 0), (15, .getfield 21, 0), (18, .iload_n 1, 0), (19, .invokevirtual 113, 0), (22, .ifCond .eq 7, 29), (25, .iconst 1, 0), (26, .goto 4, 30)]
def kX7_state_29 : List (Nat × Instr × Nat) := [(29, .iconst 0, 0)]
def kX7_state_30 : List (Nat × Instr × Nat) := [(30, .ireturn, 0)]
def cdX7_state : aCd := ([], [(0, 14, kX7_state_0), (14, 29, kX7_state_14), (29, 30, kX7_state_29), (30, 31, kX7_state_30)])
set_option maxRecDepth 100000 in
theorem okX7_state : okC cX7_state cdX7_state = true := by decide +kernel
theorem wX7_state : Cond.code yX7_state cX7_state 2 (rty 0) ∈ aT := aT_of 436 (by decide +kernel) (by decide +kernel)
theorem gX7_state_0 {w : List aE} {cl : List vw_C} {x : aX} {S : aS} {Q : Option Value → aH → Prop} {rk n : Nat} {J : Nat → List Value → List Value → aH → Prop} {ls st : List Value} {h : aH} : go w cl x S Q rk cdX7_state J n 0 ls st h = blk w cl x S Q rk 14 (jm w cl x S Q rk cdX7_state J n) kX7_state_0 ls st h := (rfl)
theorem jX7_state_14 {w : List aE} {cl : List vw_C} {x : aX} {S : aS} {Q : Option Value → aH → Prop} {rk n : Nat} {J : Nat → List Value → List Value → aH → Prop} {ls st : List Value} {h : aH} : jm w cl x S Q rk cdX7_state J (n + 1) 14 ls st h = blk w cl x S Q rk 29 (jm w cl x S Q rk cdX7_state J n) kX7_state_14 ls st h := (rfl)
theorem jX7_state_29 {w : List aE} {cl : List vw_C} {x : aX} {S : aS} {Q : Option Value → aH → Prop} {rk n : Nat} {J : Nat → List Value → List Value → aH → Prop} {ls st : List Value} {h : aH} : jm w cl x S Q rk cdX7_state J (n + 1) 29 ls st h = blk w cl x S Q rk 30 (jm w cl x S Q rk cdX7_state J n) kX7_state_29 ls st h := (rfl)
theorem jX7_state_30 {w : List aE} {cl : List vw_C} {x : aX} {S : aS} {Q : Option Value → aH → Prop} {rk n : Nat} {J : Nat → List Value → List Value → aH → Prop} {ls st : List Value} {h : aH} : jm w cl x S Q rk cdX7_state J (n + 1) 30 ls st h = blk w cl x S Q rk 31 (jm w cl x S Q rk cdX7_state J n) kX7_state_30 ls st h := (rfl)
def kX7_at_0 : List (Nat × Instr × Nat) := [(0, .iload_n 1, 0), (1, .ifCond .lt 14, 15), (4, .iload_n 1, 0), (5, .aload_n 0, 0), (6, .getfield 21, 0), (9, .getfield 109, 0), (12, .if_icmp .lt 6, 18)]
def kX7_at_15 : List (Nat × Instr × Nat) := [(15, .bipush (-2), 0), (17, .ireturn, 0)]
def kX7_at_18 : List (Nat × Instr × Nat) := [(18, .aload_n 0, 0), (19, .getfield 21, 0), (22, .getfield 116, 0), (25, .iload_n 1, 0), (26, .iaload, 0), (27, .ireturn, 0)]
def cdX7_at : aCd := ([], [(0, 15, kX7_at_0), (15, 18, kX7_at_15), (18, 28, kX7_at_18)])
set_option maxRecDepth 100000 in
theorem okX7_at : okC cX7_at cdX7_at = true := by decide +kernel
theorem wX7_at : Cond.code yX7_at cX7_at 2 (rty 0) ∈ aT := aT_of 441 (by decide +kernel) (by decide +kernel)
theorem gX7_at_0 {w : List aE} {cl : List vw_C} {x : aX} {S : aS} {Q : Option Value → aH → Prop} {rk n : Nat} {J : Nat → List Value → List Value → aH → Prop} {ls st : List Value} {h : aH} : go w cl x S Q rk cdX7_at J n 0 ls st h = blk w cl x S Q rk 15 (jm w cl x S Q rk cdX7_at J n) kX7_at_0 ls st h := (rfl)
theorem jX7_at_15 {w : List aE} {cl : List vw_C} {x : aX} {S : aS} {Q : Option Value → aH → Prop} {rk n : Nat} {J : Nat → List Value → List Value → aH → Prop} {ls st : List Value} {h : aH} : jm w cl x S Q rk cdX7_at J (n + 1) 15 ls st h = blk w cl x S Q rk 18 (jm w cl x S Q rk cdX7_at J n) kX7_at_15 ls st h := (rfl)
theorem jX7_at_18 {w : List aE} {cl : List vw_C} {x : aX} {S : aS} {Q : Option Value → aH → Prop} {rk n : Nat} {J : Nat → List Value → List Value → aH → Prop} {ls st : List Value} {h : aH} : jm w cl x S Q rk cdX7_at J (n + 1) 18 ls st h = blk w cl x S Q rk 28 (jm w cl x S Q rk cdX7_at J n) kX7_at_18 ls st h := (rfl)
def kX7_top_0 : List (Nat × Instr × Nat) := [(0, .aload_n 0, 0), (1, .getfield 21, 0), (4, .getfield 119, 0), (7, .ireturn, 0)]
def cdX7_top : aCd := ([], [(0, 8, kX7_top_0)])
set_option maxRecDepth 100000 in
theorem okX7_top : okC cX7_top cdX7_top = true := by decide +kernel
theorem wX7_top : Cond.code yX7_top cX7_top 1 (rty 0) ∈ aT := aT_of 445 (by decide +kernel) (by decide +kernel)
theorem gX7_top_0 {w : List aE} {cl : List vw_C} {x : aX} {S : aS} {Q : Option Value → aH → Prop} {rk n : Nat} {J : Nat → List Value → List Value → aH → Prop} {ls st : List Value} {h : aH} : go w cl x S Q rk cdX7_top J n 0 ls st h = blk w cl x S Q rk 8 (jm w cl x S Q rk cdX7_top J n) kX7_top_0 ls st h := (rfl)
def kX7_next_0 : List (Nat × Instr × Nat) := [(0, .aload_n 0, 0), (1, .iload_n 1, 0), (2, .invokevirtual 122, 0), (5, .istore_n 2, 0), (6, .iload_n 2, 0), (7, .ifCond .eq 7, 14), (10, .iload_n 2, 0), (11, .goto 19, 30)]
def kX7_next_14 : List (Nat × Instr × Nat) := [(14, .aload_n 0, 0), (15, .getfield 12, 0), (18, .aload_n 0, 0), (19, .getfield 21, 0), (22, .getfield 126, 0), (25, .iload_n 1, 0), (26, .iaload, 0), (27, .invokevirtual 129, 0)]
def kX7_next_30 : List (Nat × Instr × Nat) := [(30, .ireturn, 0)]
def cdX7_next : aCd := ([], [(0, 14, kX7_next_0), (14, 30, kX7_next_14), (30, 31, kX7_next_30)])
set_option maxRecDepth 100000 in
theorem okX7_next : okC cX7_next cdX7_next = true := by decide +kernel
theorem wX7_next : Cond.code yX7_next cX7_next 3 (rty 0) ∈ aT := aT_of 449 (by decide +kernel) (by decide +kernel)
theorem gX7_next_0 {w : List aE} {cl : List vw_C} {x : aX} {S : aS} {Q : Option Value → aH → Prop} {rk n : Nat} {J : Nat → List Value → List Value → aH → Prop} {ls st : List Value} {h : aH} : go w cl x S Q rk cdX7_next J n 0 ls st h = blk w cl x S Q rk 14 (jm w cl x S Q rk cdX7_next J n) kX7_next_0 ls st h := (rfl)
theorem jX7_next_14 {w : List aE} {cl : List vw_C} {x : aX} {S : aS} {Q : Option Value → aH → Prop} {rk n : Nat} {J : Nat → List Value → List Value → aH → Prop} {ls st : List Value} {h : aH} : jm w cl x S Q rk cdX7_next J (n + 1) 14 ls st h = blk w cl x S Q rk 30 (jm w cl x S Q rk cdX7_next J n) kX7_next_14 ls st h := (rfl)
theorem jX7_next_30 {w : List aE} {cl : List vw_C} {x : aX} {S : aS} {Q : Option Value → aH → Prop} {rk n : Nat} {J : Nat → List Value → List Value → aH → Prop} {ls st : List Value} {h : aH} : jm w cl x S Q rk cdX7_next J (n + 1) 30 ls st h = blk w cl x S Q rk 31 (jm w cl x S Q rk cdX7_next J n) kX7_next_30 ls st h := (rfl)
def kX7_last_0 : List (Nat × Instr × Nat) := [(0, .aload_n 0, 0), (1, .iload_n 1, 0), (2, .invokevirtual 122, 0), (5, .istore_n 2, 0), (6, .iload_n 2, 0), (7, .ifCond .eq 7, 14), (10, .iload_n 2, 0), (11, .goto 18, 29)]
def kX7_last_14 : List (Nat × Instr × Nat) := [(14, .aload_n 0, 0), (15, .getfield 12, 0), (18, .aload_n 0, 0), (19, .getfield 21, 0), (22, .iload_n 1, 0), (23, .invokevirtual 132, 0), (26, .invokevirtual 129, 0)]
def kX7_last_29 : List (Nat × Instr × Nat) := [(29, .ireturn, 0)]
def cdX7_last : aCd := ([], [(0, 14, kX7_last_0), (14, 29, kX7_last_14), (29, 30, kX7_last_29)])
set_option maxRecDepth 100000 in
theorem okX7_last : okC cX7_last cdX7_last = true := by decide +kernel
theorem wX7_last : Cond.code yX7_last cX7_last 3 (rty 0) ∈ aT := aT_of 461 (by decide +kernel) (by decide +kernel)
theorem gX7_last_0 {w : List aE} {cl : List vw_C} {x : aX} {S : aS} {Q : Option Value → aH → Prop} {rk n : Nat} {J : Nat → List Value → List Value → aH → Prop} {ls st : List Value} {h : aH} : go w cl x S Q rk cdX7_last J n 0 ls st h = blk w cl x S Q rk 14 (jm w cl x S Q rk cdX7_last J n) kX7_last_0 ls st h := (rfl)
theorem jX7_last_14 {w : List aE} {cl : List vw_C} {x : aX} {S : aS} {Q : Option Value → aH → Prop} {rk n : Nat} {J : Nat → List Value → List Value → aH → Prop} {ls st : List Value} {h : aH} : jm w cl x S Q rk cdX7_last J (n + 1) 14 ls st h = blk w cl x S Q rk 29 (jm w cl x S Q rk cdX7_last J n) kX7_last_14 ls st h := (rfl)
theorem jX7_last_29 {w : List aE} {cl : List vw_C} {x : aX} {S : aS} {Q : Option Value → aH → Prop} {rk n : Nat} {J : Nat → List Value → List Value → aH → Prop} {ls st : List Value} {h : aH} : jm w cl x S Q rk cdX7_last J (n + 1) 29 ls st h = blk w cl x S Q rk 30 (jm w cl x S Q rk cdX7_last J n) kX7_last_29 ls st h := (rfl)
def kX7_core_0 : List (Nat × Instr × Nat) := [(0, .aload_n 0, 0), (1, .getfield 12, 0), (4, .iload_n 1, 0), (5, .invokevirtual 102, 0), (8, .ifCond .eq 14, 22), (11, .aload_n 0, 0), (12, .getfield 21, 0), (15, .iload_n 1, 0), (16, .invokevirtual 135, 0), (19, .goto 5, 24)]
def kX7_core_22 : List (Nat × Instr × Nat) := [(22, .bipush (-2), 0)]
def kX7_core_24 : List (Nat × Instr × Nat) := [(24, .ireturn, 0)]
def cdX7_core : aCd := ([], [(0, 22, kX7_core_0), (22, 24, kX7_core_22), (24, 25, kX7_core_24)])
set_option maxRecDepth 100000 in
theorem okX7_core : okC cX7_core cdX7_core = true := by decide +kernel
theorem wX7_core : Cond.code yX7_core cX7_core 2 (rty 0) ∈ aT := aT_of 473 (by decide +kernel) (by decide +kernel)
theorem gX7_core_0 {w : List aE} {cl : List vw_C} {x : aX} {S : aS} {Q : Option Value → aH → Prop} {rk n : Nat} {J : Nat → List Value → List Value → aH → Prop} {ls st : List Value} {h : aH} : go w cl x S Q rk cdX7_core J n 0 ls st h = blk w cl x S Q rk 22 (jm w cl x S Q rk cdX7_core J n) kX7_core_0 ls st h := (rfl)
theorem jX7_core_22 {w : List aE} {cl : List vw_C} {x : aX} {S : aS} {Q : Option Value → aH → Prop} {rk n : Nat} {J : Nat → List Value → List Value → aH → Prop} {ls st : List Value} {h : aH} : jm w cl x S Q rk cdX7_core J (n + 1) 22 ls st h = blk w cl x S Q rk 24 (jm w cl x S Q rk cdX7_core J n) kX7_core_22 ls st h := (rfl)
theorem jX7_core_24 {w : List aE} {cl : List vw_C} {x : aX} {S : aS} {Q : Option Value → aH → Prop} {rk n : Nat} {J : Nat → List Value → List Value → aH → Prop} {ls st : List Value} {h : aH} : jm w cl x S Q rk cdX7_core J (n + 1) 24 ls st h = blk w cl x S Q rk 25 (jm w cl x S Q rk cdX7_core J n) kX7_core_24 ls st h := (rfl)
def kX7_reason_0 : List (Nat × Instr × Nat) := [(0, .aload_n 0, 0), (1, .getfield 12, 0), (4, .iload_n 1, 0), (5, .invokevirtual 75, 0), (8, .ifCond .eq 14, 22), (11, .aload_n 0, 0), (12, .getfield 12, 0), (15, .iload_n 2, 0), (16, .invokevirtual 102, 0), (19, .ifCond .ne 6, 25)]
def kX7_reason_22 : List (Nat × Instr × Nat) := [(22, .bipush (-2), 0), (24, .ireturn, 0)]
def kX7_reason_25 : List (Nat × Instr × Nat) := [(25, .aload_n 0, 0), (26, .getfield 12, 0), (29, .iload_n 1, 0), (30, .iload_n 2, 0), (31, .invokevirtual 138, 0), (34, .istore_n 3, 0), (35, .iload_n 3, 0), (36, .iconst (-1), 0), (37, .if_icmp .ne 5, 42), (40, .iconst (-1), 0), (41, .ireturn, 0)]
def kX7_reason_42 : List (Nat × Instr × Nat) := [(42, .iload_n 3, 0), (43, .ifCond .ne 8, 51), (46, .bipush 12, 0), (48, .goto 7, 55)]
def kX7_reason_51 : List (Nat × Instr × Nat) := [(51, .iload_n 3, 0), (52, .invokestatic 141, 0)]
def kX7_reason_55 : List (Nat × Instr × Nat) := [(55, .ireturn, 0)]
def cdX7_reason : aCd := ([], [(0, 22, kX7_reason_0), (22, 25, kX7_reason_22), (25, 42, kX7_reason_25), (42, 51, kX7_reason_42), (51, 55, kX7_reason_51), (55, 56, kX7_reason_55)])
set_option maxRecDepth 100000 in
theorem okX7_reason : okC cX7_reason cdX7_reason = true := by decide +kernel
theorem wX7_reason : Cond.code yX7_reason cX7_reason 4 (rty 0) ∈ aT := aT_of 481 (by decide +kernel) (by decide +kernel)
theorem gX7_reason_0 {w : List aE} {cl : List vw_C} {x : aX} {S : aS} {Q : Option Value → aH → Prop} {rk n : Nat} {J : Nat → List Value → List Value → aH → Prop} {ls st : List Value} {h : aH} : go w cl x S Q rk cdX7_reason J n 0 ls st h = blk w cl x S Q rk 22 (jm w cl x S Q rk cdX7_reason J n) kX7_reason_0 ls st h := (rfl)
theorem jX7_reason_22 {w : List aE} {cl : List vw_C} {x : aX} {S : aS} {Q : Option Value → aH → Prop} {rk n : Nat} {J : Nat → List Value → List Value → aH → Prop} {ls st : List Value} {h : aH} : jm w cl x S Q rk cdX7_reason J (n + 1) 22 ls st h = blk w cl x S Q rk 25 (jm w cl x S Q rk cdX7_reason J n) kX7_reason_22 ls st h := (rfl)
theorem jX7_reason_25 {w : List aE} {cl : List vw_C} {x : aX} {S : aS} {Q : Option Value → aH → Prop} {rk n : Nat} {J : Nat → List Value → List Value → aH → Prop} {ls st : List Value} {h : aH} : jm w cl x S Q rk cdX7_reason J (n + 1) 25 ls st h = blk w cl x S Q rk 42 (jm w cl x S Q rk cdX7_reason J n) kX7_reason_25 ls st h := (rfl)
theorem jX7_reason_42 {w : List aE} {cl : List vw_C} {x : aX} {S : aS} {Q : Option Value → aH → Prop} {rk n : Nat} {J : Nat → List Value → List Value → aH → Prop} {ls st : List Value} {h : aH} : jm w cl x S Q rk cdX7_reason J (n + 1) 42 ls st h = blk w cl x S Q rk 51 (jm w cl x S Q rk cdX7_reason J n) kX7_reason_42 ls st h := (rfl)
theorem jX7_reason_51 {w : List aE} {cl : List vw_C} {x : aX} {S : aS} {Q : Option Value → aH → Prop} {rk n : Nat} {J : Nat → List Value → List Value → aH → Prop} {ls st : List Value} {h : aH} : jm w cl x S Q rk cdX7_reason J (n + 1) 51 ls st h = blk w cl x S Q rk 55 (jm w cl x S Q rk cdX7_reason J n) kX7_reason_51 ls st h := (rfl)
theorem jX7_reason_55 {w : List aE} {cl : List vw_C} {x : aX} {S : aS} {Q : Option Value → aH → Prop} {rk n : Nat} {J : Nat → List Value → List Value → aH → Prop} {ls st : List Value} {h : aH} : jm w cl x S Q rk cdX7_reason J (n + 1) 55 ls st h = blk w cl x S Q rk 56 (jm w cl x S Q rk cdX7_reason J n) kX7_reason_55 ls st h := (rfl)
def kX7_test_0 : List (Nat × Instr × Nat) := [(0, .iload_n 1, 0), (1, .ifCond .lt 19, 20), (4, .iload_n 1, 0), (5, .bipush 99, 0), (7, .if_icmp .gt 13, 20), (10, .iload_n 2, 0), (11, .ifCond .lt 9, 20), (14, .iload_n 2, 0), (15, .bipush 99, 0), (17, .if_icmp .le 6, 23)]
def kX7_test_20 : List (Nat × Instr × Nat) := [(20, .bipush (-2), 0), (22, .ireturn, 0)]
def kX7_test_23 : List (Nat × Instr × Nat) := [(23, .aload_n 0, 0), (24, .getfield 37, 0), (27, .iload_n 1, 0), (28, .iload_n 2, 0), (29, .invokevirtual 146, 0), (32, .aload_n 0, 0), (33, .getfield 37, 0), (36, .getfield 150, 0), (39, .ireturn, 0)]
def cdX7_test : aCd := ([], [(0, 20, kX7_test_0), (20, 23, kX7_test_20), (23, 40, kX7_test_23)])
set_option maxRecDepth 100000 in
theorem okX7_test : okC cX7_test cdX7_test = true := by decide +kernel
theorem wX7_test : Cond.code yX7_test cX7_test 3 (rty 0) ∈ aT := aT_of 490 (by decide +kernel) (by decide +kernel)
theorem gX7_test_0 {w : List aE} {cl : List vw_C} {x : aX} {S : aS} {Q : Option Value → aH → Prop} {rk n : Nat} {J : Nat → List Value → List Value → aH → Prop} {ls st : List Value} {h : aH} : go w cl x S Q rk cdX7_test J n 0 ls st h = blk w cl x S Q rk 20 (jm w cl x S Q rk cdX7_test J n) kX7_test_0 ls st h := (rfl)
theorem jX7_test_20 {w : List aE} {cl : List vw_C} {x : aX} {S : aS} {Q : Option Value → aH → Prop} {rk n : Nat} {J : Nat → List Value → List Value → aH → Prop} {ls st : List Value} {h : aH} : jm w cl x S Q rk cdX7_test J (n + 1) 20 ls st h = blk w cl x S Q rk 23 (jm w cl x S Q rk cdX7_test J n) kX7_test_20 ls st h := (rfl)
theorem jX7_test_23 {w : List aE} {cl : List vw_C} {x : aX} {S : aS} {Q : Option Value → aH → Prop} {rk n : Nat} {J : Nat → List Value → List Value → aH → Prop} {ls st : List Value} {h : aH} : jm w cl x S Q rk cdX7_test J (n + 1) 23 ls st h = blk w cl x S Q rk 40 (jm w cl x S Q rk cdX7_test J n) kX7_test_23 ls st h := (rfl)
def kX7_left_0 : List (Nat × Instr × Nat) := [(0, .aload_n 0, 0), (1, .getfield 37, 0), (4, .getfield 150, 0), (7, .ireturn, 0)]
def cdX7_left : aCd := ([], [(0, 8, kX7_left_0)])
set_option maxRecDepth 100000 in
theorem okX7_left : okC cX7_left cdX7_left = true := by decide +kernel
theorem wX7_left : Cond.code yX7_left cX7_left 1 (rty 0) ∈ aT := aT_of 494 (by decide +kernel) (by decide +kernel)
theorem gX7_left_0 {w : List aE} {cl : List vw_C} {x : aX} {S : aS} {Q : Option Value → aH → Prop} {rk n : Nat} {J : Nat → List Value → List Value → aH → Prop} {ls st : List Value} {h : aH} : go w cl x S Q rk cdX7_left J n 0 ls st h = blk w cl x S Q rk 8 (jm w cl x S Q rk cdX7_left J n) kX7_left_0 ls st h := (rfl)
def kX7_ask_0 : List (Nat × Instr × Nat) := [(0, .aload_n 0, 0), (1, .getfield 37, 0), (4, .invokevirtual 151, 0), (7, .ireturn, 0)]
def cdX7_ask : aCd := ([], [(0, 8, kX7_ask_0)])
set_option maxRecDepth 100000 in
theorem okX7_ask : okC cX7_ask cdX7_ask = true := by decide +kernel
theorem wX7_ask : Cond.code yX7_ask cX7_ask 1 (rty 0) ∈ aT := aT_of 498 (by decide +kernel) (by decide +kernel)
theorem gX7_ask_0 {w : List aE} {cl : List vw_C} {x : aX} {S : aS} {Q : Option Value → aH → Prop} {rk n : Nat} {J : Nat → List Value → List Value → aH → Prop} {ls st : List Value} {h : aH} : go w cl x S Q rk cdX7_ask J n 0 ls st h = blk w cl x S Q rk 8 (jm w cl x S Q rk cdX7_ask J n) kX7_ask_0 ls st h := (rfl)
def kX7_answer_0 : List (Nat × Instr × Nat) := [(0, .aload_n 0, 0), (1, .getfield 12, 0), (4, .iload_n 1, 0), (5, .invokevirtual 75, 0), (8, .ifCond .eq 15, 23), (11, .aload_n 0, 0), (12, .getfield 37, 0), (15, .iload_n 1, 0), (16, .iload_n 2, 0), (17, .invokevirtual 155, 0), (20, .goto 5, 25)]
def kX7_answer_23 : List (Nat × Instr × Nat) := [(23, .bipush (-2), 0)]
def kX7_answer_25 : List (Nat × Instr × Nat) := [(25, .ireturn, 0)]
def cdX7_answer : aCd := ([], [(0, 23, kX7_answer_0), (23, 25, kX7_answer_23), (25, 26, kX7_answer_25)])
set_option maxRecDepth 100000 in
theorem okX7_answer : okC cX7_answer cdX7_answer = true := by decide +kernel
theorem wX7_answer : Cond.code yX7_answer cX7_answer 3 (rty 0) ∈ aT := aT_of 513 (by decide +kernel) (by decide +kernel)
theorem gX7_answer_0 {w : List aE} {cl : List vw_C} {x : aX} {S : aS} {Q : Option Value → aH → Prop} {rk n : Nat} {J : Nat → List Value → List Value → aH → Prop} {ls st : List Value} {h : aH} : go w cl x S Q rk cdX7_answer J n 0 ls st h = blk w cl x S Q rk 23 (jm w cl x S Q rk cdX7_answer J n) kX7_answer_0 ls st h := (rfl)
theorem jX7_answer_23 {w : List aE} {cl : List vw_C} {x : aX} {S : aS} {Q : Option Value → aH → Prop} {rk n : Nat} {J : Nat → List Value → List Value → aH → Prop} {ls st : List Value} {h : aH} : jm w cl x S Q rk cdX7_answer J (n + 1) 23 ls st h = blk w cl x S Q rk 25 (jm w cl x S Q rk cdX7_answer J n) kX7_answer_23 ls st h := (rfl)
theorem jX7_answer_25 {w : List aE} {cl : List vw_C} {x : aX} {S : aS} {Q : Option Value → aH → Prop} {rk n : Nat} {J : Nat → List Value → List Value → aH → Prop} {ls st : List Value} {h : aH} : jm w cl x S Q rk cdX7_answer J (n + 1) 25 ls st h = blk w cl x S Q rk 26 (jm w cl x S Q rk cdX7_answer J n) kX7_answer_25 ls st h := (rfl)
def kX7_unsure_0 : List (Nat × Instr × Nat) := [(0, .aload_n 0, 0), (1, .getfield 12, 0), (4, .iload_n 1, 0), (5, .invokevirtual 75, 0), (8, .ifCond .eq 15, 23), (11, .aload_n 0, 0), (12, .getfield 37, 0), (15, .iload_n 1, 0), (16, .iload_n 2, 0), (17, .invokevirtual 159, 0), (20, .goto 5, 25)]
def kX7_unsure_23 : List (Nat × Instr × Nat) := [(23, .bipush (-2), 0)]
def kX7_unsure_25 : List (Nat × Instr × Nat) := [(25, .ireturn, 0)]
def cdX7_unsure : aCd := ([], [(0, 23, kX7_unsure_0), (23, 25, kX7_unsure_23), (25, 26, kX7_unsure_25)])
set_option maxRecDepth 100000 in
theorem okX7_unsure : okC cX7_unsure cdX7_unsure = true := by decide +kernel
theorem wX7_unsure : Cond.code yX7_unsure cX7_unsure 3 (rty 0) ∈ aT := aT_of 525 (by decide +kernel) (by decide +kernel)
theorem gX7_unsure_0 {w : List aE} {cl : List vw_C} {x : aX} {S : aS} {Q : Option Value → aH → Prop} {rk n : Nat} {J : Nat → List Value → List Value → aH → Prop} {ls st : List Value} {h : aH} : go w cl x S Q rk cdX7_unsure J n 0 ls st h = blk w cl x S Q rk 23 (jm w cl x S Q rk cdX7_unsure J n) kX7_unsure_0 ls st h := (rfl)
theorem jX7_unsure_23 {w : List aE} {cl : List vw_C} {x : aX} {S : aS} {Q : Option Value → aH → Prop} {rk n : Nat} {J : Nat → List Value → List Value → aH → Prop} {ls st : List Value} {h : aH} : jm w cl x S Q rk cdX7_unsure J (n + 1) 23 ls st h = blk w cl x S Q rk 25 (jm w cl x S Q rk cdX7_unsure J n) kX7_unsure_23 ls st h := (rfl)
theorem jX7_unsure_25 {w : List aE} {cl : List vw_C} {x : aX} {S : aS} {Q : Option Value → aH → Prop} {rk n : Nat} {J : Nat → List Value → List Value → aH → Prop} {ls st : List Value} {h : aH} : jm w cl x S Q rk cdX7_unsure J (n + 1) 25 ls st h = blk w cl x S Q rk 26 (jm w cl x S Q rk cdX7_unsure J n) kX7_unsure_25 ls st h := (rfl)
def kX7_likely_0 : List (Nat × Instr × Nat) := [(0, .aload_n 0, 0), (1, .getfield 37, 0), (4, .invokevirtual 162, 0), (7, .ireturn, 0)]
def cdX7_likely : aCd := ([], [(0, 8, kX7_likely_0)])
set_option maxRecDepth 100000 in
theorem okX7_likely : okC cX7_likely cdX7_likely = true := by decide +kernel
theorem wX7_likely : Cond.code yX7_likely cX7_likely 1 (rty 0) ∈ aT := aT_of 533 (by decide +kernel) (by decide +kernel)
theorem gX7_likely_0 {w : List aE} {cl : List vw_C} {x : aX} {S : aS} {Q : Option Value → aH → Prop} {rk n : Nat} {J : Nat → List Value → List Value → aH → Prop} {ls st : List Value} {h : aH} : go w cl x S Q rk cdX7_likely J n 0 ls st h = blk w cl x S Q rk 8 (jm w cl x S Q rk cdX7_likely J n) kX7_likely_0 ls st h := (rfl)
def kX7_weight_0 : List (Nat × Instr × Nat) := [(0, .aload_n 0, 0), (1, .getfield 12, 0), (4, .iload_n 1, 0), (5, .invokevirtual 102, 0), (8, .ifCond .eq 15, 23), (11, .aload_n 0, 0), (12, .getfield 37, 0), (15, .getfield 165, 0), (18, .iload_n 1, 0), (19, .laload, 0), (20, .goto 6, 26)]
def kX7_weight_23 : List (Nat × Instr × Nat) := [(23, .ldc2_w 169, 0)]
def kX7_weight_26 : List (Nat × Instr × Nat) := [(26, .lreturn, 0)]
def cdX7_weight : aCd := ([], [(0, 23, kX7_weight_0), (23, 26, kX7_weight_23), (26, 27, kX7_weight_26)])
set_option maxRecDepth 100000 in
theorem okX7_weight : okC cX7_weight cdX7_weight = true := by decide +kernel
theorem wX7_weight : Cond.code yX7_weight cX7_weight 2 (rty 2) ∈ aT := aT_of 541 (by decide +kernel) (by decide +kernel)
theorem gX7_weight_0 {w : List aE} {cl : List vw_C} {x : aX} {S : aS} {Q : Option Value → aH → Prop} {rk n : Nat} {J : Nat → List Value → List Value → aH → Prop} {ls st : List Value} {h : aH} : go w cl x S Q rk cdX7_weight J n 0 ls st h = blk w cl x S Q rk 23 (jm w cl x S Q rk cdX7_weight J n) kX7_weight_0 ls st h := (rfl)
theorem jX7_weight_23 {w : List aE} {cl : List vw_C} {x : aX} {S : aS} {Q : Option Value → aH → Prop} {rk n : Nat} {J : Nat → List Value → List Value → aH → Prop} {ls st : List Value} {h : aH} : jm w cl x S Q rk cdX7_weight J (n + 1) 23 ls st h = blk w cl x S Q rk 26 (jm w cl x S Q rk cdX7_weight J n) kX7_weight_23 ls st h := (rfl)
theorem jX7_weight_26 {w : List aE} {cl : List vw_C} {x : aX} {S : aS} {Q : Option Value → aH → Prop} {rk n : Nat} {J : Nat → List Value → List Value → aH → Prop} {ls st : List Value} {h : aH} : jm w cl x S Q rk cdX7_weight J (n + 1) 26 ls st h = blk w cl x S Q rk 27 (jm w cl x S Q rk cdX7_weight J n) kX7_weight_26 ls st h := (rfl)
def kX7_weights_0 : List (Nat × Instr × Nat) := [(0, .aload_n 0, 0), (1, .getfield 37, 0), (4, .invokevirtual 171, 0), (7, .lreturn, 0)]
def cdX7_weights : aCd := ([], [(0, 8, kX7_weights_0)])
set_option maxRecDepth 100000 in
theorem okX7_weights : okC cX7_weights cdX7_weights = true := by decide +kernel
theorem wX7_weights : Cond.code yX7_weights cX7_weights 1 (rty 2) ∈ aT := aT_of 546 (by decide +kernel) (by decide +kernel)
theorem gX7_weights_0 {w : List aE} {cl : List vw_C} {x : aX} {S : aS} {Q : Option Value → aH → Prop} {rk n : Nat} {J : Nat → List Value → List Value → aH → Prop} {ls st : List Value} {h : aH} : go w cl x S Q rk cdX7_weights J n 0 ls st h = blk w cl x S Q rk 8 (jm w cl x S Q rk cdX7_weights J n) kX7_weights_0 ls st h := (rfl)
def kX7_worst_0 : List (Nat × Instr × Nat) := [(0, .aload_n 0, 0), (1, .getfield 37, 0), (4, .invokevirtual 175, 0), (7, .ireturn, 0)]
def cdX7_worst : aCd := ([], [(0, 8, kX7_worst_0)])
set_option maxRecDepth 100000 in
theorem okX7_worst : okC cX7_worst cdX7_worst = true := by decide +kernel
theorem wX7_worst : Cond.code yX7_worst cX7_worst 1 (rty 0) ∈ aT := aT_of 554 (by decide +kernel) (by decide +kernel)
theorem gX7_worst_0 {w : List aE} {cl : List vw_C} {x : aX} {S : aS} {Q : Option Value → aH → Prop} {rk n : Nat} {J : Nat → List Value → List Value → aH → Prop} {ls st : List Value} {h : aH} : go w cl x S Q rk cdX7_worst J n 0 ls st h = blk w cl x S Q rk 8 (jm w cl x S Q rk cdX7_worst J n) kX7_worst_0 ls st h := (rfl)
def kX7_cost_0 : List (Nat × Instr × Nat) := [(0, .aload_n 0, 0), (1, .iload_n 1, 0), (2, .iload_n 2, 0), (3, .invokevirtual 178, 0), (6, .istore_n 3, 0), (7, .iload_n 3, 0), (8, .ifCond .eq 7, 15), (11, .iload_n 3, 0), (12, .goto 12, 24)]
def kX7_cost_15 : List (Nat × Instr × Nat) := [(15, .aload_n 0, 0), (16, .getfield 30, 0), (19, .iload_n 1, 0), (20, .iload_n 2, 0), (21, .invokevirtual 181, 0)]
def kX7_cost_24 : List (Nat × Instr × Nat) := [(24, .ireturn, 0)]
def cdX7_cost : aCd := ([], [(0, 15, kX7_cost_0), (15, 24, kX7_cost_15), (24, 25, kX7_cost_24)])
set_option maxRecDepth 100000 in
theorem okX7_cost : okC cX7_cost cdX7_cost = true := by decide +kernel
theorem wX7_cost : Cond.code yX7_cost cX7_cost 4 (rty 0) ∈ aT := aT_of 582 (by decide +kernel) (by decide +kernel)
theorem gX7_cost_0 {w : List aE} {cl : List vw_C} {x : aX} {S : aS} {Q : Option Value → aH → Prop} {rk n : Nat} {J : Nat → List Value → List Value → aH → Prop} {ls st : List Value} {h : aH} : go w cl x S Q rk cdX7_cost J n 0 ls st h = blk w cl x S Q rk 15 (jm w cl x S Q rk cdX7_cost J n) kX7_cost_0 ls st h := (rfl)
theorem jX7_cost_15 {w : List aE} {cl : List vw_C} {x : aX} {S : aS} {Q : Option Value → aH → Prop} {rk n : Nat} {J : Nat → List Value → List Value → aH → Prop} {ls st : List Value} {h : aH} : jm w cl x S Q rk cdX7_cost J (n + 1) 15 ls st h = blk w cl x S Q rk 24 (jm w cl x S Q rk cdX7_cost J n) kX7_cost_15 ls st h := (rfl)
theorem jX7_cost_24 {w : List aE} {cl : List vw_C} {x : aX} {S : aS} {Q : Option Value → aH → Prop} {rk n : Nat} {J : Nat → List Value → List Value → aH → Prop} {ls st : List Value} {h : aH} : jm w cl x S Q rk cdX7_cost J (n + 1) 24 ls st h = blk w cl x S Q rk 25 (jm w cl x S Q rk cdX7_cost J n) kX7_cost_24 ls st h := (rfl)
def kX7_way_0 : List (Nat × Instr × Nat) := [(0, .aload_n 0, 0), (1, .iload_n 1, 0), (2, .iload_n 2, 0), (3, .invokevirtual 178, 0), (6, .istore 4, 0), (8, .iload 4, 0), (10, .ifCond .eq 8, 18), (13, .iload 4, 0), (15, .goto 13, 28)]
def kX7_way_18 : List (Nat × Instr × Nat) := [(18, .aload_n 0, 0), (19, .getfield 30, 0), (22, .iload_n 1, 0), (23, .iload_n 2, 0), (24, .iload_n 3, 0), (25, .invokevirtual 184, 0)]
def kX7_way_28 : List (Nat × Instr × Nat) := [(28, .ireturn, 0)]
def cdX7_way : aCd := ([], [(0, 18, kX7_way_0), (18, 28, kX7_way_18), (28, 29, kX7_way_28)])
set_option maxRecDepth 100000 in
theorem okX7_way : okC cX7_way cdX7_way = true := by decide +kernel
theorem wX7_way : Cond.code yX7_way cX7_way 5 (rty 0) ∈ aT := aT_of 611 (by decide +kernel) (by decide +kernel)
theorem gX7_way_0 {w : List aE} {cl : List vw_C} {x : aX} {S : aS} {Q : Option Value → aH → Prop} {rk n : Nat} {J : Nat → List Value → List Value → aH → Prop} {ls st : List Value} {h : aH} : go w cl x S Q rk cdX7_way J n 0 ls st h = blk w cl x S Q rk 18 (jm w cl x S Q rk cdX7_way J n) kX7_way_0 ls st h := (rfl)
theorem jX7_way_18 {w : List aE} {cl : List vw_C} {x : aX} {S : aS} {Q : Option Value → aH → Prop} {rk n : Nat} {J : Nat → List Value → List Value → aH → Prop} {ls st : List Value} {h : aH} : jm w cl x S Q rk cdX7_way J (n + 1) 18 ls st h = blk w cl x S Q rk 28 (jm w cl x S Q rk cdX7_way J n) kX7_way_18 ls st h := (rfl)
theorem jX7_way_28 {w : List aE} {cl : List vw_C} {x : aX} {S : aS} {Q : Option Value → aH → Prop} {rk n : Nat} {J : Nat → List Value → List Value → aH → Prop} {ls st : List Value} {h : aH} : jm w cl x S Q rk cdX7_way J (n + 1) 28 ls st h = blk w cl x S Q rk 29 (jm w cl x S Q rk cdX7_way J n) kX7_way_28 ls st h := (rfl)
def kX7_ways_0 : List (Nat × Instr × Nat) := [(0, .aload_n 0, 0), (1, .iload_n 1, 0), (2, .invokevirtual 122, 0), (5, .istore_n 2, 0), (6, .iload_n 2, 0), (7, .ifCond .eq 7, 14), (10, .iload_n 2, 0), (11, .goto 11, 22)]
def kX7_ways_14 : List (Nat × Instr × Nat) := [(14, .aload_n 0, 0), (15, .getfield 30, 0), (18, .iload_n 1, 0), (19, .invokevirtual 187, 0)]
def kX7_ways_22 : List (Nat × Instr × Nat) := [(22, .ireturn, 0)]
def cdX7_ways : aCd := ([], [(0, 14, kX7_ways_0), (14, 22, kX7_ways_14), (22, 23, kX7_ways_22)])
set_option maxRecDepth 100000 in
theorem okX7_ways : okC cX7_ways cdX7_ways = true := by decide +kernel
theorem wX7_ways : Cond.code yX7_ways cX7_ways 3 (rty 0) ∈ aT := aT_of 623 (by decide +kernel) (by decide +kernel)
theorem gX7_ways_0 {w : List aE} {cl : List vw_C} {x : aX} {S : aS} {Q : Option Value → aH → Prop} {rk n : Nat} {J : Nat → List Value → List Value → aH → Prop} {ls st : List Value} {h : aH} : go w cl x S Q rk cdX7_ways J n 0 ls st h = blk w cl x S Q rk 14 (jm w cl x S Q rk cdX7_ways J n) kX7_ways_0 ls st h := (rfl)
theorem jX7_ways_14 {w : List aE} {cl : List vw_C} {x : aX} {S : aS} {Q : Option Value → aH → Prop} {rk n : Nat} {J : Nat → List Value → List Value → aH → Prop} {ls st : List Value} {h : aH} : jm w cl x S Q rk cdX7_ways J (n + 1) 14 ls st h = blk w cl x S Q rk 22 (jm w cl x S Q rk cdX7_ways J n) kX7_ways_14 ls st h := (rfl)
theorem jX7_ways_22 {w : List aE} {cl : List vw_C} {x : aX} {S : aS} {Q : Option Value → aH → Prop} {rk n : Nat} {J : Nat → List Value → List Value → aH → Prop} {ls st : List Value} {h : aH} : jm w cl x S Q rk cdX7_ways J (n + 1) 22 ls st h = blk w cl x S Q rk 23 (jm w cl x S Q rk cdX7_ways J n) kX7_ways_22 ls st h := (rfl)
def kX7_learn_0 : List (Nat × Instr × Nat) := [(0, .aload_n 0, 0), (1, .getfield 12, 0), (4, .iload_n 1, 0), (5, .invokevirtual 75, 0), (8, .ifCond .eq 14, 22), (11, .aload_n 0, 0), (12, .getfield 44, 0), (15, .iload_n 1, 0), (16, .invokevirtual 190, 0), (19, .goto 5, 24)]
def kX7_learn_22 : List (Nat × Instr × Nat) := [(22, .bipush (-2), 0)]
def kX7_learn_24 : List (Nat × Instr × Nat) := [(24, .ireturn, 0)]
def cdX7_learn : aCd := ([], [(0, 22, kX7_learn_0), (22, 24, kX7_learn_22), (24, 25, kX7_learn_24)])
set_option maxRecDepth 100000 in
theorem okX7_learn : okC cX7_learn cdX7_learn = true := by decide +kernel
theorem wX7_learn : Cond.code yX7_learn cX7_learn 2 (rty 0) ∈ aT := aT_of 632 (by decide +kernel) (by decide +kernel)
theorem gX7_learn_0 {w : List aE} {cl : List vw_C} {x : aX} {S : aS} {Q : Option Value → aH → Prop} {rk n : Nat} {J : Nat → List Value → List Value → aH → Prop} {ls st : List Value} {h : aH} : go w cl x S Q rk cdX7_learn J n 0 ls st h = blk w cl x S Q rk 22 (jm w cl x S Q rk cdX7_learn J n) kX7_learn_0 ls st h := (rfl)
theorem jX7_learn_22 {w : List aE} {cl : List vw_C} {x : aX} {S : aS} {Q : Option Value → aH → Prop} {rk n : Nat} {J : Nat → List Value → List Value → aH → Prop} {ls st : List Value} {h : aH} : jm w cl x S Q rk cdX7_learn J (n + 1) 22 ls st h = blk w cl x S Q rk 24 (jm w cl x S Q rk cdX7_learn J n) kX7_learn_22 ls st h := (rfl)
theorem jX7_learn_24 {w : List aE} {cl : List vw_C} {x : aX} {S : aS} {Q : Option Value → aH → Prop} {rk n : Nat} {J : Nat → List Value → List Value → aH → Prop} {ls st : List Value} {h : aH} : jm w cl x S Q rk cdX7_learn J (n + 1) 24 ls st h = blk w cl x S Q rk 25 (jm w cl x S Q rk cdX7_learn J n) kX7_learn_24 ls st h := (rfl)
def kX7_use_0 : List (Nat × Instr × Nat) := [(0, .aload_n 0, 0), (1, .getfield 12, 0), (4, .iload_n 1, 0), (5, .invokevirtual 75, 0), (8, .ifCond .eq 14, 22), (11, .aload_n 0, 0), (12, .getfield 44, 0), (15, .iload_n 1, 0), (16, .invokevirtual 193, 0), (19, .goto 5, 24)]
def kX7_use_22 : List (Nat × Instr × Nat) := [(22, .bipush (-2), 0)]
def kX7_use_24 : List (Nat × Instr × Nat) := [(24, .ireturn, 0)]
def cdX7_use : aCd := ([], [(0, 22, kX7_use_0), (22, 24, kX7_use_22), (24, 25, kX7_use_24)])
set_option maxRecDepth 100000 in
theorem okX7_use : okC cX7_use cdX7_use = true := by decide +kernel
theorem wX7_use : Cond.code yX7_use cX7_use 2 (rty 0) ∈ aT := aT_of 641 (by decide +kernel) (by decide +kernel)
theorem gX7_use_0 {w : List aE} {cl : List vw_C} {x : aX} {S : aS} {Q : Option Value → aH → Prop} {rk n : Nat} {J : Nat → List Value → List Value → aH → Prop} {ls st : List Value} {h : aH} : go w cl x S Q rk cdX7_use J n 0 ls st h = blk w cl x S Q rk 22 (jm w cl x S Q rk cdX7_use J n) kX7_use_0 ls st h := (rfl)
theorem jX7_use_22 {w : List aE} {cl : List vw_C} {x : aX} {S : aS} {Q : Option Value → aH → Prop} {rk n : Nat} {J : Nat → List Value → List Value → aH → Prop} {ls st : List Value} {h : aH} : jm w cl x S Q rk cdX7_use J (n + 1) 22 ls st h = blk w cl x S Q rk 24 (jm w cl x S Q rk cdX7_use J n) kX7_use_22 ls st h := (rfl)
theorem jX7_use_24 {w : List aE} {cl : List vw_C} {x : aX} {S : aS} {Q : Option Value → aH → Prop} {rk n : Nat} {J : Nat → List Value → List Value → aH → Prop} {ls st : List Value} {h : aH} : jm w cl x S Q rk cdX7_use J (n + 1) 24 ls st h = blk w cl x S Q rk 25 (jm w cl x S Q rk cdX7_use J n) kX7_use_24 ls st h := (rfl)
def kX7_pass_0 : List (Nat × Instr × Nat) := [(0, .iload_n 1, 0), (1, .iconst 1, 0), (2, .if_icmp .lt 9, 11), (5, .iload_n 1, 0), (6, .bipush 100, 0), (8, .if_icmp .le 6, 14)]
def kX7_pass_11 : List (Nat × Instr × Nat) := [(11, .bipush (-2), 0), (13, .ireturn, 0)]
def kX7_pass_14 : List (Nat × Instr × Nat) := [(14, .iconst 0, 0), (15, .istore_n 2, 0)]
def kX7_pass_16 : List (Nat × Instr × Nat) := [(16, .iload_n 2, 0), (17, .iload_n 1, 0), (18, .if_icmp .ge 16, 34), (21, .aload_n 0, 0), (22, .getfield 44, 0), (25, .invokevirtual 196, 0), (28, .iinc 2 1, 0), (31, .goto (-15), 16)]
def kX7_pass_34 : List (Nat × Instr × Nat) := [(34, .aload_n 0, 0), (35, .getfield 44, 0), (38, .getfield 199, 0), (41, .ireturn, 0)]
def cdX7_pass : aCd := ([16], [(0, 11, kX7_pass_0), (11, 14, kX7_pass_11), (14, 16, kX7_pass_14), (16, 34, kX7_pass_16), (34, 42, kX7_pass_34)])
set_option maxRecDepth 100000 in
theorem okX7_pass : okC cX7_pass cdX7_pass = true := by decide +kernel
theorem wX7_pass : Cond.code yX7_pass cX7_pass 3 (rty 0) ∈ aT := aT_of 649 (by decide +kernel) (by decide +kernel)
theorem gX7_pass_0 {w : List aE} {cl : List vw_C} {x : aX} {S : aS} {Q : Option Value → aH → Prop} {rk n : Nat} {J : Nat → List Value → List Value → aH → Prop} {ls st : List Value} {h : aH} : go w cl x S Q rk cdX7_pass J n 0 ls st h = blk w cl x S Q rk 11 (jm w cl x S Q rk cdX7_pass J n) kX7_pass_0 ls st h := (rfl)
theorem jX7_pass_11 {w : List aE} {cl : List vw_C} {x : aX} {S : aS} {Q : Option Value → aH → Prop} {rk n : Nat} {J : Nat → List Value → List Value → aH → Prop} {ls st : List Value} {h : aH} : jm w cl x S Q rk cdX7_pass J (n + 1) 11 ls st h = blk w cl x S Q rk 14 (jm w cl x S Q rk cdX7_pass J n) kX7_pass_11 ls st h := (rfl)
theorem jX7_pass_14 {w : List aE} {cl : List vw_C} {x : aX} {S : aS} {Q : Option Value → aH → Prop} {rk n : Nat} {J : Nat → List Value → List Value → aH → Prop} {ls st : List Value} {h : aH} : jm w cl x S Q rk cdX7_pass J (n + 1) 14 ls st h = blk w cl x S Q rk 16 (jm w cl x S Q rk cdX7_pass J n) kX7_pass_14 ls st h := (rfl)
theorem jX7_pass_16 {w : List aE} {cl : List vw_C} {x : aX} {S : aS} {Q : Option Value → aH → Prop} {rk n : Nat} {J : Nat → List Value → List Value → aH → Prop} {ls st : List Value} {h : aH} : jm w cl x S Q rk cdX7_pass J (n + 1) 16 ls st h = J 16 ls st h := (rfl)
theorem gX7_pass_16 {w : List aE} {cl : List vw_C} {x : aX} {S : aS} {Q : Option Value → aH → Prop} {rk n : Nat} {J : Nat → List Value → List Value → aH → Prop} {ls st : List Value} {h : aH} : go w cl x S Q rk cdX7_pass J n 16 ls st h = blk w cl x S Q rk 34 (jm w cl x S Q rk cdX7_pass J n) kX7_pass_16 ls st h := (rfl)
theorem jX7_pass_34 {w : List aE} {cl : List vw_C} {x : aX} {S : aS} {Q : Option Value → aH → Prop} {rk n : Nat} {J : Nat → List Value → List Value → aH → Prop} {ls st : List Value} {h : aH} : jm w cl x S Q rk cdX7_pass J (n + 1) 34 ls st h = blk w cl x S Q rk 42 (jm w cl x S Q rk cdX7_pass J n) kX7_pass_34 ls st h := (rfl)
def kX7_pupil_0 : List (Nat × Instr × Nat) := [(0, .aload_n 0, 0), (1, .iload_n 1, 0), (2, .invokevirtual 122, 0), (5, .istore_n 2, 0), (6, .iload_n 2, 0), (7, .ifCond .eq 5, 12), (10, .iload_n 2, 0), (11, .ireturn, 0)]
def kX7_pupil_12 : List (Nat × Instr × Nat) := [(12, .aload_n 0, 0), (13, .getfield 44, 0), (16, .iload_n 1, 0), (17, .invokevirtual 202, 0), (20, .iconst 1, 0), (21, .ireturn, 0)]
def cdX7_pupil : aCd := ([], [(0, 12, kX7_pupil_0), (12, 22, kX7_pupil_12)])
set_option maxRecDepth 100000 in
theorem okX7_pupil : okC cX7_pupil cdX7_pupil = true := by decide +kernel
theorem wX7_pupil : Cond.code yX7_pupil cX7_pupil 3 (rty 0) ∈ aT := aT_of 663 (by decide +kernel) (by decide +kernel)
theorem gX7_pupil_0 {w : List aE} {cl : List vw_C} {x : aX} {S : aS} {Q : Option Value → aH → Prop} {rk n : Nat} {J : Nat → List Value → List Value → aH → Prop} {ls st : List Value} {h : aH} : go w cl x S Q rk cdX7_pupil J n 0 ls st h = blk w cl x S Q rk 12 (jm w cl x S Q rk cdX7_pupil J n) kX7_pupil_0 ls st h := (rfl)
theorem jX7_pupil_12 {w : List aE} {cl : List vw_C} {x : aX} {S : aS} {Q : Option Value → aH → Prop} {rk n : Nat} {J : Nat → List Value → List Value → aH → Prop} {ls st : List Value} {h : aH} : jm w cl x S Q rk cdX7_pupil J (n + 1) 12 ls st h = blk w cl x S Q rk 22 (jm w cl x S Q rk cdX7_pupil J n) kX7_pupil_12 ls st h := (rfl)
def kX7_sheet_0 : List (Nat × Instr × Nat) := [(0, .iload_n 1, 0), (1, .invokestatic 205, 0), (4, .ifCond .eq 16, 20), (7, .iload_n 2, 0), (8, .invokestatic 207, 0), (11, .ifCond .eq 9, 20), (14, .iload_n 3, 0), (15, .bipush 40, 0), (17, .if_icmp .le 6, 23)]
def kX7_sheet_20 : List (Nat × Instr × Nat) := [(20, .bipush (-2), 0), (22, .ireturn, 0)]
def kX7_sheet_23 : List (Nat × Instr × Nat) := [(23, .iload_n 3, 0), (24, .ifCond .ge 12, 36), (27, .aload_n 0, 0), (28, .getfield 51, 0), (31, .iconst 5, 0), (32, .invokevirtual 210, 0), (35, .ireturn, 0)]
def kX7_sheet_36 : List (Nat × Instr × Nat) := [(36, .aload_n 0, 0), (37, .getfield 51, 0), (40, .iload_n 1, 0), (41, .iload_n 2, 0), (42, .iload_n 3, 0), (43, .invokevirtual 213, 0), (46, .iload_n 3, 0), (47, .ireturn, 0)]
def cdX7_sheet : aCd := ([], [(0, 20, kX7_sheet_0), (20, 23, kX7_sheet_20), (23, 36, kX7_sheet_23), (36, 48, kX7_sheet_36)])
set_option maxRecDepth 100000 in
theorem okX7_sheet : okC cX7_sheet cdX7_sheet = true := by decide +kernel
theorem wX7_sheet : Cond.code yX7_sheet cX7_sheet 4 (rty 0) ∈ aT := aT_of 667 (by decide +kernel) (by decide +kernel)
theorem gX7_sheet_0 {w : List aE} {cl : List vw_C} {x : aX} {S : aS} {Q : Option Value → aH → Prop} {rk n : Nat} {J : Nat → List Value → List Value → aH → Prop} {ls st : List Value} {h : aH} : go w cl x S Q rk cdX7_sheet J n 0 ls st h = blk w cl x S Q rk 20 (jm w cl x S Q rk cdX7_sheet J n) kX7_sheet_0 ls st h := (rfl)
theorem jX7_sheet_20 {w : List aE} {cl : List vw_C} {x : aX} {S : aS} {Q : Option Value → aH → Prop} {rk n : Nat} {J : Nat → List Value → List Value → aH → Prop} {ls st : List Value} {h : aH} : jm w cl x S Q rk cdX7_sheet J (n + 1) 20 ls st h = blk w cl x S Q rk 23 (jm w cl x S Q rk cdX7_sheet J n) kX7_sheet_20 ls st h := (rfl)
theorem jX7_sheet_23 {w : List aE} {cl : List vw_C} {x : aX} {S : aS} {Q : Option Value → aH → Prop} {rk n : Nat} {J : Nat → List Value → List Value → aH → Prop} {ls st : List Value} {h : aH} : jm w cl x S Q rk cdX7_sheet J (n + 1) 23 ls st h = blk w cl x S Q rk 36 (jm w cl x S Q rk cdX7_sheet J n) kX7_sheet_23 ls st h := (rfl)
theorem jX7_sheet_36 {w : List aE} {cl : List vw_C} {x : aX} {S : aS} {Q : Option Value → aH → Prop} {rk n : Nat} {J : Nat → List Value → List Value → aH → Prop} {ls st : List Value} {h : aH} : jm w cl x S Q rk cdX7_sheet J (n + 1) 36 ls st h = blk w cl x S Q rk 48 (jm w cl x S Q rk cdX7_sheet J n) kX7_sheet_36 ls st h := (rfl)
def kX7_lose_0 : List (Nat × Instr × Nat) := [(0, .aload_n 0, 0), (1, .iload_n 1, 0), (2, .invokevirtual 216, 0), (5, .istore_n 2, 0), (6, .iload_n 2, 0), (7, .ifCond .eq 7, 14), (10, .iload_n 2, 0), (11, .goto 11, 22)]
def kX7_lose_14 : List (Nat × Instr × Nat) := [(14, .aload_n 0, 0), (15, .getfield 51, 0), (18, .iload_n 1, 0), (19, .invokevirtual 219, 0)]
def kX7_lose_22 : List (Nat × Instr × Nat) := [(22, .ireturn, 0)]
def cdX7_lose : aCd := ([], [(0, 14, kX7_lose_0), (14, 22, kX7_lose_14), (22, 23, kX7_lose_22)])
set_option maxRecDepth 100000 in
theorem okX7_lose : okC cX7_lose cdX7_lose = true := by decide +kernel
theorem wX7_lose : Cond.code yX7_lose cX7_lose 3 (rty 0) ∈ aT := aT_of 685 (by decide +kernel) (by decide +kernel)
theorem gX7_lose_0 {w : List aE} {cl : List vw_C} {x : aX} {S : aS} {Q : Option Value → aH → Prop} {rk n : Nat} {J : Nat → List Value → List Value → aH → Prop} {ls st : List Value} {h : aH} : go w cl x S Q rk cdX7_lose J n 0 ls st h = blk w cl x S Q rk 14 (jm w cl x S Q rk cdX7_lose J n) kX7_lose_0 ls st h := (rfl)
theorem jX7_lose_14 {w : List aE} {cl : List vw_C} {x : aX} {S : aS} {Q : Option Value → aH → Prop} {rk n : Nat} {J : Nat → List Value → List Value → aH → Prop} {ls st : List Value} {h : aH} : jm w cl x S Q rk cdX7_lose J (n + 1) 14 ls st h = blk w cl x S Q rk 22 (jm w cl x S Q rk cdX7_lose J n) kX7_lose_14 ls st h := (rfl)
theorem jX7_lose_22 {w : List aE} {cl : List vw_C} {x : aX} {S : aS} {Q : Option Value → aH → Prop} {rk n : Nat} {J : Nat → List Value → List Value → aH → Prop} {ls st : List Value} {h : aH} : jm w cl x S Q rk cdX7_lose J (n + 1) 22 ls st h = blk w cl x S Q rk 23 (jm w cl x S Q rk cdX7_lose J n) kX7_lose_22 ls st h := (rfl)
def kX7_put_0 : List (Nat × Instr × Nat) := [(0, .aload_n 0, 0), (1, .iload_n 1, 0), (2, .iload_n 2, 0), (3, .iload_n 3, 0), (4, .invokevirtual 222, 0), (7, .istore 5, 0), (9, .iload 5, 0), (11, .ifCond .eq 6, 17), (14, .iload 5, 0), (16, .ireturn, 0)]
def kX7_put_17 : List (Nat × Instr × Nat) := [(17, .aload_n 0, 0), (18, .getfield 51, 0), (21, .iload_n 1, 0), (22, .iload_n 3, 0), (23, .iload 4, 0), (25, .invokevirtual 225, 0), (28, .iconst 1, 0), (29, .ireturn, 0)]
def cdX7_put : aCd := ([], [(0, 17, kX7_put_0), (17, 30, kX7_put_17)])
set_option maxRecDepth 100000 in
theorem okX7_put : okC cX7_put cdX7_put = true := by decide +kernel
theorem wX7_put : Cond.code yX7_put cX7_put 6 (rty 0) ∈ aT := aT_of 701 (by decide +kernel) (by decide +kernel)
theorem gX7_put_0 {w : List aE} {cl : List vw_C} {x : aX} {S : aS} {Q : Option Value → aH → Prop} {rk n : Nat} {J : Nat → List Value → List Value → aH → Prop} {ls st : List Value} {h : aH} : go w cl x S Q rk cdX7_put J n 0 ls st h = blk w cl x S Q rk 17 (jm w cl x S Q rk cdX7_put J n) kX7_put_0 ls st h := (rfl)
theorem jX7_put_17 {w : List aE} {cl : List vw_C} {x : aX} {S : aS} {Q : Option Value → aH → Prop} {rk n : Nat} {J : Nat → List Value → List Value → aH → Prop} {ls st : List Value} {h : aH} : jm w cl x S Q rk cdX7_put J (n + 1) 17 ls st h = blk w cl x S Q rk 30 (jm w cl x S Q rk cdX7_put J n) kX7_put_17 ls st h := (rfl)
def kX7_get_0 : List (Nat × Instr × Nat) := [(0, .aload_n 0, 0), (1, .iload_n 1, 0), (2, .iload_n 2, 0), (3, .iload_n 3, 0), (4, .invokevirtual 222, 0), (7, .ifCond .eq 8, 15), (10, .ldc 228, 0), (12, .goto 12, 24)]
def kX7_get_15 : List (Nat × Instr × Nat) := [(15, .aload_n 0, 0), (16, .getfield 51, 0), (19, .iload_n 1, 0), (20, .iload_n 3, 0), (21, .invokevirtual 229, 0)]
def kX7_get_24 : List (Nat × Instr × Nat) := [(24, .ireturn, 0)]
def cdX7_get : aCd := ([], [(0, 15, kX7_get_0), (15, 24, kX7_get_15), (24, 25, kX7_get_24)])
set_option maxRecDepth 100000 in
theorem okX7_get : okC cX7_get cdX7_get = true := by decide +kernel
theorem wX7_get : Cond.code yX7_get cX7_get 4 (rty 0) ∈ aT := aT_of 717 (by decide +kernel) (by decide +kernel)
theorem gX7_get_0 {w : List aE} {cl : List vw_C} {x : aX} {S : aS} {Q : Option Value → aH → Prop} {rk n : Nat} {J : Nat → List Value → List Value → aH → Prop} {ls st : List Value} {h : aH} : go w cl x S Q rk cdX7_get J n 0 ls st h = blk w cl x S Q rk 15 (jm w cl x S Q rk cdX7_get J n) kX7_get_0 ls st h := (rfl)
theorem jX7_get_15 {w : List aE} {cl : List vw_C} {x : aX} {S : aS} {Q : Option Value → aH → Prop} {rk n : Nat} {J : Nat → List Value → List Value → aH → Prop} {ls st : List Value} {h : aH} : jm w cl x S Q rk cdX7_get J (n + 1) 15 ls st h = blk w cl x S Q rk 24 (jm w cl x S Q rk cdX7_get J n) kX7_get_15 ls st h := (rfl)
theorem jX7_get_24 {w : List aE} {cl : List vw_C} {x : aX} {S : aS} {Q : Option Value → aH → Prop} {rk n : Nat} {J : Nat → List Value → List Value → aH → Prop} {ls st : List Value} {h : aH} : jm w cl x S Q rk cdX7_get J (n + 1) 24 ls st h = blk w cl x S Q rk 25 (jm w cl x S Q rk cdX7_get J n) kX7_get_24 ls st h := (rfl)
def kX7_copy_0 : List (Nat × Instr × Nat) := [(0, .iload_n 1, 0), (1, .invokestatic 205, 0), (4, .ifCond .eq 10, 14), (7, .iload_n 3, 0), (8, .invokestatic 205, 0), (11, .ifCond .ne 6, 17)]
def kX7_copy_14 : List (Nat × Instr × Nat) := [(14, .bipush (-2), 0), (16, .ireturn, 0)]
def kX7_copy_17 : List (Nat × Instr × Nat) := [(17, .aload_n 0, 0), (18, .getfield 51, 0), (21, .iload_n 1, 0), (22, .invokevirtual 232, 0), (25, .ifCond .ne 14, 39), (28, .aload_n 0, 0), (29, .getfield 51, 0), (32, .iload_n 3, 0), (33, .invokevirtual 232, 0), (36, .ifCond .eq 12, 48)]
def kX7_copy_39 : List (Nat × Instr × Nat) := [(39, .aload_n 0, 0), (40, .getfield 51, 0), (43, .iconst 1, 0), (44, .invokevirtual 210, 0), (47, .ireturn, 0)]
def kX7_copy_48 : List (Nat × Instr × Nat) := [(48, .aload_n 0, 0), (49, .getfield 51, 0), (52, .getfield 235, 0), (55, .iload_n 1, 0), (56, .iaload, 0), (57, .aload_n 0, 0), (58, .getfield 51, 0), (61, .getfield 235, 0), (64, .iload_n 3, 0), (65, .iaload, 0), (66, .if_icmp .eq 12, 78), (69, .aload_n 0, 0), (70, .getfield 51, 0), (73, .iconst 4, 0), (74, .invokevirtual 210, 0), (77, .ireturn, 0)]
def kX7_copy_78 : List (Nat × Instr × Nat) := [(78, .aload_n 0, 0), (79, .getfield 51, 0), (82, .iload_n 1, 0), (83, .iload_n 2, 0), (84, .iload 5, 0), (86, .invokevirtual 238, 0), (89, .ifCond .eq 18, 107), (92, .aload_n 0, 0), (93, .getfield 51, 0), (96, .iload_n 3, 0), (97, .iload 4, 0), (99, .iload 5, 0), (101, .invokevirtual 238, 0), (104, .ifCond .ne 12, 116)]
def kX7_copy_107 : List (Nat × Instr × Nat) := [(107, .aload_n 0, 0), (108, .getfield 51, 0), (111, .iconst 2, 0), (112, .invokevirtual 210, 0), (115, .ireturn, 0)]
def kX7_copy_116 : List (Nat × Instr × Nat) := [(116, .aload_n 0, 0), (117, .getfield 51, 0), (120, .iload_n 1, 0), (121, .iload_n 2, 0), (122, .iload_n 3, 0), (123, .iload 4, 0), (125, .iload 5, 0), (127, .invokevirtual 241, 0), (130, .iconst 1, 0), (131, .ireturn, 0)]
def cdX7_copy : aCd := ([], [(0, 14, kX7_copy_0), (14, 17, kX7_copy_14), (17, 39, kX7_copy_17), (39, 48, kX7_copy_39), (48, 78, kX7_copy_48), (78, 107, kX7_copy_78), (107, 116, kX7_copy_107), (116, 132, kX7_copy_116)])
set_option maxRecDepth 100000 in
theorem okX7_copy : okC cX7_copy cdX7_copy = true := by decide +kernel
theorem wX7_copy : Cond.code yX7_copy cX7_copy 6 (rty 0) ∈ aT := aT_of 726 (by decide +kernel) (by decide +kernel)
theorem gX7_copy_0 {w : List aE} {cl : List vw_C} {x : aX} {S : aS} {Q : Option Value → aH → Prop} {rk n : Nat} {J : Nat → List Value → List Value → aH → Prop} {ls st : List Value} {h : aH} : go w cl x S Q rk cdX7_copy J n 0 ls st h = blk w cl x S Q rk 14 (jm w cl x S Q rk cdX7_copy J n) kX7_copy_0 ls st h := (rfl)
theorem jX7_copy_14 {w : List aE} {cl : List vw_C} {x : aX} {S : aS} {Q : Option Value → aH → Prop} {rk n : Nat} {J : Nat → List Value → List Value → aH → Prop} {ls st : List Value} {h : aH} : jm w cl x S Q rk cdX7_copy J (n + 1) 14 ls st h = blk w cl x S Q rk 17 (jm w cl x S Q rk cdX7_copy J n) kX7_copy_14 ls st h := (rfl)
theorem jX7_copy_17 {w : List aE} {cl : List vw_C} {x : aX} {S : aS} {Q : Option Value → aH → Prop} {rk n : Nat} {J : Nat → List Value → List Value → aH → Prop} {ls st : List Value} {h : aH} : jm w cl x S Q rk cdX7_copy J (n + 1) 17 ls st h = blk w cl x S Q rk 39 (jm w cl x S Q rk cdX7_copy J n) kX7_copy_17 ls st h := (rfl)
theorem jX7_copy_39 {w : List aE} {cl : List vw_C} {x : aX} {S : aS} {Q : Option Value → aH → Prop} {rk n : Nat} {J : Nat → List Value → List Value → aH → Prop} {ls st : List Value} {h : aH} : jm w cl x S Q rk cdX7_copy J (n + 1) 39 ls st h = blk w cl x S Q rk 48 (jm w cl x S Q rk cdX7_copy J n) kX7_copy_39 ls st h := (rfl)
theorem jX7_copy_48 {w : List aE} {cl : List vw_C} {x : aX} {S : aS} {Q : Option Value → aH → Prop} {rk n : Nat} {J : Nat → List Value → List Value → aH → Prop} {ls st : List Value} {h : aH} : jm w cl x S Q rk cdX7_copy J (n + 1) 48 ls st h = blk w cl x S Q rk 78 (jm w cl x S Q rk cdX7_copy J n) kX7_copy_48 ls st h := (rfl)
theorem jX7_copy_78 {w : List aE} {cl : List vw_C} {x : aX} {S : aS} {Q : Option Value → aH → Prop} {rk n : Nat} {J : Nat → List Value → List Value → aH → Prop} {ls st : List Value} {h : aH} : jm w cl x S Q rk cdX7_copy J (n + 1) 78 ls st h = blk w cl x S Q rk 107 (jm w cl x S Q rk cdX7_copy J n) kX7_copy_78 ls st h := (rfl)
theorem jX7_copy_107 {w : List aE} {cl : List vw_C} {x : aX} {S : aS} {Q : Option Value → aH → Prop} {rk n : Nat} {J : Nat → List Value → List Value → aH → Prop} {ls st : List Value} {h : aH} : jm w cl x S Q rk cdX7_copy J (n + 1) 107 ls st h = blk w cl x S Q rk 116 (jm w cl x S Q rk cdX7_copy J n) kX7_copy_107 ls st h := (rfl)
theorem jX7_copy_116 {w : List aE} {cl : List vw_C} {x : aX} {S : aS} {Q : Option Value → aH → Prop} {rk n : Nat} {J : Nat → List Value → List Value → aH → Prop} {ls st : List Value} {h : aH} : jm w cl x S Q rk cdX7_copy J (n + 1) 116 ls st h = blk w cl x S Q rk 132 (jm w cl x S Q rk cdX7_copy J n) kX7_copy_116 ls st h := (rfl)
def kX7_nearest_0 : List (Nat × Instr × Nat) := [(0, .aload_n 0, 0), (1, .getfield 12, 0), (4, .iload_n 1, 0), (5, .invokevirtual 102, 0), (8, .ifCond .eq 14, 22), (11, .aload_n 0, 0), (12, .getfield 21, 0), (15, .iload_n 1, 0), (16, .invokevirtual 245, 0), (19, .goto 5, 24)]
def kX7_nearest_22 : List (Nat × Instr × Nat) := [(22, .bipush (-2), 0)]
def kX7_nearest_24 : List (Nat × Instr × Nat) := [(24, .ireturn, 0)]
def cdX7_nearest : aCd := ([], [(0, 22, kX7_nearest_0), (22, 24, kX7_nearest_22), (24, 25, kX7_nearest_24)])
set_option maxRecDepth 100000 in
theorem okX7_nearest : okC cX7_nearest cdX7_nearest = true := by decide +kernel
theorem wX7_nearest : Cond.code yX7_nearest cX7_nearest 2 (rty 0) ∈ aT := aT_of 741 (by decide +kernel) (by decide +kernel)
theorem gX7_nearest_0 {w : List aE} {cl : List vw_C} {x : aX} {S : aS} {Q : Option Value → aH → Prop} {rk n : Nat} {J : Nat → List Value → List Value → aH → Prop} {ls st : List Value} {h : aH} : go w cl x S Q rk cdX7_nearest J n 0 ls st h = blk w cl x S Q rk 22 (jm w cl x S Q rk cdX7_nearest J n) kX7_nearest_0 ls st h := (rfl)
theorem jX7_nearest_22 {w : List aE} {cl : List vw_C} {x : aX} {S : aS} {Q : Option Value → aH → Prop} {rk n : Nat} {J : Nat → List Value → List Value → aH → Prop} {ls st : List Value} {h : aH} : jm w cl x S Q rk cdX7_nearest J (n + 1) 22 ls st h = blk w cl x S Q rk 24 (jm w cl x S Q rk cdX7_nearest J n) kX7_nearest_22 ls st h := (rfl)
theorem jX7_nearest_24 {w : List aE} {cl : List vw_C} {x : aX} {S : aS} {Q : Option Value → aH → Prop} {rk n : Nat} {J : Nat → List Value → List Value → aH → Prop} {ls st : List Value} {h : aH} : jm w cl x S Q rk cdX7_nearest J (n + 1) 24 ls st h = blk w cl x S Q rk 25 (jm w cl x S Q rk cdX7_nearest J n) kX7_nearest_24 ls st h := (rfl)
def kX7_far_0 : List (Nat × Instr × Nat) := [(0, .aload_n 0, 0), (1, .getfield 12, 0), (4, .iload_n 1, 0), (5, .invokevirtual 102, 0), (8, .ifCond .eq 23, 31), (11, .aload_n 0, 0), (12, .getfield 12, 0), (15, .iload_n 2, 0), (16, .invokevirtual 102, 0), (19, .ifCond .eq 12, 31), (22, .iload_n 1, 0), (23, .iload_n 2, 0), (24, .ixor, 0), (25, .invokestatic 248, 0), (28, .goto 5, 33)]
def kX7_far_31 : List (Nat × Instr × Nat) := [(31, .bipush (-2), 0)]
def kX7_far_33 : List (Nat × Instr × Nat) := [(33, .ireturn, 0)]
def cdX7_far : aCd := ([], [(0, 31, kX7_far_0), (31, 33, kX7_far_31), (33, 34, kX7_far_33)])
set_option maxRecDepth 100000 in
theorem okX7_far : okC cX7_far cdX7_far = true := by decide +kernel
theorem wX7_far : Cond.code yX7_far cX7_far 3 (rty 0) ∈ aT := aT_of 749 (by decide +kernel) (by decide +kernel)
theorem gX7_far_0 {w : List aE} {cl : List vw_C} {x : aX} {S : aS} {Q : Option Value → aH → Prop} {rk n : Nat} {J : Nat → List Value → List Value → aH → Prop} {ls st : List Value} {h : aH} : go w cl x S Q rk cdX7_far J n 0 ls st h = blk w cl x S Q rk 31 (jm w cl x S Q rk cdX7_far J n) kX7_far_0 ls st h := (rfl)
theorem jX7_far_31 {w : List aE} {cl : List vw_C} {x : aX} {S : aS} {Q : Option Value → aH → Prop} {rk n : Nat} {J : Nat → List Value → List Value → aH → Prop} {ls st : List Value} {h : aH} : jm w cl x S Q rk cdX7_far J (n + 1) 31 ls st h = blk w cl x S Q rk 33 (jm w cl x S Q rk cdX7_far J n) kX7_far_31 ls st h := (rfl)
theorem jX7_far_33 {w : List aE} {cl : List vw_C} {x : aX} {S : aS} {Q : Option Value → aH → Prop} {rk n : Nat} {J : Nat → List Value → List Value → aH → Prop} {ls st : List Value} {h : aH} : jm w cl x S Q rk cdX7_far J (n + 1) 33 ls st h = blk w cl x S Q rk 34 (jm w cl x S Q rk cdX7_far J n) kX7_far_33 ls st h := (rfl)
def kX7_base_0 : List (Nat × Instr × Nat) := [(0, .aload_n 0, 0), (1, .getfield 21, 0), (4, .aload_n 0, 0), (5, .getfield 12, 0), (8, .invokevirtual 251, 0), (11, .iload_n 1, 0), (12, .invokevirtual 254, 0), (15, .ireturn, 0)]
def cdX7_base : aCd := ([], [(0, 16, kX7_base_0)])
set_option maxRecDepth 100000 in
theorem okX7_base : okC cX7_base cdX7_base = true := by decide +kernel
theorem wX7_base : Cond.code yX7_base cX7_base 2 (rty 0) ∈ aT := aT_of 754 (by decide +kernel) (by decide +kernel)
theorem gX7_base_0 {w : List aE} {cl : List vw_C} {x : aX} {S : aS} {Q : Option Value → aH → Prop} {rk n : Nat} {J : Nat → List Value → List Value → aH → Prop} {ls st : List Value} {h : aH} : go w cl x S Q rk cdX7_base J n 0 ls st h = blk w cl x S Q rk 16 (jm w cl x S Q rk cdX7_base J n) kX7_base_0 ls st h := (rfl)
def kX7_atom_0 : List (Nat × Instr × Nat) := [(0, .aload_n 0, 0), (1, .getfield 12, 0), (4, .iload_n 1, 0), (5, .invokevirtual 75, 0), (8, .ifCond .eq 23, 31), (11, .aload_n 0, 0), (12, .getfield 21, 0), (15, .aload_n 0, 0), (16, .getfield 12, 0), (19, .getfield 257, 0), (22, .iload_n 1, 0), (23, .iaload, 0), (24, .iload_n 2, 0), (25, .invokevirtual 254, 0), (28, .goto 5, 33)]
def kX7_atom_31 : List (Nat × Instr × Nat) := [(31, .bipush (-2), 0)]
def kX7_atom_33 : List (Nat × Instr × Nat) := [(33, .ireturn, 0)]
def cdX7_atom : aCd := ([], [(0, 31, kX7_atom_0), (31, 33, kX7_atom_31), (33, 34, kX7_atom_33)])
set_option maxRecDepth 100000 in
theorem okX7_atom : okC cX7_atom cdX7_atom = true := by decide +kernel
theorem wX7_atom : Cond.code yX7_atom cX7_atom 3 (rty 0) ∈ aT := aT_of 765 (by decide +kernel) (by decide +kernel)
theorem gX7_atom_0 {w : List aE} {cl : List vw_C} {x : aX} {S : aS} {Q : Option Value → aH → Prop} {rk n : Nat} {J : Nat → List Value → List Value → aH → Prop} {ls st : List Value} {h : aH} : go w cl x S Q rk cdX7_atom J n 0 ls st h = blk w cl x S Q rk 31 (jm w cl x S Q rk cdX7_atom J n) kX7_atom_0 ls st h := (rfl)
theorem jX7_atom_31 {w : List aE} {cl : List vw_C} {x : aX} {S : aS} {Q : Option Value → aH → Prop} {rk n : Nat} {J : Nat → List Value → List Value → aH → Prop} {ls st : List Value} {h : aH} : jm w cl x S Q rk cdX7_atom J (n + 1) 31 ls st h = blk w cl x S Q rk 33 (jm w cl x S Q rk cdX7_atom J n) kX7_atom_31 ls st h := (rfl)
theorem jX7_atom_33 {w : List aE} {cl : List vw_C} {x : aX} {S : aS} {Q : Option Value → aH → Prop} {rk n : Nat} {J : Nat → List Value → List Value → aH → Prop} {ls st : List Value} {h : aH} : jm w cl x S Q rk cdX7_atom J (n + 1) 33 ls st h = blk w cl x S Q rk 34 (jm w cl x S Q rk cdX7_atom J n) kX7_atom_33 ls st h := (rfl)
def kX7_misfit_0 : List (Nat × Instr × Nat) := [(0, .aload_n 0, 0), (1, .iload_n 1, 0), (2, .invokevirtual 216, 0), (5, .istore_n 2, 0), (6, .iload_n 2, 0), (7, .ifCond .eq 7, 14), (10, .iload_n 2, 0), (11, .goto 11, 22)]
def kX7_misfit_14 : List (Nat × Instr × Nat) := [(14, .aload_n 0, 0), (15, .getfield 60, 0), (18, .iload_n 1, 0), (19, .invokevirtual 260, 0)]
def kX7_misfit_22 : List (Nat × Instr × Nat) := [(22, .ireturn, 0)]
def cdX7_misfit : aCd := ([], [(0, 14, kX7_misfit_0), (14, 22, kX7_misfit_14), (22, 23, kX7_misfit_22)])
set_option maxRecDepth 100000 in
theorem okX7_misfit : okC cX7_misfit cdX7_misfit = true := by decide +kernel
theorem wX7_misfit : Cond.code yX7_misfit cX7_misfit 3 (rty 0) ∈ aT := aT_of 769 (by decide +kernel) (by decide +kernel)
theorem gX7_misfit_0 {w : List aE} {cl : List vw_C} {x : aX} {S : aS} {Q : Option Value → aH → Prop} {rk n : Nat} {J : Nat → List Value → List Value → aH → Prop} {ls st : List Value} {h : aH} : go w cl x S Q rk cdX7_misfit J n 0 ls st h = blk w cl x S Q rk 14 (jm w cl x S Q rk cdX7_misfit J n) kX7_misfit_0 ls st h := (rfl)
theorem jX7_misfit_14 {w : List aE} {cl : List vw_C} {x : aX} {S : aS} {Q : Option Value → aH → Prop} {rk n : Nat} {J : Nat → List Value → List Value → aH → Prop} {ls st : List Value} {h : aH} : jm w cl x S Q rk cdX7_misfit J (n + 1) 14 ls st h = blk w cl x S Q rk 22 (jm w cl x S Q rk cdX7_misfit J n) kX7_misfit_14 ls st h := (rfl)
theorem jX7_misfit_22 {w : List aE} {cl : List vw_C} {x : aX} {S : aS} {Q : Option Value → aH → Prop} {rk n : Nat} {J : Nat → List Value → List Value → aH → Prop} {ls st : List Value} {h : aH} : jm w cl x S Q rk cdX7_misfit J (n + 1) 22 ls st h = blk w cl x S Q rk 23 (jm w cl x S Q rk cdX7_misfit J n) kX7_misfit_22 ls st h := (rfl)
def kX7_odd_0 : List (Nat × Instr × Nat) := [(0, .aload_n 0, 0), (1, .getfield 12, 0), (4, .iload_n 2, 0), (5, .invokevirtual 75, 0), (8, .ifCond .eq 12, 20), (11, .iload_n 3, 0), (12, .ifCond .lt 8, 20), (15, .iload_n 3, 0), (16, .iconst 1, 0), (17, .if_icmp .le 6, 23)]
def kX7_odd_20 : List (Nat × Instr × Nat) := [(20, .bipush (-2), 0), (22, .ireturn, 0)]
def kX7_odd_23 : List (Nat × Instr × Nat) := [(23, .aload_n 0, 0), (24, .iload_n 1, 0), (25, .invokevirtual 216, 0), (28, .istore 4, 0), (30, .iload 4, 0), (32, .ifCond .eq 8, 40), (35, .iload 4, 0), (37, .goto 13, 50)]
def kX7_odd_40 : List (Nat × Instr × Nat) := [(40, .aload_n 0, 0), (41, .getfield 60, 0), (44, .iload_n 1, 0), (45, .iload_n 2, 0), (46, .iload_n 3, 0), (47, .invokevirtual 263, 0)]
def kX7_odd_50 : List (Nat × Instr × Nat) := [(50, .ireturn, 0)]
def cdX7_odd : aCd := ([], [(0, 20, kX7_odd_0), (20, 23, kX7_odd_20), (23, 40, kX7_odd_23), (40, 50, kX7_odd_40), (50, 51, kX7_odd_50)])
set_option maxRecDepth 100000 in
theorem okX7_odd : okC cX7_odd cdX7_odd = true := by decide +kernel
theorem wX7_odd : Cond.code yX7_odd cX7_odd 5 (rty 0) ∈ aT := aT_of 787 (by decide +kernel) (by decide +kernel)
theorem gX7_odd_0 {w : List aE} {cl : List vw_C} {x : aX} {S : aS} {Q : Option Value → aH → Prop} {rk n : Nat} {J : Nat → List Value → List Value → aH → Prop} {ls st : List Value} {h : aH} : go w cl x S Q rk cdX7_odd J n 0 ls st h = blk w cl x S Q rk 20 (jm w cl x S Q rk cdX7_odd J n) kX7_odd_0 ls st h := (rfl)
theorem jX7_odd_20 {w : List aE} {cl : List vw_C} {x : aX} {S : aS} {Q : Option Value → aH → Prop} {rk n : Nat} {J : Nat → List Value → List Value → aH → Prop} {ls st : List Value} {h : aH} : jm w cl x S Q rk cdX7_odd J (n + 1) 20 ls st h = blk w cl x S Q rk 23 (jm w cl x S Q rk cdX7_odd J n) kX7_odd_20 ls st h := (rfl)
theorem jX7_odd_23 {w : List aE} {cl : List vw_C} {x : aX} {S : aS} {Q : Option Value → aH → Prop} {rk n : Nat} {J : Nat → List Value → List Value → aH → Prop} {ls st : List Value} {h : aH} : jm w cl x S Q rk cdX7_odd J (n + 1) 23 ls st h = blk w cl x S Q rk 40 (jm w cl x S Q rk cdX7_odd J n) kX7_odd_23 ls st h := (rfl)
theorem jX7_odd_40 {w : List aE} {cl : List vw_C} {x : aX} {S : aS} {Q : Option Value → aH → Prop} {rk n : Nat} {J : Nat → List Value → List Value → aH → Prop} {ls st : List Value} {h : aH} : jm w cl x S Q rk cdX7_odd J (n + 1) 40 ls st h = blk w cl x S Q rk 50 (jm w cl x S Q rk cdX7_odd J n) kX7_odd_40 ls st h := (rfl)
theorem jX7_odd_50 {w : List aE} {cl : List vw_C} {x : aX} {S : aS} {Q : Option Value → aH → Prop} {rk n : Nat} {J : Nat → List Value → List Value → aH → Prop} {ls st : List Value} {h : aH} : jm w cl x S Q rk cdX7_odd J (n + 1) 50 ls st h = blk w cl x S Q rk 51 (jm w cl x S Q rk cdX7_odd J n) kX7_odd_50 ls st h := (rfl)
def kX7_seen_0 : List (Nat × Instr × Nat) := [(0, .aload_n 0, 0), (1, .getfield 12, 0), (4, .iload_n 2, 0), (5, .invokevirtual 75, 0), (8, .ifCond .eq 13, 21), (11, .iload_n 3, 0), (12, .ifCond .lt 9, 21), (15, .iload_n 3, 0), (16, .bipush 40, 0), (18, .if_icmp .le 6, 24)]
def kX7_seen_21 : List (Nat × Instr × Nat) := [(21, .bipush (-2), 0), (23, .ireturn, 0)]
def kX7_seen_24 : List (Nat × Instr × Nat) := [(24, .aload_n 0, 0), (25, .iload_n 1, 0), (26, .invokevirtual 216, 0), (29, .istore 4, 0), (31, .iload 4, 0), (33, .ifCond .eq 8, 41), (36, .iload 4, 0), (38, .goto 13, 51)]
def kX7_seen_41 : List (Nat × Instr × Nat) := [(41, .aload_n 0, 0), (42, .getfield 60, 0), (45, .iload_n 1, 0), (46, .iload_n 2, 0), (47, .iload_n 3, 0), (48, .invokevirtual 266, 0)]
def kX7_seen_51 : List (Nat × Instr × Nat) := [(51, .ireturn, 0)]
def cdX7_seen : aCd := ([], [(0, 21, kX7_seen_0), (21, 24, kX7_seen_21), (24, 41, kX7_seen_24), (41, 51, kX7_seen_41), (51, 52, kX7_seen_51)])
set_option maxRecDepth 100000 in
theorem okX7_seen : okC cX7_seen cdX7_seen = true := by decide +kernel
theorem wX7_seen : Cond.code yX7_seen cX7_seen 5 (rty 0) ∈ aT := aT_of 796 (by decide +kernel) (by decide +kernel)
theorem gX7_seen_0 {w : List aE} {cl : List vw_C} {x : aX} {S : aS} {Q : Option Value → aH → Prop} {rk n : Nat} {J : Nat → List Value → List Value → aH → Prop} {ls st : List Value} {h : aH} : go w cl x S Q rk cdX7_seen J n 0 ls st h = blk w cl x S Q rk 21 (jm w cl x S Q rk cdX7_seen J n) kX7_seen_0 ls st h := (rfl)
theorem jX7_seen_21 {w : List aE} {cl : List vw_C} {x : aX} {S : aS} {Q : Option Value → aH → Prop} {rk n : Nat} {J : Nat → List Value → List Value → aH → Prop} {ls st : List Value} {h : aH} : jm w cl x S Q rk cdX7_seen J (n + 1) 21 ls st h = blk w cl x S Q rk 24 (jm w cl x S Q rk cdX7_seen J n) kX7_seen_21 ls st h := (rfl)
theorem jX7_seen_24 {w : List aE} {cl : List vw_C} {x : aX} {S : aS} {Q : Option Value → aH → Prop} {rk n : Nat} {J : Nat → List Value → List Value → aH → Prop} {ls st : List Value} {h : aH} : jm w cl x S Q rk cdX7_seen J (n + 1) 24 ls st h = blk w cl x S Q rk 41 (jm w cl x S Q rk cdX7_seen J n) kX7_seen_24 ls st h := (rfl)
theorem jX7_seen_41 {w : List aE} {cl : List vw_C} {x : aX} {S : aS} {Q : Option Value → aH → Prop} {rk n : Nat} {J : Nat → List Value → List Value → aH → Prop} {ls st : List Value} {h : aH} : jm w cl x S Q rk cdX7_seen J (n + 1) 41 ls st h = blk w cl x S Q rk 51 (jm w cl x S Q rk cdX7_seen J n) kX7_seen_41 ls st h := (rfl)
theorem jX7_seen_51 {w : List aE} {cl : List vw_C} {x : aX} {S : aS} {Q : Option Value → aH → Prop} {rk n : Nat} {J : Nat → List Value → List Value → aH → Prop} {ls st : List Value} {h : aH} : jm w cl x S Q rk cdX7_seen J (n + 1) 51 ls st h = blk w cl x S Q rk 52 (jm w cl x S Q rk cdX7_seen J n) kX7_seen_51 ls st h := (rfl)
def kX7_common_0 : List (Nat × Instr × Nat) := [(0, .aload_n 0, 0), (1, .iload_n 1, 0), (2, .invokevirtual 216, 0), (5, .istore_n 2, 0), (6, .iload_n 2, 0), (7, .ifCond .eq 7, 14), (10, .iload_n 2, 0), (11, .goto 11, 22)]
def kX7_common_14 : List (Nat × Instr × Nat) := [(14, .aload_n 0, 0), (15, .getfield 60, 0), (18, .iload_n 1, 0), (19, .invokevirtual 269, 0)]
def kX7_common_22 : List (Nat × Instr × Nat) := [(22, .ireturn, 0)]
def cdX7_common : aCd := ([], [(0, 14, kX7_common_0), (14, 22, kX7_common_14), (22, 23, kX7_common_22)])
set_option maxRecDepth 100000 in
theorem okX7_common : okC cX7_common cdX7_common = true := by decide +kernel
theorem wX7_common : Cond.code yX7_common cX7_common 3 (rty 0) ∈ aT := aT_of 808 (by decide +kernel) (by decide +kernel)
theorem gX7_common_0 {w : List aE} {cl : List vw_C} {x : aX} {S : aS} {Q : Option Value → aH → Prop} {rk n : Nat} {J : Nat → List Value → List Value → aH → Prop} {ls st : List Value} {h : aH} : go w cl x S Q rk cdX7_common J n 0 ls st h = blk w cl x S Q rk 14 (jm w cl x S Q rk cdX7_common J n) kX7_common_0 ls st h := (rfl)
theorem jX7_common_14 {w : List aE} {cl : List vw_C} {x : aX} {S : aS} {Q : Option Value → aH → Prop} {rk n : Nat} {J : Nat → List Value → List Value → aH → Prop} {ls st : List Value} {h : aH} : jm w cl x S Q rk cdX7_common J (n + 1) 14 ls st h = blk w cl x S Q rk 22 (jm w cl x S Q rk cdX7_common J n) kX7_common_14 ls st h := (rfl)
theorem jX7_common_22 {w : List aE} {cl : List vw_C} {x : aX} {S : aS} {Q : Option Value → aH → Prop} {rk n : Nat} {J : Nat → List Value → List Value → aH → Prop} {ls st : List Value} {h : aH} : jm w cl x S Q rk cdX7_common J (n + 1) 22 ls st h = blk w cl x S Q rk 23 (jm w cl x S Q rk cdX7_common J n) kX7_common_22 ls st h := (rfl)
def kX7_judge_0 : List (Nat × Instr × Nat) := [(0, .aload_n 0, 0), (1, .iload_n 1, 0), (2, .invokevirtual 216, 0), (5, .istore_n 3, 0), (6, .iload_n 3, 0), (7, .ifCond .eq 5, 12), (10, .iload_n 3, 0), (11, .ireturn, 0)]
def kX7_judge_12 : List (Nat × Instr × Nat) := [(12, .aload_n 0, 0), (13, .getfield 51, 0), (16, .iload_n 1, 0), (17, .iload_n 2, 0), (18, .invokevirtual 272, 0), (21, .ifCond .ne 12, 33), (24, .aload_n 0, 0), (25, .getfield 51, 0), (28, .iconst 2, 0), (29, .invokevirtual 210, 0), (32, .ireturn, 0)]
def kX7_judge_33 : List (Nat × Instr × Nat) := [(33, .aload_n 0, 0), (34, .getfield 37, 0), (37, .aload_n 0, 0), (38, .getfield 60, 0), (41, .iload_n 1, 0), (42, .iload_n 2, 0), (43, .invokevirtual 275, 0), (46, .invokevirtual 278, 0), (49, .ireturn, 0)]
def cdX7_judge : aCd := ([], [(0, 12, kX7_judge_0), (12, 33, kX7_judge_12), (33, 50, kX7_judge_33)])
set_option maxRecDepth 100000 in
theorem okX7_judge : okC cX7_judge cdX7_judge = true := by decide +kernel
theorem wX7_judge : Cond.code yX7_judge cX7_judge 4 (rty 0) ∈ aT := aT_of 820 (by decide +kernel) (by decide +kernel)
theorem gX7_judge_0 {w : List aE} {cl : List vw_C} {x : aX} {S : aS} {Q : Option Value → aH → Prop} {rk n : Nat} {J : Nat → List Value → List Value → aH → Prop} {ls st : List Value} {h : aH} : go w cl x S Q rk cdX7_judge J n 0 ls st h = blk w cl x S Q rk 12 (jm w cl x S Q rk cdX7_judge J n) kX7_judge_0 ls st h := (rfl)
theorem jX7_judge_12 {w : List aE} {cl : List vw_C} {x : aX} {S : aS} {Q : Option Value → aH → Prop} {rk n : Nat} {J : Nat → List Value → List Value → aH → Prop} {ls st : List Value} {h : aH} : jm w cl x S Q rk cdX7_judge J (n + 1) 12 ls st h = blk w cl x S Q rk 33 (jm w cl x S Q rk cdX7_judge J n) kX7_judge_12 ls st h := (rfl)
theorem jX7_judge_33 {w : List aE} {cl : List vw_C} {x : aX} {S : aS} {Q : Option Value → aH → Prop} {rk n : Nat} {J : Nat → List Value → List Value → aH → Prop} {ls st : List Value} {h : aH} : jm w cl x S Q rk cdX7_judge J (n + 1) 33 ls st h = blk w cl x S Q rk 50 (jm w cl x S Q rk cdX7_judge J n) kX7_judge_33 ls st h := (rfl)
def kX7_count_0 : List (Nat × Instr × Nat) := [(0, .iload_n 1, 0), (1, .tableswitch 111 0 7 #[47, 55, 63, 71, 79, 87, 95, 103], 0)]
def kX7_count_48 : List (Nat × Instr × Nat) := [(48, .aload_n 0, 0), (49, .getfield 12, 0), (52, .getfield 281, 0), (55, .ireturn, 0)]
def kX7_count_56 : List (Nat × Instr × Nat) := [(56, .aload_n 0, 0), (57, .getfield 44, 0), (60, .getfield 199, 0), (63, .ireturn, 0)]
def kX7_count_64 : List (Nat × Instr × Nat) := [(64, .aload_n 0, 0), (65, .getfield 44, 0), (68, .getfield 282, 0), (71, .ireturn, 0)]
def kX7_count_72 : List (Nat × Instr × Nat) := [(72, .aload_n 0, 0), (73, .getfield 44, 0), (76, .getfield 285, 0), (79, .ireturn, 0)]
def kX7_count_80 : List (Nat × Instr × Nat) := [(80, .aload_n 0, 0), (81, .getfield 37, 0), (84, .getfield 288, 0), (87, .ireturn, 0)]
def kX7_count_88 : List (Nat × Instr × Nat) := [(88, .aload_n 0, 0), (89, .getfield 37, 0), (92, .getfield 291, 0), (95, .ireturn, 0)]
def kX7_count_96 : List (Nat × Instr × Nat) := [(96, .aload_n 0, 0), (97, .getfield 37, 0), (100, .getfield 294, 0), (103, .ireturn, 0)]
def kX7_count_104 : List (Nat × Instr × Nat) := [(104, .aload_n 0, 0), (105, .getfield 51, 0), (108, .getfield 297, 0), (111, .ireturn, 0)]
def kX7_count_112 : List (Nat × Instr × Nat) := [(112, .bipush (-2), 0), (114, .ireturn, 0)]
def cdX7_count : aCd := ([], [(0, 2, kX7_count_0), (48, 56, kX7_count_48), (56, 64, kX7_count_56), (64, 72, kX7_count_64), (72, 80, kX7_count_72), (80, 88, kX7_count_80), (88, 96, kX7_count_88), (96, 104, kX7_count_96), (104, 112, kX7_count_104), (112, 115, kX7_count_112)])
set_option maxRecDepth 100000 in
theorem okX7_count : okC cX7_count cdX7_count = true := by decide +kernel
theorem wX7_count : Cond.code yX7_count cX7_count 2 (rty 0) ∈ aT := aT_of 831 (by decide +kernel) (by decide +kernel)
theorem gX7_count_0 {w : List aE} {cl : List vw_C} {x : aX} {S : aS} {Q : Option Value → aH → Prop} {rk n : Nat} {J : Nat → List Value → List Value → aH → Prop} {ls st : List Value} {h : aH} : go w cl x S Q rk cdX7_count J n 0 ls st h = blk w cl x S Q rk 2 (jm w cl x S Q rk cdX7_count J n) kX7_count_0 ls st h := (rfl)
theorem jX7_count_48 {w : List aE} {cl : List vw_C} {x : aX} {S : aS} {Q : Option Value → aH → Prop} {rk n : Nat} {J : Nat → List Value → List Value → aH → Prop} {ls st : List Value} {h : aH} : jm w cl x S Q rk cdX7_count J (n + 1) 48 ls st h = blk w cl x S Q rk 56 (jm w cl x S Q rk cdX7_count J n) kX7_count_48 ls st h := (rfl)
theorem jX7_count_56 {w : List aE} {cl : List vw_C} {x : aX} {S : aS} {Q : Option Value → aH → Prop} {rk n : Nat} {J : Nat → List Value → List Value → aH → Prop} {ls st : List Value} {h : aH} : jm w cl x S Q rk cdX7_count J (n + 1) 56 ls st h = blk w cl x S Q rk 64 (jm w cl x S Q rk cdX7_count J n) kX7_count_56 ls st h := (rfl)
theorem jX7_count_64 {w : List aE} {cl : List vw_C} {x : aX} {S : aS} {Q : Option Value → aH → Prop} {rk n : Nat} {J : Nat → List Value → List Value → aH → Prop} {ls st : List Value} {h : aH} : jm w cl x S Q rk cdX7_count J (n + 1) 64 ls st h = blk w cl x S Q rk 72 (jm w cl x S Q rk cdX7_count J n) kX7_count_64 ls st h := (rfl)
theorem jX7_count_72 {w : List aE} {cl : List vw_C} {x : aX} {S : aS} {Q : Option Value → aH → Prop} {rk n : Nat} {J : Nat → List Value → List Value → aH → Prop} {ls st : List Value} {h : aH} : jm w cl x S Q rk cdX7_count J (n + 1) 72 ls st h = blk w cl x S Q rk 80 (jm w cl x S Q rk cdX7_count J n) kX7_count_72 ls st h := (rfl)
theorem jX7_count_80 {w : List aE} {cl : List vw_C} {x : aX} {S : aS} {Q : Option Value → aH → Prop} {rk n : Nat} {J : Nat → List Value → List Value → aH → Prop} {ls st : List Value} {h : aH} : jm w cl x S Q rk cdX7_count J (n + 1) 80 ls st h = blk w cl x S Q rk 88 (jm w cl x S Q rk cdX7_count J n) kX7_count_80 ls st h := (rfl)
theorem jX7_count_88 {w : List aE} {cl : List vw_C} {x : aX} {S : aS} {Q : Option Value → aH → Prop} {rk n : Nat} {J : Nat → List Value → List Value → aH → Prop} {ls st : List Value} {h : aH} : jm w cl x S Q rk cdX7_count J (n + 1) 88 ls st h = blk w cl x S Q rk 96 (jm w cl x S Q rk cdX7_count J n) kX7_count_88 ls st h := (rfl)
theorem jX7_count_96 {w : List aE} {cl : List vw_C} {x : aX} {S : aS} {Q : Option Value → aH → Prop} {rk n : Nat} {J : Nat → List Value → List Value → aH → Prop} {ls st : List Value} {h : aH} : jm w cl x S Q rk cdX7_count J (n + 1) 96 ls st h = blk w cl x S Q rk 104 (jm w cl x S Q rk cdX7_count J n) kX7_count_96 ls st h := (rfl)
theorem jX7_count_104 {w : List aE} {cl : List vw_C} {x : aX} {S : aS} {Q : Option Value → aH → Prop} {rk n : Nat} {J : Nat → List Value → List Value → aH → Prop} {ls st : List Value} {h : aH} : jm w cl x S Q rk cdX7_count J (n + 1) 104 ls st h = blk w cl x S Q rk 112 (jm w cl x S Q rk cdX7_count J n) kX7_count_104 ls st h := (rfl)
theorem jX7_count_112 {w : List aE} {cl : List vw_C} {x : aX} {S : aS} {Q : Option Value → aH → Prop} {rk n : Nat} {J : Nat → List Value → List Value → aH → Prop} {ls st : List Value} {h : aH} : jm w cl x S Q rk cdX7_count J (n + 1) 112 ls st h = blk w cl x S Q rk 115 (jm w cl x S Q rk cdX7_count J n) kX7_count_112 ls st h := (rfl)
def kX7_digest_0 : List (Nat × Instr × Nat) := [(0, .ldc2_w 300, 0), (3, .lstore_n 1, 0), (4, .iconst 0, 0), (5, .istore_n 3, 0)]
def kX7_digest_6 : List (Nat × Instr × Nat) := [(6, .iload_n 3, 0), (7, .bipush 6, 0), (9, .if_icmp .gt 22, 31), (12, .ldc2_w 302, 0), (15, .lload_n 1, 0), (16, .lmul, 0), (17, .aload_n 0, 0), (18, .iload_n 3, 0), (19, .invokevirtual 304, 0), (22, .i2l, 0), (23, .ladd, 0), (24, .lstore_n 1, 0), (25, .iinc 3 1, 0), (28, .goto (-22), 6)]
def kX7_digest_31 : List (Nat × Instr × Nat) := [(31, .ldc2_w 302, 0), (34, .lload_n 1, 0), (35, .lmul, 0), (36, .aload_n 0, 0), (37, .getfield 21, 0), (40, .getfield 109, 0), (43, .i2l, 0), (44, .ladd, 0), (45, .lstore_n 1, 0), (46, .iconst 0, 0), (47, .istore_n 3, 0)]
def kX7_digest_48 : List (Nat × Instr × Nat) := [(48, .iload_n 3, 0), (49, .aload_n 0, 0), (50, .getfield 12, 0), (53, .getfield 281, 0), (56, .if_icmp .ge 39, 95), (59, .iconst 0, 0), (60, .istore 4, 0)]
def kX7_digest_62 : List (Nat × Instr × Nat) := [(62, .iload 4, 0), (64, .iconst 4, 0), (65, .if_icmp .gt 24, 89), (68, .ldc2_w 302, 0), (71, .lload_n 1, 0), (72, .lmul, 0), (73, .aload_n 0, 0), (74, .iload_n 3, 0), (75, .iload 4, 0), (77, .invokevirtual 307, 0), (80, .i2l, 0), (81, .ladd, 0), (82, .lstore_n 1, 0), (83, .iinc 4 1, 0), (86, .goto (-24), 62)]
def kX7_digest_89 : List (Nat × Instr × Nat) := [(89, .iinc 3 1, 0), (92, .goto (-44), 48)]
def kX7_digest_95 : List (Nat × Instr × Nat) := [(95, .iconst 0, 0), (96, .istore_n 3, 0)]
def kX7_digest_97 : List (Nat × Instr × Nat) := [(97, .iload_n 3, 0), (98, .aload_n 0, 0), (99, .getfield 21, 0), (102, .getfield 109, 0), (105, .if_icmp .ge 47, 152), (108, .aload_n 0, 0), (109, .getfield 21, 0), (112, .getfield 116, 0), (115, .iload_n 3, 0), (116, .iaload, 0), (117, .istore 4, 0), (119, .ldc2_w 302, 0), (122, .lload_n 1, 0), (123, .lmul, 0), (124, .iload 4, 0), (126, .i2l, 0), (127, .ladd, 0), (128, .lstore_n 1, 0), (129, .ldc2_w 302, 0), (132, .lload_n 1, 0), (133, .lmul, 0), (134, .aload_n 0, 0), (135, .getfield 37, 0), (138, .getfield 165, 0), (141, .iload 4, 0), (143, .laload, 0), (144, .ladd, 0), (145, .lstore_n 1, 0), (146, .iinc 3 1, 0), (149, .goto (-52), 97)]
def kX7_digest_152 : List (Nat × Instr × Nat) := [(152, .lload_n 1, 0), (153, .lreturn, 0)]
def cdX7_digest : aCd := ([6, 48, 62, 97], [(0, 6, kX7_digest_0), (6, 31, kX7_digest_6), (31, 48, kX7_digest_31), (48, 62, kX7_digest_48), (62, 89, kX7_digest_62), (89, 95, kX7_digest_89), (95, 97, kX7_digest_95), (97, 152, kX7_digest_97), (152, 154, kX7_digest_152)])
set_option maxRecDepth 100000 in
theorem okX7_digest : okC cX7_digest cdX7_digest = true := by decide +kernel
theorem wX7_digest : Cond.code yX7_digest cX7_digest 5 (rty 2) ∈ aT := aT_of 835 (by decide +kernel) (by decide +kernel)
theorem gX7_digest_0 {w : List aE} {cl : List vw_C} {x : aX} {S : aS} {Q : Option Value → aH → Prop} {rk n : Nat} {J : Nat → List Value → List Value → aH → Prop} {ls st : List Value} {h : aH} : go w cl x S Q rk cdX7_digest J n 0 ls st h = blk w cl x S Q rk 6 (jm w cl x S Q rk cdX7_digest J n) kX7_digest_0 ls st h := (rfl)
theorem jX7_digest_6 {w : List aE} {cl : List vw_C} {x : aX} {S : aS} {Q : Option Value → aH → Prop} {rk n : Nat} {J : Nat → List Value → List Value → aH → Prop} {ls st : List Value} {h : aH} : jm w cl x S Q rk cdX7_digest J (n + 1) 6 ls st h = J 6 ls st h := (rfl)
theorem gX7_digest_6 {w : List aE} {cl : List vw_C} {x : aX} {S : aS} {Q : Option Value → aH → Prop} {rk n : Nat} {J : Nat → List Value → List Value → aH → Prop} {ls st : List Value} {h : aH} : go w cl x S Q rk cdX7_digest J n 6 ls st h = blk w cl x S Q rk 31 (jm w cl x S Q rk cdX7_digest J n) kX7_digest_6 ls st h := (rfl)
theorem jX7_digest_31 {w : List aE} {cl : List vw_C} {x : aX} {S : aS} {Q : Option Value → aH → Prop} {rk n : Nat} {J : Nat → List Value → List Value → aH → Prop} {ls st : List Value} {h : aH} : jm w cl x S Q rk cdX7_digest J (n + 1) 31 ls st h = blk w cl x S Q rk 48 (jm w cl x S Q rk cdX7_digest J n) kX7_digest_31 ls st h := (rfl)
theorem jX7_digest_48 {w : List aE} {cl : List vw_C} {x : aX} {S : aS} {Q : Option Value → aH → Prop} {rk n : Nat} {J : Nat → List Value → List Value → aH → Prop} {ls st : List Value} {h : aH} : jm w cl x S Q rk cdX7_digest J (n + 1) 48 ls st h = J 48 ls st h := (rfl)
theorem gX7_digest_48 {w : List aE} {cl : List vw_C} {x : aX} {S : aS} {Q : Option Value → aH → Prop} {rk n : Nat} {J : Nat → List Value → List Value → aH → Prop} {ls st : List Value} {h : aH} : go w cl x S Q rk cdX7_digest J n 48 ls st h = blk w cl x S Q rk 62 (jm w cl x S Q rk cdX7_digest J n) kX7_digest_48 ls st h := (rfl)
theorem jX7_digest_62 {w : List aE} {cl : List vw_C} {x : aX} {S : aS} {Q : Option Value → aH → Prop} {rk n : Nat} {J : Nat → List Value → List Value → aH → Prop} {ls st : List Value} {h : aH} : jm w cl x S Q rk cdX7_digest J (n + 1) 62 ls st h = J 62 ls st h := (rfl)
theorem gX7_digest_62 {w : List aE} {cl : List vw_C} {x : aX} {S : aS} {Q : Option Value → aH → Prop} {rk n : Nat} {J : Nat → List Value → List Value → aH → Prop} {ls st : List Value} {h : aH} : go w cl x S Q rk cdX7_digest J n 62 ls st h = blk w cl x S Q rk 89 (jm w cl x S Q rk cdX7_digest J n) kX7_digest_62 ls st h := (rfl)
theorem jX7_digest_89 {w : List aE} {cl : List vw_C} {x : aX} {S : aS} {Q : Option Value → aH → Prop} {rk n : Nat} {J : Nat → List Value → List Value → aH → Prop} {ls st : List Value} {h : aH} : jm w cl x S Q rk cdX7_digest J (n + 1) 89 ls st h = blk w cl x S Q rk 95 (jm w cl x S Q rk cdX7_digest J n) kX7_digest_89 ls st h := (rfl)
theorem jX7_digest_95 {w : List aE} {cl : List vw_C} {x : aX} {S : aS} {Q : Option Value → aH → Prop} {rk n : Nat} {J : Nat → List Value → List Value → aH → Prop} {ls st : List Value} {h : aH} : jm w cl x S Q rk cdX7_digest J (n + 1) 95 ls st h = blk w cl x S Q rk 97 (jm w cl x S Q rk cdX7_digest J n) kX7_digest_95 ls st h := (rfl)
theorem jX7_digest_97 {w : List aE} {cl : List vw_C} {x : aX} {S : aS} {Q : Option Value → aH → Prop} {rk n : Nat} {J : Nat → List Value → List Value → aH → Prop} {ls st : List Value} {h : aH} : jm w cl x S Q rk cdX7_digest J (n + 1) 97 ls st h = J 97 ls st h := (rfl)
theorem gX7_digest_97 {w : List aE} {cl : List vw_C} {x : aX} {S : aS} {Q : Option Value → aH → Prop} {rk n : Nat} {J : Nat → List Value → List Value → aH → Prop} {ls st : List Value} {h : aH} : go w cl x S Q rk cdX7_digest J n 97 ls st h = blk w cl x S Q rk 152 (jm w cl x S Q rk cdX7_digest J n) kX7_digest_97 ls st h := (rfl)
theorem jX7_digest_152 {w : List aE} {cl : List vw_C} {x : aX} {S : aS} {Q : Option Value → aH → Prop} {rk n : Nat} {J : Nat → List Value → List Value → aH → Prop} {ls st : List Value} {h : aH} : jm w cl x S Q rk cdX7_digest J (n + 1) 152 ls st h = blk w cl x S Q rk 154 (jm w cl x S Q rk cdX7_digest J n) kX7_digest_152 ls st h := (rfl)
def kX7_beginAnew_0 : List (Nat × Instr × Nat) := [(0, .aload_n 0, 0), (1, .getfield 21, 0), (4, .invokevirtual 310, 0), (7, .aload_n 0, 0), (8, .getfield 37, 0), (11, .iconst 0, 0), (12, .iconst 0, 0), (13, .invokevirtual 146, 0), (16, .aload_n 0, 0), (17, .getfield 44, 0), (20, .aload_n 0, 0), (21, .getfield 21, 0), (24, .getfield 313, 0), (27, .invokevirtual 202, 0), (30, .return_, 0)]
def cdX7_beginAnew : aCd := ([], [(0, 31, kX7_beginAnew_0)])
set_option maxRecDepth 100000 in
theorem okX7_beginAnew : okC cX7_beginAnew cdX7_beginAnew = true := by decide +kernel
theorem wX7_beginAnew : Cond.code yX7_beginAnew cX7_beginAnew 1 (rty 3) ∈ aT := aT_of 293 (by decide +kernel) (by decide +kernel)
theorem gX7_beginAnew_0 {w : List aE} {cl : List vw_C} {x : aX} {S : aS} {Q : Option Value → aH → Prop} {rk n : Nat} {J : Nat → List Value → List Value → aH → Prop} {ls st : List Value} {h : aH} : go w cl x S Q rk cdX7_beginAnew J n 0 ls st h = blk w cl x S Q rk 31 (jm w cl x S Q rk cdX7_beginAnew J n) kX7_beginAnew_0 ls st h := (rfl)
def kX7_refusalOfState_0 : List (Nat × Instr × Nat) := [(0, .aload_n 0, 0), (1, .getfield 12, 0), (4, .iload_n 1, 0), (5, .invokevirtual 102, 0), (8, .ifCond .ne 6, 14), (11, .bipush (-2), 0), (13, .ireturn, 0)]
def kX7_refusalOfState_14 : List (Nat × Instr × Nat) := [(14, .aload_n 0, 0), (15, .getfield 21, 0), (18, .iload_n 1, 0), (19, .invokevirtual 113, 0), (22, .ifCond .eq 7, 29), (25, .iconst 0, 0), (26, .goto 5, 31)]
def kX7_refusalOfState_29 : List (Nat × Instr × Nat) := [(29, .bipush (-4), 0)]
def kX7_refusalOfState_31 : List (Nat × Instr × Nat) := [(31, .ireturn, 0)]
def cdX7_refusalOfState : aCd := ([], [(0, 14, kX7_refusalOfState_0), (14, 29, kX7_refusalOfState_14), (29, 31, kX7_refusalOfState_29), (31, 32, kX7_refusalOfState_31)])
set_option maxRecDepth 100000 in
theorem okX7_refusalOfState : okC cX7_refusalOfState cdX7_refusalOfState = true := by decide +kernel
theorem wX7_refusalOfState : Cond.code yX7_refusalOfState cX7_refusalOfState 2 (rty 0) ∈ aT := aT_of 453 (by decide +kernel) (by decide +kernel)
theorem gX7_refusalOfState_0 {w : List aE} {cl : List vw_C} {x : aX} {S : aS} {Q : Option Value → aH → Prop} {rk n : Nat} {J : Nat → List Value → List Value → aH → Prop} {ls st : List Value} {h : aH} : go w cl x S Q rk cdX7_refusalOfState J n 0 ls st h = blk w cl x S Q rk 14 (jm w cl x S Q rk cdX7_refusalOfState J n) kX7_refusalOfState_0 ls st h := (rfl)
theorem jX7_refusalOfState_14 {w : List aE} {cl : List vw_C} {x : aX} {S : aS} {Q : Option Value → aH → Prop} {rk n : Nat} {J : Nat → List Value → List Value → aH → Prop} {ls st : List Value} {h : aH} : jm w cl x S Q rk cdX7_refusalOfState J (n + 1) 14 ls st h = blk w cl x S Q rk 29 (jm w cl x S Q rk cdX7_refusalOfState J n) kX7_refusalOfState_14 ls st h := (rfl)
theorem jX7_refusalOfState_29 {w : List aE} {cl : List vw_C} {x : aX} {S : aS} {Q : Option Value → aH → Prop} {rk n : Nat} {J : Nat → List Value → List Value → aH → Prop} {ls st : List Value} {h : aH} : jm w cl x S Q rk cdX7_refusalOfState J (n + 1) 29 ls st h = blk w cl x S Q rk 31 (jm w cl x S Q rk cdX7_refusalOfState J n) kX7_refusalOfState_29 ls st h := (rfl)
theorem jX7_refusalOfState_31 {w : List aE} {cl : List vw_C} {x : aX} {S : aS} {Q : Option Value → aH → Prop} {rk n : Nat} {J : Nat → List Value → List Value → aH → Prop} {ls st : List Value} {h : aH} : jm w cl x S Q rk cdX7_refusalOfState J (n + 1) 31 ls st h = blk w cl x S Q rk 32 (jm w cl x S Q rk cdX7_refusalOfState J n) kX7_refusalOfState_31 ls st h := (rfl)
def kX7_refusalOfWay_0 : List (Nat × Instr × Nat) := [(0, .aload_n 0, 0), (1, .getfield 12, 0), (4, .iload_n 2, 0), (5, .invokevirtual 102, 0), (8, .ifCond .eq 11, 19), (11, .aload_n 0, 0), (12, .iload_n 1, 0), (13, .invokevirtual 122, 0), (16, .goto 5, 21)]
def kX7_refusalOfWay_19 : List (Nat × Instr × Nat) := [(19, .bipush (-2), 0)]
def kX7_refusalOfWay_21 : List (Nat × Instr × Nat) := [(21, .ireturn, 0)]
def cdX7_refusalOfWay : aCd := ([], [(0, 19, kX7_refusalOfWay_0), (19, 21, kX7_refusalOfWay_19), (21, 22, kX7_refusalOfWay_21)])
set_option maxRecDepth 100000 in
theorem okX7_refusalOfWay : okC cX7_refusalOfWay cdX7_refusalOfWay = true := by decide +kernel
theorem wX7_refusalOfWay : Cond.code yX7_refusalOfWay cX7_refusalOfWay 3 (rty 0) ∈ aT := aT_of 586 (by decide +kernel) (by decide +kernel)
theorem gX7_refusalOfWay_0 {w : List aE} {cl : List vw_C} {x : aX} {S : aS} {Q : Option Value → aH → Prop} {rk n : Nat} {J : Nat → List Value → List Value → aH → Prop} {ls st : List Value} {h : aH} : go w cl x S Q rk cdX7_refusalOfWay J n 0 ls st h = blk w cl x S Q rk 19 (jm w cl x S Q rk cdX7_refusalOfWay J n) kX7_refusalOfWay_0 ls st h := (rfl)
theorem jX7_refusalOfWay_19 {w : List aE} {cl : List vw_C} {x : aX} {S : aS} {Q : Option Value → aH → Prop} {rk n : Nat} {J : Nat → List Value → List Value → aH → Prop} {ls st : List Value} {h : aH} : jm w cl x S Q rk cdX7_refusalOfWay J (n + 1) 19 ls st h = blk w cl x S Q rk 21 (jm w cl x S Q rk cdX7_refusalOfWay J n) kX7_refusalOfWay_19 ls st h := (rfl)
theorem jX7_refusalOfWay_21 {w : List aE} {cl : List vw_C} {x : aX} {S : aS} {Q : Option Value → aH → Prop} {rk n : Nat} {J : Nat → List Value → List Value → aH → Prop} {ls st : List Value} {h : aH} : jm w cl x S Q rk cdX7_refusalOfWay J (n + 1) 21 ls st h = blk w cl x S Q rk 22 (jm w cl x S Q rk cdX7_refusalOfWay J n) kX7_refusalOfWay_21 ls st h := (rfl)
def kX7_refusalOfSheet_0 : List (Nat × Instr × Nat) := [(0, .iload_n 1, 0), (1, .invokestatic 205, 0), (4, .ifCond .ne 6, 10), (7, .bipush (-2), 0), (9, .ireturn, 0)]
def kX7_refusalOfSheet_10 : List (Nat × Instr × Nat) := [(10, .aload_n 0, 0), (11, .getfield 51, 0), (14, .iload_n 1, 0), (15, .invokevirtual 232, 0), (18, .ifCond .eq 14, 32), (21, .aload_n 0, 0), (22, .getfield 51, 0), (25, .iconst 1, 0), (26, .invokevirtual 210, 0), (29, .goto 4, 33)]
def kX7_refusalOfSheet_32 : List (Nat × Instr × Nat) := [(32, .iconst 0, 0)]
def kX7_refusalOfSheet_33 : List (Nat × Instr × Nat) := [(33, .ireturn, 0)]
def cdX7_refusalOfSheet : aCd := ([], [(0, 10, kX7_refusalOfSheet_0), (10, 32, kX7_refusalOfSheet_10), (32, 33, kX7_refusalOfSheet_32), (33, 34, kX7_refusalOfSheet_33)])
set_option maxRecDepth 100000 in
theorem okX7_refusalOfSheet : okC cX7_refusalOfSheet cdX7_refusalOfSheet = true := by decide +kernel
theorem wX7_refusalOfSheet : Cond.code yX7_refusalOfSheet cX7_refusalOfSheet 2 (rty 0) ∈ aT := aT_of 689 (by decide +kernel) (by decide +kernel)
theorem gX7_refusalOfSheet_0 {w : List aE} {cl : List vw_C} {x : aX} {S : aS} {Q : Option Value → aH → Prop} {rk n : Nat} {J : Nat → List Value → List Value → aH → Prop} {ls st : List Value} {h : aH} : go w cl x S Q rk cdX7_refusalOfSheet J n 0 ls st h = blk w cl x S Q rk 10 (jm w cl x S Q rk cdX7_refusalOfSheet J n) kX7_refusalOfSheet_0 ls st h := (rfl)
theorem jX7_refusalOfSheet_10 {w : List aE} {cl : List vw_C} {x : aX} {S : aS} {Q : Option Value → aH → Prop} {rk n : Nat} {J : Nat → List Value → List Value → aH → Prop} {ls st : List Value} {h : aH} : jm w cl x S Q rk cdX7_refusalOfSheet J (n + 1) 10 ls st h = blk w cl x S Q rk 32 (jm w cl x S Q rk cdX7_refusalOfSheet J n) kX7_refusalOfSheet_10 ls st h := (rfl)
theorem jX7_refusalOfSheet_32 {w : List aE} {cl : List vw_C} {x : aX} {S : aS} {Q : Option Value → aH → Prop} {rk n : Nat} {J : Nat → List Value → List Value → aH → Prop} {ls st : List Value} {h : aH} : jm w cl x S Q rk cdX7_refusalOfSheet J (n + 1) 32 ls st h = blk w cl x S Q rk 33 (jm w cl x S Q rk cdX7_refusalOfSheet J n) kX7_refusalOfSheet_32 ls st h := (rfl)
theorem jX7_refusalOfSheet_33 {w : List aE} {cl : List vw_C} {x : aX} {S : aS} {Q : Option Value → aH → Prop} {rk n : Nat} {J : Nat → List Value → List Value → aH → Prop} {ls st : List Value} {h : aH} : jm w cl x S Q rk cdX7_refusalOfSheet J (n + 1) 33 ls st h = blk w cl x S Q rk 34 (jm w cl x S Q rk cdX7_refusalOfSheet J n) kX7_refusalOfSheet_33 ls st h := (rfl)
def kX7_refusalOfMark_0 : List (Nat × Instr × Nat) := [(0, .iload_n 2, 0), (1, .invokestatic 207, 0), (4, .ifCond .ne 6, 10), (7, .bipush (-2), 0), (9, .ireturn, 0)]
def kX7_refusalOfMark_10 : List (Nat × Instr × Nat) := [(10, .aload_n 0, 0), (11, .iload_n 1, 0), (12, .invokevirtual 216, 0), (15, .istore 4, 0), (17, .iload 4, 0), (19, .ifCond .eq 6, 25), (22, .iload 4, 0), (24, .ireturn, 0)]
def kX7_refusalOfMark_25 : List (Nat × Instr × Nat) := [(25, .aload_n 0, 0), (26, .getfield 51, 0), (29, .getfield 235, 0), (32, .iload_n 1, 0), (33, .iaload, 0), (34, .iload_n 2, 0), (35, .if_icmp .eq 12, 47), (38, .aload_n 0, 0), (39, .getfield 51, 0), (42, .iconst 3, 0), (43, .invokevirtual 210, 0), (46, .ireturn, 0)]
def kX7_refusalOfMark_47 : List (Nat × Instr × Nat) := [(47, .aload_n 0, 0), (48, .getfield 51, 0), (51, .iload_n 1, 0), (52, .iload_n 3, 0), (53, .invokevirtual 272, 0), (56, .ifCond .eq 7, 63), (59, .iconst 0, 0), (60, .goto 11, 71)]
def kX7_refusalOfMark_63 : List (Nat × Instr × Nat) := [(63, .aload_n 0, 0), (64, .getfield 51, 0), (67, .iconst 2, 0), (68, .invokevirtual 210, 0)]
def kX7_refusalOfMark_71 : List (Nat × Instr × Nat) := [(71, .ireturn, 0)]
def cdX7_refusalOfMark : aCd := ([], [(0, 10, kX7_refusalOfMark_0), (10, 25, kX7_refusalOfMark_10), (25, 47, kX7_refusalOfMark_25), (47, 63, kX7_refusalOfMark_47), (63, 71, kX7_refusalOfMark_63), (71, 72, kX7_refusalOfMark_71)])
set_option maxRecDepth 100000 in
theorem okX7_refusalOfMark : okC cX7_refusalOfMark cdX7_refusalOfMark = true := by decide +kernel
theorem wX7_refusalOfMark : Cond.code yX7_refusalOfMark cX7_refusalOfMark 5 (rty 0) ∈ aT := aT_of 705 (by decide +kernel) (by decide +kernel)
theorem gX7_refusalOfMark_0 {w : List aE} {cl : List vw_C} {x : aX} {S : aS} {Q : Option Value → aH → Prop} {rk n : Nat} {J : Nat → List Value → List Value → aH → Prop} {ls st : List Value} {h : aH} : go w cl x S Q rk cdX7_refusalOfMark J n 0 ls st h = blk w cl x S Q rk 10 (jm w cl x S Q rk cdX7_refusalOfMark J n) kX7_refusalOfMark_0 ls st h := (rfl)
theorem jX7_refusalOfMark_10 {w : List aE} {cl : List vw_C} {x : aX} {S : aS} {Q : Option Value → aH → Prop} {rk n : Nat} {J : Nat → List Value → List Value → aH → Prop} {ls st : List Value} {h : aH} : jm w cl x S Q rk cdX7_refusalOfMark J (n + 1) 10 ls st h = blk w cl x S Q rk 25 (jm w cl x S Q rk cdX7_refusalOfMark J n) kX7_refusalOfMark_10 ls st h := (rfl)
theorem jX7_refusalOfMark_25 {w : List aE} {cl : List vw_C} {x : aX} {S : aS} {Q : Option Value → aH → Prop} {rk n : Nat} {J : Nat → List Value → List Value → aH → Prop} {ls st : List Value} {h : aH} : jm w cl x S Q rk cdX7_refusalOfMark J (n + 1) 25 ls st h = blk w cl x S Q rk 47 (jm w cl x S Q rk cdX7_refusalOfMark J n) kX7_refusalOfMark_25 ls st h := (rfl)
theorem jX7_refusalOfMark_47 {w : List aE} {cl : List vw_C} {x : aX} {S : aS} {Q : Option Value → aH → Prop} {rk n : Nat} {J : Nat → List Value → List Value → aH → Prop} {ls st : List Value} {h : aH} : jm w cl x S Q rk cdX7_refusalOfMark J (n + 1) 47 ls st h = blk w cl x S Q rk 63 (jm w cl x S Q rk cdX7_refusalOfMark J n) kX7_refusalOfMark_47 ls st h := (rfl)
theorem jX7_refusalOfMark_63 {w : List aE} {cl : List vw_C} {x : aX} {S : aS} {Q : Option Value → aH → Prop} {rk n : Nat} {J : Nat → List Value → List Value → aH → Prop} {ls st : List Value} {h : aH} : jm w cl x S Q rk cdX7_refusalOfMark J (n + 1) 63 ls st h = blk w cl x S Q rk 71 (jm w cl x S Q rk cdX7_refusalOfMark J n) kX7_refusalOfMark_63 ls st h := (rfl)
theorem jX7_refusalOfMark_71 {w : List aE} {cl : List vw_C} {x : aX} {S : aS} {Q : Option Value → aH → Prop} {rk n : Nat} {J : Nat → List Value → List Value → aH → Prop} {ls st : List Value} {h : aH} : jm w cl x S Q rk cdX7_refusalOfMark J (n + 1) 71 ls st h = blk w cl x S Q rk 72 (jm w cl x S Q rk cdX7_refusalOfMark J n) kX7_refusalOfMark_71 ls st h := (rfl)
