def k_X4_put_49 : List CI := (49, .return_, 1) :: []
def k_X4_put_3 : List CI := (3, .iload_n 2, 1) :: (4, .ifCond .lt 45, 3) :: (7, .aload_n 0, 1) :: (8, .getfield 15, 3) :: (11, .sipush 500, 3) :: (14, .if_icmp .ge 35, 3) :: (17, .aload_n 0, 1) :: (18, .getfield 11, 3) :: (21, .aload_n 0, 1) :: (22, .getfield 15, 3) :: (25, .iload_n 1, 1) :: (26, .iload_n 2, 1) :: (27, .ishr, 1) :: (28, .sipush 255, 3) :: (31, .iand, 1) :: (32, .iastore, 1) :: (33, .aload_n 0, 1) :: (34, .dup, 1) :: (35, .getfield 15, 3) :: (38, .iconst 1, 1) :: (39, .iadd, 1) :: (40, .putfield 15, 3) :: (43, .iinc 2 (-8), 3) :: (46, .goto (-43), 3) :: k_X4_put_49
def k_X4_put : List CI := (0, .bipush 24, 2) :: (2, .istore_n 2, 1) :: k_X4_put_3
def Y_X4_put : MD := (yX4_put, cX4_put, 3, none, k_X4_put)
theorem cok_X4_put : COK Y_X4_put.2.1 Y_X4_put.code = true := by decide +kernel
theorem mok_X4_put : MOK Y_X4_put 1 := ⟨mU_2 191 rfl rfl, mU_1 2 rfl rfl, by decide, by decide, by decide +kernel, by decide⟩
theorem ins_X4_put : INST Y_X4_put := ⟨mU_2 190 rfl rfl, mV_1 (n := 7) 0 rfl⟩
def k_X10_feed_18 : List CI := (18, .aload_n 0, 1) :: (19, .getfield 21, 3) :: (22, .iload_n 1, 1) :: (23, .invokevirtual 97, 3) :: (26, .aload_n 0, 1) :: (27, .getfield 21, 3) :: (30, .iload_n 2, 1) :: (31, .invokevirtual 97, 3) :: (34, .aload_n 0, 1) :: (35, .getfield 21, 3) :: (38, .iload_n 3, 1) :: (39, .invokevirtual 97, 3) :: (42, .aload_n 0, 1) :: (43, .getfield 21, 3) :: (46, .iload 4, 2) :: (48, .invokevirtual 97, 3) :: (51, .aload_n 0, 1) :: (52, .getfield 21, 3) :: (55, .iload 5, 2) :: (57, .invokevirtual 97, 3) :: (60, .aload_n 0, 1) :: (61, .getfield 21, 3) :: (64, .getfield 94, 3) :: (67, .ireturn, 1) :: []
def k_X10_feed : List CI := (0, .aload_n 0, 1) :: (1, .getfield 21, 3) :: (4, .getfield 94, 3) :: (7, .bipush 20, 2) :: (9, .iadd, 1) :: (10, .sipush 500, 3) :: (13, .if_icmp .le 5, 3) :: (16, .iconst (-1), 1) :: (17, .ireturn, 1) :: k_X10_feed_18
def Y_X10_feed : MD := (yX10_feed, cX10_feed, 6, (some .int), k_X10_feed)
theorem cok_X10_feed : COK Y_X10_feed.2.1 Y_X10_feed.code = true := by decide +kernel
theorem mok_X10_feed : MOK Y_X10_feed 5 := ⟨mU_2 187 rfl rfl, mU_1 1 rfl rfl, by decide, by decide, by decide +kernel, by decide⟩
theorem ins_X10_feed : INST Y_X10_feed := ⟨mU_2 185 rfl rfl, mU_2 186 rfl rfl⟩
def k_X10_need_25 : List CI := (25, .return_, 1) :: []
def k_X10_need : List CI := (0, .iload_n 1, 1) :: (1, .ifCond .ne 24, 3) :: (4, .aload_n 0, 1) :: (5, .dup, 1) :: (6, .getfield 361, 3) :: (9, .iconst 1, 1) :: (10, .iadd, 1) :: (11, .putfield 361, 3) :: (14, .new 376, 3) :: (17, .dup, 1) :: (18, .ldc_w 378, 3) :: (21, .invokespecial 380, 3) :: (24, .athrow, 1) :: k_X10_need_25
def Y_X10_need : MD := (yX10_need, cX10_need, 2, none, k_X10_need)
theorem cok_X10_need : COK Y_X10_need.2.1 Y_X10_need.code = true := by decide +kernel
theorem mok_X10_need : MOK Y_X10_need 1 := ⟨mU_2 238 rfl rfl, mU_1 1 rfl rfl, by decide, by decide, by decide +kernel, by decide⟩
theorem ins_X10_need : INST Y_X10_need := ⟨mU_2 237 rfl rfl, mV_1 (n := 17) 2 rfl⟩
def k_J9_min_7cf53_10 : List CI := (10, .ireturn, 1) :: []
def k_J9_min_7cf53_9 : List CI := (9, .iload_n 1, 1) :: k_J9_min_7cf53_10
def k_J9_min_7cf53 : List CI := (0, .iload_n 0, 1) :: (1, .iload_n 1, 1) :: (2, .if_icmp .gt 7, 3) :: (5, .iload_n 0, 1) :: (6, .goto 4, 3) :: k_J9_min_7cf53_9
def Y_J9_min_7cf53 : MD := (yJ9_min_7cf53, cJ9_min_7cf53, 2, (some .int), k_J9_min_7cf53)
theorem cok_J9_min_7cf53 : COK Y_J9_min_7cf53.2.1 Y_J9_min_7cf53.code = true := by decide +kernel
theorem mok_J9_min_7cf53 : MOK Y_J9_min_7cf53 2 := ⟨mU_3 73 rfl rfl, mU_1 5 rfl rfl, by decide, by decide, by decide +kernel, by decide⟩
theorem sta_J9_min_7cf53 : STAT Y_J9_min_7cf53 := mU_3 72 rfl rfl
def k_X4_open : List CI := (0, .aload_n 0, 1) :: (1, .iload_n 1, 1) :: (2, .aload_n 0, 1) :: (3, .getfield 15, 3) :: (6, .invokestatic 19, 3) :: (9, .putfield 25, 3) :: (12, .aload_n 0, 1) :: (13, .iconst 0, 1) :: (14, .putfield 28, 3) :: (17, .aload_n 0, 1) :: (18, .iconst 0, 1) :: (19, .putfield 31, 3) :: (22, .aload_n 0, 1) :: (23, .iconst 0, 1) :: (24, .putfield 34, 3) :: (27, .aload_n 0, 1) :: (28, .iconst (-1), 1) :: (29, .putfield 37, 3) :: (32, .return_, 1) :: []
def Y_X4_open : MD := (yX4_open, cX4_open, 2, none, k_X4_open)
theorem cok_X4_open : COK Y_X4_open.2.1 Y_X4_open.code = true := by decide +kernel
theorem mok_X4_open : MOK Y_X4_open 1 := ⟨mU_3 70 rfl rfl, mU_1 2 rfl rfl, by decide, by decide, by decide +kernel, by decide⟩
theorem ins_X4_open : INST Y_X4_open := ⟨mU_3 69 rfl rfl, mV_1 (n := 7) 4 rfl⟩
def k_X10_all : List CI := (0, .iconst 1, 1) :: (1, .iload_n 0, 1) :: (2, .ishl, 1) :: (3, .iconst 1, 1) :: (4, .isub, 1) :: (5, .ireturn, 1) :: []
def Y_X10_all : MD := (yX10_all, cX10_all, 1, (some .int), k_X10_all)
theorem cok_X10_all : COK Y_X10_all.2.1 Y_X10_all.code = true := by decide +kernel
theorem mok_X10_all : MOK Y_X10_all 1 := ⟨mU_3 213 rfl rfl, mU_1 1 rfl rfl, by decide, by decide, by decide +kernel, by decide⟩
theorem sta_X10_all : STAT Y_X10_all := mU_3 212 rfl rfl
def k_X10_isIn_13 : List CI := (13, .ireturn, 1) :: []
def k_X10_isIn_12 : List CI := (12, .iconst 0, 1) :: k_X10_isIn_13
def k_X10_isIn : List CI := (0, .iload_n 1, 1) :: (1, .iload_n 0, 1) :: (2, .ishr, 1) :: (3, .iconst 1, 1) :: (4, .iand, 1) :: (5, .ifCond .eq 7, 3) :: (8, .iconst 1, 1) :: (9, .goto 4, 3) :: k_X10_isIn_12
def Y_X10_isIn : MD := (yX10_isIn, cX10_isIn, 2, (some .boolean), k_X10_isIn)
theorem cok_X10_isIn : COK Y_X10_isIn.2.1 Y_X10_isIn.code = true := by decide +kernel
theorem mok_X10_isIn : MOK Y_X10_isIn 2 := ⟨mU_3 220 rfl rfl, mU_1 1 rfl rfl, by decide, by decide, by decide +kernel, by decide⟩
theorem sta_X10_isIn : STAT Y_X10_isIn := mU_3 219 rfl rfl
def k_X10_commonDivisor_34 : List CI := (34, .iload_n 2, 1) :: (35, .ireturn, 1) :: []
def k_X10_commonDivisor_7 : List CI := (7, .iload 4, 2) :: (9, .bipush 100, 2) :: (11, .if_icmp .ge 23, 3) :: (14, .iload_n 3, 1) :: (15, .ifCond .le 19, 3) :: (18, .iload_n 2, 1) :: (19, .iload_n 3, 1) :: (20, .irem, 1) :: (21, .istore 5, 2) :: (23, .iload_n 3, 1) :: (24, .istore_n 2, 1) :: (25, .iload 5, 2) :: (27, .istore_n 3, 1) :: (28, .iinc 4 1, 3) :: (31, .goto (-24), 3) :: k_X10_commonDivisor_34
def k_X10_commonDivisor : List CI := (0, .iload_n 0, 1) :: (1, .istore_n 2, 1) :: (2, .iload_n 1, 1) :: (3, .istore_n 3, 1) :: (4, .iconst 0, 1) :: (5, .istore 4, 2) :: k_X10_commonDivisor_7
def Y_X10_commonDivisor : MD := (yX10_commonDivisor, cX10_commonDivisor, 6, (some .int), k_X10_commonDivisor)
theorem cok_X10_commonDivisor : COK Y_X10_commonDivisor.2.1 Y_X10_commonDivisor.code = true := by decide +kernel
theorem mok_X10_commonDivisor : MOK Y_X10_commonDivisor 2 := ⟨mU_3 226 rfl rfl, mU_1 1 rfl rfl, by decide, by decide, by decide +kernel, by decide⟩
theorem sta_X10_commonDivisor : STAT Y_X10_commonDivisor := mU_3 225 rfl rfl
def k_X10_commonTurn_27 : List CI := (27, .ireturn, 1) :: []
def k_X10_commonTurn_22 : List CI := (22, .iload_n 0, 1) :: (23, .iload_n 2, 1) :: (24, .idiv, 1) :: (25, .iload_n 1, 1) :: (26, .imul, 1) :: k_X10_commonTurn_27
def k_X10_commonTurn_18 : List CI := (18, .iload_n 0, 1) :: (19, .goto 8, 3) :: k_X10_commonTurn_22
def k_X10_commonTurn : List CI := (0, .iload_n 0, 1) :: (1, .iload_n 1, 1) :: (2, .invokestatic 412, 3) :: (5, .istore_n 2, 1) :: (6, .iload_n 0, 1) :: (7, .ldc_w 415, 3) :: (10, .if_icmp .gt 8, 3) :: (13, .iload_n 2, 1) :: (14, .iconst 1, 1) :: (15, .if_icmp .ge 7, 3) :: k_X10_commonTurn_18
def Y_X10_commonTurn : MD := (yX10_commonTurn, cX10_commonTurn, 3, (some .int), k_X10_commonTurn)
theorem cok_X10_commonTurn : COK Y_X10_commonTurn.2.1 Y_X10_commonTurn.code = true := by decide +kernel
theorem mok_X10_commonTurn : MOK Y_X10_commonTurn 2 := ⟨mU_3 223 rfl rfl, mU_1 1 rfl rfl, by decide, by decide, by decide +kernel, by decide⟩
theorem sta_X10_commonTurn : STAT Y_X10_commonTurn := mU_3 222 rfl rfl
def k_X2_turnWith_41 : List CI := (41, .iload_n 3, 1) :: (42, .ireturn, 1) :: []
def k_X2_turnWith_35 : List CI := (35, .iinc 4 1, 3) :: (38, .goto (-33), 3) :: k_X2_turnWith_41
def k_X2_turnWith_5 : List CI := (5, .iload 4, 2) :: (7, .aload_n 0, 1) :: (8, .getfield 31, 3) :: (11, .if_icmp .ge 30, 3) :: (14, .iload 4, 2) :: (16, .iload_n 1, 1) :: (17, .invokestatic 61, 3) :: (20, .ifCond .eq 15, 3) :: (23, .iload_n 3, 1) :: (24, .aload_n 0, 1) :: (25, .getfield 15, 3) :: (28, .iload 4, 2) :: (30, .iaload, 1) :: (31, .invokestatic 68, 3) :: (34, .istore_n 3, 1) :: k_X2_turnWith_35
def k_X2_turnWith : List CI := (0, .iload_n 2, 1) :: (1, .istore_n 3, 1) :: (2, .iconst 0, 1) :: (3, .istore 4, 2) :: k_X2_turnWith_5
def Y_X2_turnWith : MD := (yX2_turnWith, cX2_turnWith, 5, (some .int), k_X2_turnWith)
theorem cok_X2_turnWith : COK Y_X2_turnWith.2.1 Y_X2_turnWith.code = true := by decide +kernel
theorem mok_X2_turnWith : MOK Y_X2_turnWith 2 := ⟨mU_3 217 rfl rfl, mU_1 4 rfl rfl, by decide, by decide, by decide +kernel, by decide⟩
theorem ins_X2_turnWith : INST Y_X2_turnWith := ⟨mU_3 216 rfl rfl, mV_2 (n := 9) 8 rfl⟩
def k_X4_blame_17 : List CI := (17, .return_, 1) :: []
def k_X4_blame : List CI := (0, .aload_n 0, 1) :: (1, .getfield 34, 3) :: (4, .ifCond .ne 13, 3) :: (7, .aload_n 0, 1) :: (8, .iload_n 1, 1) :: (9, .putfield 34, 3) :: (12, .aload_n 0, 1) :: (13, .iload_n 2, 1) :: (14, .putfield 37, 3) :: k_X4_blame_17
def Y_X4_blame : MD := (yX4_blame, cX4_blame, 3, none, k_X4_blame)
theorem cok_X4_blame : COK Y_X4_blame.2.1 Y_X4_blame.code = true := by decide +kernel
theorem mok_X4_blame : MOK Y_X4_blame 2 := ⟨mU_3 163 rfl rfl, mU_1 2 rfl rfl, by decide, by decide, by decide +kernel, by decide⟩
theorem ins_X4_blame : INST Y_X4_blame := ⟨mU_3 162 rfl rfl, mV_1 (n := 7) 14 rfl⟩
def k_X4_isFine_12 : List CI := (12, .ireturn, 1) :: []
def k_X4_isFine_11 : List CI := (11, .iconst 0, 1) :: k_X4_isFine_12
def k_X4_isFine : List CI := (0, .aload_n 0, 1) :: (1, .getfield 34, 3) :: (4, .ifCond .ne 7, 3) :: (7, .iconst 1, 1) :: (8, .goto 4, 3) :: k_X4_isFine_11
def Y_X4_isFine : MD := (yX4_isFine, cX4_isFine, 1, (some .boolean), k_X4_isFine)
theorem cok_X4_isFine : COK Y_X4_isFine.2.1 Y_X4_isFine.code = true := by decide +kernel
theorem mok_X4_isFine : MOK Y_X4_isFine 0 := ⟨mU_3 81 rfl rfl, mU_1 2 rfl rfl, by decide, by decide, by decide +kernel, by decide⟩
theorem ins_X4_isFine : INST Y_X4_isFine := ⟨mU_3 80 rfl rfl, mV_1 (n := 7) 6 rfl⟩
def k_X4_skipBlanks_38 : List CI := (38, .return_, 1) :: []
def k_X4_skipBlanks : List CI := (0, .aload_n 0, 1) :: (1, .getfield 28, 3) :: (4, .aload_n 0, 1) :: (5, .getfield 25, 3) :: (8, .if_icmp .ge 30, 3) :: (11, .aload_n 0, 1) :: (12, .getfield 11, 3) :: (15, .aload_n 0, 1) :: (16, .getfield 28, 3) :: (19, .iaload, 1) :: (20, .bipush 32, 2) :: (22, .if_icmp .ne 16, 3) :: (25, .aload_n 0, 1) :: (26, .dup, 1) :: (27, .getfield 28, 3) :: (30, .iconst 1, 1) :: (31, .iadd, 1) :: (32, .putfield 28, 3) :: (35, .goto (-35), 3) :: k_X4_skipBlanks_38
def Y_X4_skipBlanks : MD := (yX4_skipBlanks, cX4_skipBlanks, 1, none, k_X4_skipBlanks)
theorem cok_X4_skipBlanks : COK Y_X4_skipBlanks.2.1 Y_X4_skipBlanks.code = true := by decide +kernel
theorem mok_X4_skipBlanks : MOK Y_X4_skipBlanks 0 := ⟨mU_3 89 rfl rfl, mU_1 2 rfl rfl, by decide, by decide, by decide +kernel, by decide⟩
theorem ins_X4_skipBlanks : INST Y_X4_skipBlanks := ⟨mU_3 88 rfl rfl, mV_1 (n := 7) 8 rfl⟩
def k_X4_isAtEnd_20 : List CI := (20, .ireturn, 1) :: []
def k_X4_isAtEnd_19 : List CI := (19, .iconst 0, 1) :: k_X4_isAtEnd_20
def k_X4_isAtEnd : List CI := (0, .aload_n 0, 1) :: (1, .invokevirtual 40, 3) :: (4, .aload_n 0, 1) :: (5, .getfield 28, 3) :: (8, .aload_n 0, 1) :: (9, .getfield 25, 3) :: (12, .if_icmp .lt 7, 3) :: (15, .iconst 1, 1) :: (16, .goto 4, 3) :: k_X4_isAtEnd_19
def Y_X4_isAtEnd : MD := (yX4_isAtEnd, cX4_isAtEnd, 1, (some .boolean), k_X4_isAtEnd)
theorem cok_X4_isAtEnd : COK Y_X4_isAtEnd.2.1 Y_X4_isAtEnd.code = true := by decide +kernel
theorem mok_X4_isAtEnd : MOK Y_X4_isAtEnd 0 := ⟨mU_3 85 rfl rfl, mU_1 2 rfl rfl, by decide, by decide, by decide +kernel, by decide⟩
theorem ins_X4_isAtEnd : INST Y_X4_isAtEnd := ⟨mU_3 84 rfl rfl, mV_1 (n := 7) 7 rfl⟩
def k_X4_takesWord_117 : List CI := (117, .aload_n 0, 1) :: (118, .aload_n 0, 1) :: (119, .getfield 28, 3) :: (122, .putfield 31, 3) :: (125, .aload_n 0, 1) :: (126, .iload_n 2, 1) :: (127, .putfield 28, 3) :: (130, .iconst 1, 1) :: (131, .ireturn, 1) :: []
def k_X4_takesWord_111 : List CI := (111, .iinc 3 1, 3) :: (114, .goto (-45), 3) :: k_X4_takesWord_117
def k_X4_takesWord_69 : List CI := (69, .iload_n 3, 1) :: (70, .aload_n 1, 1) :: (71, .invokevirtual 51, 3) :: (74, .if_icmp .ge 43, 3) :: (77, .aload_n 0, 1) :: (78, .getfield 28, 3) :: (81, .iload_n 3, 1) :: (82, .iadd, 1) :: (83, .aload_n 0, 1) :: (84, .getfield 25, 3) :: (87, .if_icmp .ge 30, 3) :: (90, .aload_n 0, 1) :: (91, .getfield 11, 3) :: (94, .aload_n 0, 1) :: (95, .getfield 28, 3) :: (98, .iload_n 3, 1) :: (99, .iadd, 1) :: (100, .iaload, 1) :: (101, .aload_n 1, 1) :: (102, .iload_n 3, 1) :: (103, .invokevirtual 56, 3) :: (106, .if_icmp .eq 5, 3) :: (109, .iconst 0, 1) :: (110, .ireturn, 1) :: k_X4_takesWord_111
def k_X4_takesWord_67 : List CI := (67, .iconst 0, 1) :: (68, .istore_n 3, 1) :: k_X4_takesWord_69
def k_X4_takesWord_65 : List CI := (65, .iconst 0, 1) :: (66, .ireturn, 1) :: k_X4_takesWord_67
def k_X4_takesWord_45 : List CI := (45, .aload_n 0, 1) :: (46, .invokevirtual 47, 3) :: (49, .ifCond .eq 16, 3) :: (52, .iload_n 2, 1) :: (53, .aload_n 0, 1) :: (54, .getfield 28, 3) :: (57, .isub, 1) :: (58, .aload_n 1, 1) :: (59, .invokevirtual 51, 3) :: (62, .if_icmp .eq 5, 3) :: k_X4_takesWord_65
def k_X4_takesWord_9 : List CI := (9, .iload_n 2, 1) :: (10, .aload_n 0, 1) :: (11, .getfield 25, 3) :: (14, .if_icmp .ge 31, 3) :: (17, .aload_n 0, 1) :: (18, .getfield 11, 3) :: (21, .iload_n 2, 1) :: (22, .iaload, 1) :: (23, .bipush 97, 2) :: (25, .if_icmp .lt 20, 3) :: (28, .aload_n 0, 1) :: (29, .getfield 11, 3) :: (32, .iload_n 2, 1) :: (33, .iaload, 1) :: (34, .bipush 122, 2) :: (36, .if_icmp .gt 9, 3) :: (39, .iinc 2 1, 3) :: (42, .goto (-33), 3) :: k_X4_takesWord_45
def k_X4_takesWord : List CI := (0, .aload_n 0, 1) :: (1, .invokevirtual 40, 3) :: (4, .aload_n 0, 1) :: (5, .getfield 28, 3) :: (8, .istore_n 2, 1) :: k_X4_takesWord_9
def Y_X4_takesWord : MD := (yX4_takesWord, cX4_takesWord, 4, (some .boolean), k_X4_takesWord)
theorem cok_X4_takesWord : COK Y_X4_takesWord.2.1 Y_X4_takesWord.code = true := by decide +kernel
theorem mok_X4_takesWord : MOK Y_X4_takesWord 1 := ⟨mU_3 98 rfl rfl, mU_1 2 rfl rfl, by decide, by decide, by decide +kernel, by decide⟩
theorem ins_X4_takesWord : INST Y_X4_takesWord := ⟨mU_3 97 rfl rfl, mV_1 (n := 7) 10 rfl⟩
def k_X4_blameNext : List CI := (0, .aload_n 0, 1) :: (1, .invokevirtual 40, 3) :: (4, .aload_n 0, 1) :: (5, .iconst 1, 1) :: (6, .aload_n 0, 1) :: (7, .getfield 28, 3) :: (10, .invokevirtual 43, 3) :: (13, .return_, 1) :: []
def Y_X4_blameNext : MD := (yX4_blameNext, cX4_blameNext, 1, none, k_X4_blameNext)
theorem cok_X4_blameNext : COK Y_X4_blameNext.2.1 Y_X4_blameNext.code = true := by decide +kernel
theorem mok_X4_blameNext : MOK Y_X4_blameNext 0 := ⟨mU_3 206 rfl rfl, mU_1 2 rfl rfl, by decide, by decide, by decide +kernel, by decide⟩
theorem ins_X4_blameNext : INST Y_X4_blameNext := ⟨mU_3 205 rfl rfl, mV_2 (n := 7) 6 rfl⟩
def k_X4_takesSign_37 : List CI := (37, .aload_n 0, 1) :: (38, .aload_n 0, 1) :: (39, .getfield 28, 3) :: (42, .putfield 31, 3) :: (45, .aload_n 0, 1) :: (46, .dup, 1) :: (47, .getfield 28, 3) :: (50, .iconst 1, 1) :: (51, .iadd, 1) :: (52, .putfield 28, 3) :: (55, .iconst 1, 1) :: (56, .ireturn, 1) :: []
def k_X4_takesSign_35 : List CI := (35, .iconst 0, 1) :: (36, .ireturn, 1) :: k_X4_takesSign_37
def k_X4_takesSign : List CI := (0, .aload_n 0, 1) :: (1, .invokevirtual 40, 3) :: (4, .aload_n 0, 1) :: (5, .invokevirtual 47, 3) :: (8, .ifCond .eq 27, 3) :: (11, .aload_n 0, 1) :: (12, .getfield 28, 3) :: (15, .aload_n 0, 1) :: (16, .getfield 25, 3) :: (19, .if_icmp .ge 16, 3) :: (22, .aload_n 0, 1) :: (23, .getfield 11, 3) :: (26, .aload_n 0, 1) :: (27, .getfield 28, 3) :: (30, .iaload, 1) :: (31, .iload_n 1, 1) :: (32, .if_icmp .eq 5, 3) :: k_X4_takesSign_35
def Y_X4_takesSign : MD := (yX4_takesSign, cX4_takesSign, 2, (some .boolean), k_X4_takesSign)
theorem cok_X4_takesSign : COK Y_X4_takesSign.2.1 Y_X4_takesSign.code = true := by decide +kernel
theorem mok_X4_takesSign : MOK Y_X4_takesSign 1 := ⟨mU_3 210 rfl rfl, mU_1 2 rfl rfl, by decide, by decide, by decide +kernel, by decide⟩
theorem ins_X4_takesSign : INST Y_X4_takesSign := ⟨mU_3 209 rfl rfl, mV_2 (n := 7) 7 rfl⟩
def k_X4_blameTaken : List CI := (0, .aload_n 0, 1) :: (1, .iload_n 1, 1) :: (2, .aload_n 0, 1) :: (3, .getfield 31, 3) :: (6, .invokevirtual 43, 3) :: (9, .return_, 1) :: []
def Y_X4_blameTaken : MD := (yX4_blameTaken, cX4_blameTaken, 2, none, k_X4_blameTaken)
theorem cok_X4_blameTaken : COK Y_X4_blameTaken.2.1 Y_X4_blameTaken.code = true := by decide +kernel
theorem mok_X4_blameTaken : MOK Y_X4_blameTaken 1 := ⟨mU_3 159 rfl rfl, mU_1 2 rfl rfl, by decide, by decide, by decide +kernel, by decide⟩
theorem ins_X4_blameTaken : INST Y_X4_blameTaken := ⟨mU_3 158 rfl rfl, mV_1 (n := 7) 13 rfl⟩
def k_X4_takeNumber_143 : List CI := (143, .ireturn, 1) :: []
def k_X4_takeNumber_142 : List CI := (142, .iconst (-1), 1) :: k_X4_takeNumber_143
def k_X4_takeNumber_131 : List CI := (131, .aload_n 0, 1) :: (132, .invokevirtual 47, 3) :: (135, .ifCond .eq 7, 3) :: (138, .iload_n 3, 1) :: (139, .goto 4, 3) :: k_X4_takeNumber_142
def k_X4_takeNumber_122 : List CI := (122, .aload_n 0, 1) :: (123, .iconst 2, 1) :: (124, .aload_n 0, 1) :: (125, .getfield 31, 3) :: (128, .invokevirtual 43, 3) :: k_X4_takeNumber_131
def k_X4_takeNumber_112 : List CI := (112, .iload_n 3, 1) :: (113, .iload_n 1, 1) :: (114, .if_icmp .lt 8, 3) :: (117, .iload_n 3, 1) :: (118, .iload_n 2, 1) :: (119, .if_icmp .le 12, 3) :: k_X4_takeNumber_122
def k_X4_takeNumber_89 : List CI := (89, .aload_n 0, 1) :: (90, .getfield 28, 3) :: (93, .aload_n 0, 1) :: (94, .getfield 31, 3) :: (97, .if_icmp .ne 15, 3) :: (100, .aload_n 0, 1) :: (101, .iconst 1, 1) :: (102, .aload_n 0, 1) :: (103, .getfield 31, 3) :: (106, .invokevirtual 43, 3) :: (109, .goto 22, 3) :: k_X4_takeNumber_112
def k_X4_takeNumber_14 : List CI := (14, .aload_n 0, 1) :: (15, .getfield 28, 3) :: (18, .aload_n 0, 1) :: (19, .getfield 25, 3) :: (22, .if_icmp .ge 67, 3) :: (25, .aload_n 0, 1) :: (26, .getfield 11, 3) :: (29, .aload_n 0, 1) :: (30, .getfield 28, 3) :: (33, .iaload, 1) :: (34, .bipush 48, 2) :: (36, .if_icmp .lt 53, 3) :: (39, .aload_n 0, 1) :: (40, .getfield 11, 3) :: (43, .aload_n 0, 1) :: (44, .getfield 28, 3) :: (47, .iaload, 1) :: (48, .bipush 57, 2) :: (50, .if_icmp .gt 39, 3) :: (53, .bipush 10, 2) :: (55, .iload_n 3, 1) :: (56, .imul, 1) :: (57, .aload_n 0, 1) :: (58, .getfield 11, 3) :: (61, .aload_n 0, 1) :: (62, .getfield 28, 3) :: (65, .iaload, 1) :: (66, .iadd, 1) :: (67, .bipush 48, 2) :: (69, .isub, 1) :: (70, .ldc 60, 2) :: (72, .invokestatic 19, 3) :: (75, .istore_n 3, 1) :: (76, .aload_n 0, 1) :: (77, .dup, 1) :: (78, .getfield 28, 3) :: (81, .iconst 1, 1) :: (82, .iadd, 1) :: (83, .putfield 28, 3) :: (86, .goto (-72), 3) :: k_X4_takeNumber_89
def k_X4_takeNumber : List CI := (0, .aload_n 0, 1) :: (1, .invokevirtual 40, 3) :: (4, .aload_n 0, 1) :: (5, .aload_n 0, 1) :: (6, .getfield 28, 3) :: (9, .putfield 31, 3) :: (12, .iconst 0, 1) :: (13, .istore_n 3, 1) :: k_X4_takeNumber_14
def Y_X4_takeNumber : MD := (yX4_takeNumber, cX4_takeNumber, 4, (some .int), k_X4_takeNumber)
theorem cok_X4_takeNumber : COK Y_X4_takeNumber.2.1 Y_X4_takeNumber.code = true := by decide +kernel
theorem mok_X4_takeNumber : MOK Y_X4_takeNumber 2 := ⟨mU_3 167 rfl rfl, mU_1 2 rfl rfl, by decide, by decide, by decide +kernel, by decide⟩
theorem ins_X4_takeNumber : INST Y_X4_takeNumber := ⟨mU_3 166 rfl rfl, mV_1 (n := 7) 15 rfl⟩
def k_X0_readStill_102 : List CI := (102, .return_, 1) :: []
def k_X0_readStill_77 : List CI := (77, .iload 4, 2) :: (79, .ifCond .ne 23, 3) :: (82, .aload_n 0, 1) :: (83, .getfield 27, 3) :: (86, .aload_n 0, 1) :: (87, .getfield 50, 3) :: (90, .iload_n 3, 1) :: (91, .iastore, 1) :: (92, .aload_n 0, 1) :: (93, .dup, 1) :: (94, .getfield 50, 3) :: (97, .iconst 1, 1) :: (98, .iadd, 1) :: (99, .putfield 50, 3) :: k_X0_readStill_102
def k_X0_readStill_68 : List CI := (68, .ior, 1) :: (69, .istore 4, 2) :: (71, .iinc 5 1, 3) :: (74, .goto (-33), 3) :: k_X0_readStill_77
def k_X0_readStill_67 : List CI := (67, .iconst 0, 1) :: k_X0_readStill_68
def k_X0_readStill_41 : List CI := (41, .iload 5, 2) :: (43, .aload_n 0, 1) :: (44, .getfield 50, 3) :: (47, .if_icmp .ge 30, 3) :: (50, .iload 4, 2) :: (52, .aload_n 0, 1) :: (53, .getfield 27, 3) :: (56, .iload 5, 2) :: (58, .iaload, 1) :: (59, .iload_n 3, 1) :: (60, .if_icmp .ne 7, 3) :: (63, .iconst 1, 1) :: (64, .goto 4, 3) :: k_X0_readStill_67
def k_X0_readStill_36 : List CI := (36, .istore 4, 2) :: (38, .iconst 0, 1) :: (39, .istore 5, 2) :: k_X0_readStill_41
def k_X0_readStill_35 : List CI := (35, .iconst 0, 1) :: k_X0_readStill_36
def k_X0_readStill_18 : List CI := (18, .aload_n 1, 1) :: (19, .iconst 0, 1) :: (20, .ldc 142, 2) :: (22, .invokevirtual 133, 3) :: (25, .istore_n 3, 1) :: (26, .iload_n 3, 1) :: (27, .iconst (-1), 1) :: (28, .if_icmp .ne 7, 3) :: (31, .iconst 1, 1) :: (32, .goto 4, 3) :: k_X0_readStill_35
def k_X0_readStill_12 : List CI := (12, .aload_n 1, 1) :: (13, .iconst 3, 1) :: (14, .invokevirtual 130, 3) :: (17, .return_, 1) :: k_X0_readStill_18
def k_X0_readStill : List CI := (0, .iload_n 2, 1) :: (1, .ifCond .eq 11, 3) :: (4, .aload_n 0, 1) :: (5, .getfield 50, 3) :: (8, .iconst 3, 1) :: (9, .if_icmp .lt 9, 3) :: k_X0_readStill_12
def Y_X0_readStill : MD := (yX0_readStill, cX0_readStill, 6, none, k_X0_readStill)
theorem cok_X0_readStill : COK Y_X0_readStill.2.1 Y_X0_readStill.code = true := by decide +kernel
theorem mok_X0_readStill : MOK Y_X0_readStill 2 := ⟨mU_3 201 rfl rfl, mU_1 3 rfl rfl, by decide, by decide, by decide +kernel, by decide⟩
theorem ins_X0_readStill : INST Y_X0_readStill := ⟨mU_3 200 rfl rfl, mV_2 (n := 8) 5 rfl⟩
def k_X2_isLaw_17 : List CI := (17, .ireturn, 1) :: []
def k_X2_isLaw_16 : List CI := (16, .iconst 0, 1) :: k_X2_isLaw_17
def k_X2_isLaw : List CI := (0, .iload_n 1, 1) :: (1, .ifCond .lt 15, 3) :: (4, .iload_n 1, 1) :: (5, .aload_n 0, 1) :: (6, .getfield 31, 3) :: (9, .if_icmp .ge 7, 3) :: (12, .iconst 1, 1) :: (13, .goto 4, 3) :: k_X2_isLaw_16
def Y_X2_isLaw : MD := (yX2_isLaw, cX2_isLaw, 2, (some .boolean), k_X2_isLaw)
theorem cok_X2_isLaw : COK Y_X2_isLaw.2.1 Y_X2_isLaw.code = true := by decide +kernel
theorem mok_X2_isLaw : MOK Y_X2_isLaw 1 := ⟨mU_3 196 rfl rfl, mU_1 4 rfl rfl, by decide, by decide, by decide +kernel, by decide⟩
theorem ins_X2_isLaw : INST Y_X2_isLaw := ⟨mU_3 195 rfl rfl, mV_2 (n := 9) 4 rfl⟩
def k_X2_weekOf_18 : List CI := (18, .ireturn, 1) :: []
def k_X2_weekOf_17 : List CI := (17, .iconst 0, 1) :: k_X2_weekOf_18
def k_X2_weekOf : List CI := (0, .aload_n 0, 1) :: (1, .iload_n 1, 1) :: (2, .invokevirtual 50, 3) :: (5, .ifCond .eq 12, 3) :: (8, .aload_n 0, 1) :: (9, .getfield 15, 3) :: (12, .iload_n 1, 1) :: (13, .iaload, 1) :: (14, .goto 4, 3) :: k_X2_weekOf_17
def Y_X2_weekOf : MD := (yX2_weekOf, cX2_weekOf, 2, (some .int), k_X2_weekOf)
theorem cok_X2_weekOf : COK Y_X2_weekOf.2.1 Y_X2_weekOf.code = true := by decide +kernel
theorem mok_X2_weekOf : MOK Y_X2_weekOf 1 := ⟨mU_3 192 rfl rfl, mU_1 4 rfl rfl, by decide, by decide, by decide +kernel, by decide⟩
theorem ins_X2_weekOf : INST Y_X2_weekOf := ⟨mU_3 191 rfl rfl, mV_2 (n := 9) 3 rfl⟩
def k_X0_readSlip_95 : List CI := (95, .return_, 1) :: []
def k_X0_readSlip_73 : List CI := (73, .istore 5, 2) :: (75, .iload 5, 2) :: (77, .iconst (-1), 1) :: (78, .if_icmp .eq 17, 3) :: (81, .aload_n 0, 1) :: (82, .getfield 23, 3) :: (85, .iload_n 3, 1) :: (86, .bipush 12, 2) :: (88, .imul, 1) :: (89, .iload 4, 2) :: (91, .iadd, 1) :: (92, .iload 5, 2) :: (94, .iastore, 1) :: k_X0_readSlip_95
def k_X0_readSlip_57 : List CI := (57, .aload_n 1, 1) :: (58, .iconst 0, 1) :: (59, .aload_n 0, 1) :: (60, .getfield 14, 3) :: (63, .iload 4, 2) :: (65, .invokevirtual 139, 3) :: (68, .iconst 1, 1) :: (69, .isub, 1) :: (70, .invokevirtual 133, 3) :: k_X0_readSlip_73
def k_X0_readSlip_45 : List CI := (45, .istore 4, 2) :: (47, .iload 4, 2) :: (49, .iconst (-1), 1) :: (50, .if_icmp .ne 7, 3) :: (53, .iconst (-1), 1) :: (54, .goto 19, 3) :: k_X0_readSlip_57
def k_X0_readSlip_31 : List CI := (31, .aload_n 1, 1) :: (32, .iconst 0, 1) :: (33, .aload_n 0, 1) :: (34, .getfield 14, 3) :: (37, .getfield 63, 3) :: (40, .iconst 1, 1) :: (41, .isub, 1) :: (42, .invokevirtual 133, 3) :: k_X0_readSlip_45
def k_X0_readSlip_10 : List CI := (10, .aload_n 1, 1) :: (11, .iconst 0, 1) :: (12, .aload_n 0, 1) :: (13, .getfield 47, 3) :: (16, .iconst 1, 1) :: (17, .isub, 1) :: (18, .invokevirtual 133, 3) :: (21, .istore_n 3, 1) :: (22, .iload_n 3, 1) :: (23, .iconst (-1), 1) :: (24, .if_icmp .ne 7, 3) :: (27, .iconst (-1), 1) :: (28, .goto 17, 3) :: k_X0_readSlip_31
def k_X0_readSlip : List CI := (0, .iload_n 2, 1) :: (1, .ifCond .ne 9, 3) :: (4, .aload_n 1, 1) :: (5, .iconst 3, 1) :: (6, .invokevirtual 130, 3) :: (9, .return_, 1) :: k_X0_readSlip_10
def Y_X0_readSlip : MD := (yX0_readSlip, cX0_readSlip, 6, none, k_X0_readSlip)
theorem cok_X0_readSlip : COK Y_X0_readSlip.2.1 Y_X0_readSlip.code = true := by decide +kernel
theorem mok_X0_readSlip : MOK Y_X0_readSlip 2 := ⟨mU_3 188 rfl rfl, mU_1 3 rfl rfl, by decide, by decide, by decide +kernel, by decide⟩
theorem ins_X0_readSlip : INST Y_X0_readSlip := ⟨mU_3 187 rfl rfl, mV_2 (n := 8) 2 rfl⟩
def k_X0_readHouse_19 : List CI := (19, .aload_n 0, 1) :: (20, .dup, 1) :: (21, .getfield 47, 3) :: (24, .iconst 1, 1) :: (25, .iadd, 1) :: (26, .putfield 47, 3) :: (29, .return_, 1) :: []
def k_X0_readHouse_13 : List CI := (13, .aload_n 1, 1) :: (14, .iconst 3, 1) :: (15, .invokevirtual 130, 3) :: (18, .return_, 1) :: k_X0_readHouse_19
def k_X0_readHouse : List CI := (0, .iload_n 2, 1) :: (1, .ifCond .eq 12, 3) :: (4, .aload_n 0, 1) :: (5, .getfield 47, 3) :: (8, .bipush 10, 2) :: (10, .if_icmp .lt 9, 3) :: k_X0_readHouse_13
def Y_X0_readHouse : MD := (yX0_readHouse, cX0_readHouse, 3, none, k_X0_readHouse)
theorem cok_X0_readHouse : COK Y_X0_readHouse.2.1 Y_X0_readHouse.code = true := by decide +kernel
theorem mok_X0_readHouse : MOK Y_X0_readHouse 2 := ⟨mU_3 183 rfl rfl, mU_1 3 rfl rfl, by decide, by decide, by decide +kernel, by decide⟩
theorem ins_X0_readHouse : INST Y_X0_readHouse := ⟨mU_3 182 rfl rfl, mV_2 (n := 8) 1 rfl⟩
def k_X2_isFull_17 : List CI := (17, .ireturn, 1) :: []
def k_X2_isFull_16 : List CI := (16, .iconst 0, 1) :: k_X2_isFull_17
def k_X2_isFull : List CI := (0, .aload_n 0, 1) :: (1, .getfield 31, 3) :: (4, .aload_n 0, 1) :: (5, .getfield 15, 3) :: (8, .arraylength, 1) :: (9, .if_icmp .lt 7, 3) :: (12, .iconst 1, 1) :: (13, .goto 4, 3) :: k_X2_isFull_16
def Y_X2_isFull : MD := (yX2_isFull, cX2_isFull, 1, (some .boolean), k_X2_isFull)
theorem cok_X2_isFull : COK Y_X2_isFull.2.1 Y_X2_isFull.code = true := by decide +kernel
theorem mok_X2_isFull : MOK Y_X2_isFull 0 := ⟨mU_3 155 rfl rfl, mU_1 4 rfl rfl, by decide, by decide, by decide +kernel, by decide⟩
theorem ins_X2_isFull : INST Y_X2_isFull := ⟨mU_3 154 rfl rfl, mV_1 (n := 9) 12 rfl⟩
def k_J9_max_7cf53_10 : List CI := (10, .ireturn, 1) :: []
def k_J9_max_7cf53_9 : List CI := (9, .iload_n 1, 1) :: k_J9_max_7cf53_10
def k_J9_max_7cf53 : List CI := (0, .iload_n 0, 1) :: (1, .iload_n 1, 1) :: (2, .if_icmp .lt 7, 3) :: (5, .iload_n 0, 1) :: (6, .goto 4, 3) :: k_J9_max_7cf53_9
def Y_J9_max_7cf53 : MD := (yJ9_max_7cf53, cJ9_max_7cf53, 2, (some .int), k_J9_max_7cf53)
theorem cok_J9_max_7cf53 : COK Y_J9_max_7cf53.2.1 Y_J9_max_7cf53.code = true := by decide +kernel
theorem mok_J9_max_7cf53 : MOK Y_J9_max_7cf53 2 := ⟨mU_1 83 rfl rfl, mU_1 5 rfl rfl, by decide, by decide, by decide +kernel, by decide⟩
theorem sta_J9_max_7cf53 : STAT Y_J9_max_7cf53 := mU_1 82 rfl rfl
def k_X10_everyOf_27 : List CI := (27, .lload_n 1, 1) :: (28, .lreturn, 1) :: []
def k_X10_everyOf_4 : List CI := (4, .iload_n 3, 1) :: (5, .bipush 64, 2) :: (7, .if_icmp .ge 20, 3) :: (10, .lload_n 1, 1) :: (11, .lconst 1, 1) :: (12, .iload_n 3, 1) :: (13, .lshl, 1) :: (14, .lor, 1) :: (15, .lstore_n 1, 1) :: (16, .iload_n 3, 1) :: (17, .iload_n 0, 1) :: (18, .iconst 1, 1) :: (19, .invokestatic 298, 3) :: (22, .iadd, 1) :: (23, .istore_n 3, 1) :: (24, .goto (-20), 3) :: k_X10_everyOf_27
def k_X10_everyOf : List CI := (0, .lconst 0, 1) :: (1, .lstore_n 1, 1) :: (2, .iconst 0, 1) :: (3, .istore_n 3, 1) :: k_X10_everyOf_4
def Y_X10_everyOf : MD := (yX10_everyOf, cX10_everyOf, 4, (some .long), k_X10_everyOf)
theorem cok_X10_everyOf : COK Y_X10_everyOf.2.1 Y_X10_everyOf.code = true := by decide +kernel
theorem mok_X10_everyOf : MOK Y_X10_everyOf 1 := ⟨mU_3 176 rfl rfl, mU_1 1 rfl rfl, by decide, by decide, by decide +kernel, by decide⟩
theorem sta_X10_everyOf : STAT Y_X10_everyOf := mU_3 175 rfl rfl
def k_X2_add_50 : List CI := (50, .return_, 1) :: []
def k_X2_add : List CI := (0, .aload_n 0, 1) :: (1, .invokevirtual 35, 3) :: (4, .ifCond .ne 46, 3) :: (7, .aload_n 0, 1) :: (8, .getfield 15, 3) :: (11, .aload_n 0, 1) :: (12, .getfield 31, 3) :: (15, .iload_n 1, 1) :: (16, .iastore, 1) :: (17, .aload_n 0, 1) :: (18, .getfield 21, 3) :: (21, .aload_n 0, 1) :: (22, .getfield 31, 3) :: (25, .iload_n 2, 1) :: (26, .iastore, 1) :: (27, .aload_n 0, 1) :: (28, .getfield 24, 3) :: (31, .aload_n 0, 1) :: (32, .getfield 31, 3) :: (35, .iload_n 1, 1) :: (36, .invokestatic 39, 3) :: (39, .lastore, 1) :: (40, .aload_n 0, 1) :: (41, .dup, 1) :: (42, .getfield 31, 3) :: (45, .iconst 1, 1) :: (46, .iadd, 1) :: (47, .putfield 31, 3) :: k_X2_add_50
def Y_X2_add : MD := (yX2_add, cX2_add, 3, none, k_X2_add)
theorem cok_X2_add : COK Y_X2_add.2.1 Y_X2_add.code = true := by decide +kernel
theorem mok_X2_add : MOK Y_X2_add 2 := ⟨mU_3 172 rfl rfl, mU_1 4 rfl rfl, by decide, by decide, by decide +kernel, by decide⟩
theorem ins_X2_add : INST Y_X2_add := ⟨mU_3 171 rfl rfl, mV_2 (n := 9) 0 rfl⟩
def k_X0_readLaw_57 : List CI := (57, .return_, 1) :: []
def k_X0_readLaw_17 : List CI := (17, .aload_n 1, 1) :: (18, .iconst 2, 1) :: (19, .bipush 24, 2) :: (21, .invokevirtual 133, 3) :: (24, .istore 4, 2) :: (26, .iload 4, 2) :: (28, .iconst (-1), 1) :: (29, .if_icmp .eq 28, 3) :: (32, .aload_n 1, 1) :: (33, .iconst 0, 1) :: (34, .iload 4, 2) :: (36, .iconst 1, 1) :: (37, .isub, 1) :: (38, .invokevirtual 133, 3) :: (41, .istore 5, 2) :: (43, .iload 5, 2) :: (45, .iconst (-1), 1) :: (46, .if_icmp .eq 11, 3) :: (49, .aload_n 2, 1) :: (50, .iload 4, 2) :: (52, .iload 5, 2) :: (54, .invokevirtual 136, 3) :: k_X0_readLaw_57
def k_X0_readLaw_11 : List CI := (11, .aload_n 1, 1) :: (12, .iconst 3, 1) :: (13, .invokevirtual 130, 3) :: (16, .return_, 1) :: k_X0_readLaw_17
def k_X0_readLaw : List CI := (0, .iload_n 3, 1) :: (1, .ifCond .eq 10, 3) :: (4, .aload_n 2, 1) :: (5, .invokevirtual 127, 3) :: (8, .ifCond .eq 9, 3) :: k_X0_readLaw_11
def Y_X0_readLaw : MD := (yX0_readLaw, cX0_readLaw, 6, none, k_X0_readLaw)
theorem cok_X0_readLaw : COK Y_X0_readLaw.2.1 Y_X0_readLaw.code = true := by decide +kernel
theorem mok_X0_readLaw : MOK Y_X0_readLaw 3 := ⟨mU_3 151 rfl rfl, mU_1 3 rfl rfl, by decide, by decide, by decide +kernel, by decide⟩
theorem ins_X0_readLaw : INST Y_X0_readLaw := ⟨mU_3 150 rfl rfl, mV_1 (n := 8) 11 rfl⟩
def k_X0_readClause_122 : List CI := (122, .return_, 1) :: []
def k_X0_readClause_102 : List CI := (102, .aload_n 1, 1) :: (103, .invokevirtual 66, 3) :: (106, .ifCond .eq 16, 3) :: (109, .aload_n 1, 1) :: (110, .bipush 59, 2) :: (112, .invokevirtual 123, 3) :: (115, .ifCond .ne 7, 3) :: (118, .aload_n 1, 1) :: (119, .invokevirtual 120, 3) :: k_X0_readClause_122
def k_X0_readClause_98 : List CI := (98, .aload_n 1, 1) :: (99, .invokevirtual 120, 3) :: k_X0_readClause_102
def k_X0_readClause_80 : List CI := (80, .aload_n 1, 1) :: (81, .ldc 116, 2) :: (83, .invokevirtual 96, 3) :: (86, .ifCond .eq 12, 3) :: (89, .aload_n 0, 1) :: (90, .aload_n 1, 1) :: (91, .iload_n 2, 1) :: (92, .invokevirtual 117, 3) :: (95, .goto 7, 3) :: k_X0_readClause_98
def k_X0_readClause_62 : List CI := (62, .aload_n 1, 1) :: (63, .ldc 111, 2) :: (65, .invokevirtual 96, 3) :: (68, .ifCond .eq 12, 3) :: (71, .aload_n 0, 1) :: (72, .aload_n 1, 1) :: (73, .iload_n 2, 1) :: (74, .invokevirtual 113, 3) :: (77, .goto 25, 3) :: k_X0_readClause_80
def k_X0_readClause_44 : List CI := (44, .aload_n 1, 1) :: (45, .ldc 106, 2) :: (47, .invokevirtual 96, 3) :: (50, .ifCond .eq 12, 3) :: (53, .aload_n 0, 1) :: (54, .aload_n 1, 1) :: (55, .iload_n 2, 1) :: (56, .invokevirtual 108, 3) :: (59, .goto 43, 3) :: k_X0_readClause_62
def k_X0_readClause_22 : List CI := (22, .aload_n 1, 1) :: (23, .ldc 104, 2) :: (25, .invokevirtual 96, 3) :: (28, .ifCond .eq 16, 3) :: (31, .aload_n 0, 1) :: (32, .aload_n 1, 1) :: (33, .aload_n 0, 1) :: (34, .getfield 20, 3) :: (37, .iload_n 2, 1) :: (38, .invokevirtual 100, 3) :: (41, .goto 61, 3) :: k_X0_readClause_44
def k_X0_readClause : List CI := (0, .aload_n 1, 1) :: (1, .ldc 94, 2) :: (3, .invokevirtual 96, 3) :: (6, .ifCond .eq 16, 3) :: (9, .aload_n 0, 1) :: (10, .aload_n 1, 1) :: (11, .aload_n 0, 1) :: (12, .getfield 14, 3) :: (15, .iload_n 2, 1) :: (16, .invokevirtual 100, 3) :: (19, .goto 83, 3) :: k_X0_readClause_22
def Y_X0_readClause : MD := (yX0_readClause, cX0_readClause, 3, none, k_X0_readClause)
theorem cok_X0_readClause : COK Y_X0_readClause.2.1 Y_X0_readClause.code = true := by decide +kernel
theorem mok_X0_readClause : MOK Y_X0_readClause 2 := ⟨mU_3 93 rfl rfl, mU_1 3 rfl rfl, by decide, by decide, by decide +kernel, by decide⟩
theorem ins_X0_readClause : INST Y_X0_readClause := ⟨mU_3 92 rfl rfl, mV_1 (n := 8) 9 rfl⟩
def k_X0_read_159 : List CI := (159, .return_, 1) :: []
def k_X0_read_94 : List CI := (94, .aload_n 0, 1) :: (95, .aload_n 0, 1) :: (96, .getfield 14, 3) :: (99, .aload_n 0, 1) :: (100, .getfield 14, 3) :: (103, .getfield 63, 3) :: (106, .invokestatic 79, 3) :: (109, .iconst 1, 1) :: (110, .invokevirtual 83, 3) :: (113, .putfield 30, 3) :: (116, .aload_n 0, 1) :: (117, .aload_n 0, 1) :: (118, .getfield 20, 3) :: (121, .aload_n 0, 1) :: (122, .getfield 20, 3) :: (125, .getfield 63, 3) :: (128, .invokestatic 79, 3) :: (131, .aload_n 0, 1) :: (132, .getfield 30, 3) :: (135, .invokevirtual 83, 3) :: (138, .putfield 34, 3) :: (141, .aload_n 0, 1) :: (142, .getfield 34, 3) :: (145, .ldc 86, 2) :: (147, .if_icmp .le 12, 3) :: (150, .aload_n 1, 1) :: (151, .iconst 4, 1) :: (152, .aload_n 1, 1) :: (153, .getfield 87, 3) :: (156, .invokevirtual 90, 3) :: k_X0_read_159
def k_X0_read_85 : List CI := (85, .invokevirtual 75, 3) :: (88, .iinc 2 1, 3) :: (91, .goto (-39), 3) :: k_X0_read_94
def k_X0_read_84 : List CI := (84, .iconst 0, 1) :: k_X0_read_85
def k_X0_read_52 : List CI := (52, .iload_n 2, 1) :: (53, .bipush 60, 2) :: (55, .if_icmp .gt 39, 3) :: (58, .aload_n 1, 1) :: (59, .invokevirtual 66, 3) :: (62, .ifCond .eq 32, 3) :: (65, .aload_n 1, 1) :: (66, .invokevirtual 72, 3) :: (69, .ifCond .ne 25, 3) :: (72, .aload_n 0, 1) :: (73, .aload_n 1, 1) :: (74, .iload_n 2, 1) :: (75, .bipush 60, 2) :: (77, .if_icmp .ge 7, 3) :: (80, .iconst 1, 1) :: (81, .goto 4, 3) :: k_X0_read_84
def k_X0_read_50 : List CI := (50, .iconst 0, 1) :: (51, .istore_n 2, 1) :: k_X0_read_52
def k_X0_read_28 : List CI := (28, .iload_n 2, 1) :: (29, .aload_n 0, 1) :: (30, .getfield 23, 3) :: (33, .arraylength, 1) :: (34, .if_icmp .ge 16, 3) :: (37, .aload_n 0, 1) :: (38, .getfield 23, 3) :: (41, .iload_n 2, 1) :: (42, .iconst 0, 1) :: (43, .iastore, 1) :: (44, .iinc 2 1, 3) :: (47, .goto (-19), 3) :: k_X0_read_50
def k_X0_read : List CI := (0, .aload_n 0, 1) :: (1, .getfield 14, 3) :: (4, .iconst 0, 1) :: (5, .putfield 63, 3) :: (8, .aload_n 0, 1) :: (9, .getfield 20, 3) :: (12, .iconst 0, 1) :: (13, .putfield 63, 3) :: (16, .aload_n 0, 1) :: (17, .iconst 0, 1) :: (18, .putfield 47, 3) :: (21, .aload_n 0, 1) :: (22, .iconst 0, 1) :: (23, .putfield 50, 3) :: (26, .iconst 0, 1) :: (27, .istore_n 2, 1) :: k_X0_read_28
def Y_X0_read : MD := (yX0_read, cX0_read, 3, none, k_X0_read)
theorem cok_X0_read : COK Y_X0_read.2.1 Y_X0_read.code = true := by decide +kernel
theorem mok_X0_read : MOK Y_X0_read 1 := ⟨mU_3 77 rfl rfl, mU_1 3 rfl rfl, by decide, by decide, by decide +kernel, by decide⟩
theorem ins_X0_read : INST Y_X0_read := ⟨mU_3 76 rfl rfl, mV_1 (n := 8) 5 rfl⟩
def k_X10_closeText : List CI := (0, .aload_n 0, 1) :: (1, .aload_n 0, 1) :: (2, .getfield 21, 3) :: (5, .getfield 384, 3) :: (8, .putfield 90, 3) :: (11, .aload_n 0, 1) :: (12, .getfield 21, 3) :: (15, .iconst 0, 1) :: (16, .putfield 94, 3) :: (19, .aload_n 0, 1) :: (20, .getfield 21, 3) :: (23, .getfield 385, 3) :: (26, .ireturn, 1) :: []
def Y_X10_closeText : MD := (yX10_closeText, cX10_closeText, 1, (some .int), k_X10_closeText)
theorem cok_X10_closeText : COK Y_X10_closeText.2.1 Y_X10_closeText.code = true := by decide +kernel
theorem mok_X10_closeText : MOK Y_X10_closeText 0 := ⟨mU_3 233 rfl rfl, mU_1 1 rfl rfl, by decide, by decide, by decide +kernel, by decide⟩
theorem ins_X10_closeText : INST Y_X10_closeText := ⟨mU_3 232 rfl rfl, mV_2 (n := 17) 9 rfl⟩
def k_X10_left_22 : List CI := (22, .ireturn, 1) :: []
def k_X10_left_21 : List CI := (21, .iload_n 2, 1) :: k_X10_left_22
def k_X10_left_7 : List CI := (7, .iload_n 0, 1) :: (8, .iload_n 1, 1) :: (9, .irem, 1) :: (10, .istore_n 2, 1) :: (11, .iload_n 2, 1) :: (12, .ifCond .ge 9, 3) :: (15, .iload_n 2, 1) :: (16, .iload_n 1, 1) :: (17, .iadd, 1) :: (18, .goto 4, 3) :: k_X10_left_21
def k_X10_left : List CI := (0, .iload_n 1, 1) :: (1, .iconst 1, 1) :: (2, .if_icmp .ge 5, 3) :: (5, .iconst 0, 1) :: (6, .ireturn, 1) :: k_X10_left_7
def Y_X10_left : MD := (yX10_left, cX10_left, 3, (some .int), k_X10_left)
theorem cok_X10_left : COK Y_X10_left.2.1 Y_X10_left.code = true := by decide +kernel
theorem mok_X10_left : MOK Y_X10_left 2 := ⟨mU_4 10 rfl rfl, mU_1 1 rfl rfl, by decide, by decide, by decide +kernel, by decide⟩
theorem sta_X10_left : STAT Y_X10_left := mU_4 9 rfl rfl
def k_X2_lawsThatMeet_61 : List CI := (61, .iload_n 3, 1) :: (62, .ireturn, 1) :: []
def k_X2_lawsThatMeet_53 : List CI := (53, .ior, 1) :: (54, .istore_n 3, 1) :: (55, .iinc 4 1, 3) :: (58, .goto (-53), 3) :: k_X2_lawsThatMeet_61
def k_X2_lawsThatMeet_52 : List CI := (52, .iconst 0, 1) :: k_X2_lawsThatMeet_53
def k_X2_lawsThatMeet_5 : List CI := (5, .iload 4, 2) :: (7, .aload_n 0, 1) :: (8, .getfield 31, 3) :: (11, .if_icmp .ge 50, 3) :: (14, .aload_n 0, 1) :: (15, .getfield 15, 3) :: (18, .iload 4, 2) :: (20, .iaload, 1) :: (21, .iload_n 1, 1) :: (22, .invokestatic 65, 3) :: (25, .istore 5, 2) :: (27, .iload_n 3, 1) :: (28, .aload_n 0, 1) :: (29, .getfield 21, 3) :: (32, .iload 4, 2) :: (34, .iaload, 1) :: (35, .iload_n 2, 1) :: (36, .isub, 1) :: (37, .iload 5, 2) :: (39, .invokestatic 54, 3) :: (42, .ifCond .ne 10, 3) :: (45, .iconst 1, 1) :: (46, .iload 4, 2) :: (48, .ishl, 1) :: (49, .goto 4, 3) :: k_X2_lawsThatMeet_52
def k_X2_lawsThatMeet : List CI := (0, .iconst 0, 1) :: (1, .istore_n 3, 1) :: (2, .iconst 0, 1) :: (3, .istore 4, 2) :: k_X2_lawsThatMeet_5
def Y_X2_lawsThatMeet : MD := (yX2_lawsThatMeet, cX2_lawsThatMeet, 6, (some .int), k_X2_lawsThatMeet)
theorem cok_X2_lawsThatMeet : COK Y_X2_lawsThatMeet.2.1 Y_X2_lawsThatMeet.code = true := by decide +kernel
theorem mok_X2_lawsThatMeet : MOK Y_X2_lawsThatMeet 2 := ⟨mU_4 6 rfl rfl, mU_1 4 rfl rfl, by decide, by decide, by decide +kernel, by decide⟩
theorem ins_X2_lawsThatMeet : INST Y_X2_lawsThatMeet := ⟨mU_4 5 rfl rfl, mV_2 (n := 9) 12 rfl⟩
def k_X2_copy_75 : List CI := (75, .return_, 1) :: []
def k_X2_copy_39 : List CI := (39, .iload_n 2, 1) :: (40, .aload_n 0, 1) :: (41, .getfield 31, 3) :: (44, .if_icmp .ge 31, 3) :: (47, .aload_n 0, 1) :: (48, .getfield 28, 3) :: (51, .iload_n 2, 1) :: (52, .aload_n 0, 1) :: (53, .aload_n 0, 1) :: (54, .getfield 15, 3) :: (57, .iload_n 2, 1) :: (58, .iaload, 1) :: (59, .aload_n 0, 1) :: (60, .getfield 21, 3) :: (63, .iload_n 2, 1) :: (64, .iaload, 1) :: (65, .invokevirtual 47, 3) :: (68, .iastore, 1) :: (69, .iinc 2 1, 3) :: (72, .goto (-33), 3) :: k_X2_copy_75
def k_X2_copy_37 : List CI := (37, .iconst 0, 1) :: (38, .istore_n 2, 1) :: k_X2_copy_39
def k_X2_copy_7 : List CI := (7, .iload_n 2, 1) :: (8, .aload_n 1, 1) :: (9, .getfield 31, 3) :: (12, .if_icmp .ge 25, 3) :: (15, .aload_n 0, 1) :: (16, .aload_n 1, 1) :: (17, .getfield 15, 3) :: (20, .iload_n 2, 1) :: (21, .iaload, 1) :: (22, .aload_n 1, 1) :: (23, .getfield 21, 3) :: (26, .iload_n 2, 1) :: (27, .iaload, 1) :: (28, .invokevirtual 43, 3) :: (31, .iinc 2 1, 3) :: (34, .goto (-27), 3) :: k_X2_copy_37
def k_X2_copy : List CI := (0, .aload_n 0, 1) :: (1, .iconst 0, 1) :: (2, .putfield 31, 3) :: (5, .iconst 0, 1) :: (6, .istore_n 2, 1) :: k_X2_copy_7
def Y_X2_copy : MD := (yX2_copy, cX2_copy, 3, none, k_X2_copy)
theorem cok_X2_copy : COK Y_X2_copy.2.1 Y_X2_copy.code = true := by decide +kernel
theorem mok_X2_copy : MOK Y_X2_copy 1 := ⟨mU_4 1 rfl rfl, mU_1 4 rfl rfl, by decide, by decide, by decide +kernel, by decide⟩
theorem ins_X2_copy : INST Y_X2_copy := ⟨mU_4 0 rfl rfl, mV_2 (n := 9) 11 rfl⟩
def k_X0_copy : List CI := (0, .aload_n 0, 1) :: (1, .getfield 14, 3) :: (4, .aload_n 1, 1) :: (5, .getfield 14, 3) :: (8, .invokevirtual 37, 3) :: (11, .aload_n 0, 1) :: (12, .getfield 20, 3) :: (15, .aload_n 1, 1) :: (16, .getfield 20, 3) :: (19, .invokevirtual 37, 3) :: (22, .aload_n 1, 1) :: (23, .getfield 23, 3) :: (26, .iconst 0, 1) :: (27, .aload_n 0, 1) :: (28, .getfield 23, 3) :: (31, .iconst 0, 1) :: (32, .aload_n 0, 1) :: (33, .getfield 23, 3) :: (36, .arraylength, 1) :: (37, .invokestatic 41, 3) :: (40, .aload_n 1, 1) :: (41, .getfield 27, 3) :: (44, .iconst 0, 1) :: (45, .aload_n 0, 1) :: (46, .getfield 27, 3) :: (49, .iconst 0, 1) :: (50, .aload_n 0, 1) :: (51, .getfield 27, 3) :: (54, .arraylength, 1) :: (55, .invokestatic 41, 3) :: (58, .aload_n 0, 1) :: (59, .aload_n 1, 1) :: (60, .getfield 47, 3) :: (63, .putfield 47, 3) :: (66, .aload_n 0, 1) :: (67, .aload_n 1, 1) :: (68, .getfield 50, 3) :: (71, .putfield 50, 3) :: (74, .aload_n 0, 1) :: (75, .aload_n 1, 1) :: (76, .getfield 30, 3) :: (79, .putfield 30, 3) :: (82, .aload_n 0, 1) :: (83, .aload_n 1, 1) :: (84, .getfield 34, 3) :: (87, .putfield 34, 3) :: (90, .return_, 1) :: []
def Y_X0_copy : MD := (yX0_copy, cX0_copy, 2, none, k_X0_copy)
theorem cok_X0_copy : COK Y_X0_copy.2.1 Y_X0_copy.code = true := by decide +kernel
theorem mok_X0_copy : MOK Y_X0_copy 1 := ⟨mU_3 237 rfl rfl, mU_1 3 rfl rfl, by decide, by decide, by decide +kernel, by decide⟩
theorem ins_X0_copy : INST Y_X0_copy := ⟨mU_3 236 rfl rfl, mV_2 (n := 8) 10 rfl⟩
def k_X7_clear : List CI := (0, .aload_n 0, 1) :: (1, .iconst 0, 1) :: (2, .putfield 40, 3) :: (5, .aload_n 0, 1) :: (6, .iconst 0, 1) :: (7, .putfield 43, 3) :: (10, .aload_n 0, 1) :: (11, .aload_n 0, 1) :: (12, .getfield 32, 3) :: (15, .getfield 47, 3) :: (18, .putfield 28, 3) :: (21, .return_, 1) :: []
def Y_X7_clear : MD := (yX7_clear, cX7_clear, 1, none, k_X7_clear)
theorem cok_X7_clear : COK Y_X7_clear.2.1 Y_X7_clear.code = true := by decide +kernel
theorem mok_X7_clear : MOK Y_X7_clear 0 := ⟨mU_4 15 rfl rfl, mU_1 8 rfl rfl, by decide, by decide, by decide +kernel, by decide⟩
theorem ins_X7_clear : INST Y_X7_clear := ⟨mU_4 14 rfl rfl, mV_2 (n := 10) 13 rfl⟩
def k_X3_begin : List CI := (0, .aload_n 1, 1) :: (1, .getfield 43, 3) :: (4, .iconst 0, 1) :: (5, .aload_n 0, 1) :: (6, .getfield 9, 3) :: (9, .iconst 0, 1) :: (10, .aload_n 0, 1) :: (11, .getfield 9, 3) :: (14, .arraylength, 1) :: (15, .invokestatic 46, 3) :: (18, .aload_n 0, 1) :: (19, .iconst 0, 1) :: (20, .putfield 52, 3) :: (23, .aload_n 0, 1) :: (24, .iconst 0, 1) :: (25, .putfield 56, 3) :: (28, .aload_n 0, 1) :: (29, .iconst 0, 1) :: (30, .putfield 59, 3) :: (33, .return_, 1) :: []
def Y_X3_begin : MD := (yX3_begin, cX3_begin, 2, none, k_X3_begin)
theorem cok_X3_begin : COK Y_X3_begin.2.1 Y_X3_begin.code = true := by decide +kernel
theorem mok_X3_begin : MOK Y_X3_begin 1 := ⟨mU_4 19 rfl rfl, mU_1 6 rfl rfl, by decide, by decide, by decide +kernel, by decide⟩
theorem ins_X3_begin : INST Y_X3_begin := ⟨mU_4 18 rfl rfl, mV_2 (n := 13) 14 rfl⟩
def k_X10_calendar_57 : List CI := (57, .aload_n 0, 1) :: (58, .getfield 27, 3) :: (61, .aload_n 0, 1) :: (62, .getfield 31, 3) :: (65, .invokevirtual 116, 3) :: (68, .aload_n 0, 1) :: (69, .getfield 47, 3) :: (72, .invokevirtual 119, 3) :: (75, .aload_n 0, 1) :: (76, .getfield 34, 3) :: (79, .aload_n 0, 1) :: (80, .getfield 27, 3) :: (83, .invokevirtual 122, 3) :: (86, .aload_n 0, 1) :: (87, .iconst 0, 1) :: (88, .putfield 125, 3) :: (91, .aload_n 0, 1) :: (92, .getfield 27, 3) :: (95, .getfield 128, 3) :: (98, .getfield 132, 3) :: (101, .ireturn, 1) :: []
def k_X10_calendar_21 : List CI := (21, .invokevirtual 101, 3) :: (24, .aload_n 0, 1) :: (25, .getfield 21, 3) :: (28, .iload_n 1, 1) :: (29, .invokevirtual 105, 3) :: (32, .aload_n 0, 1) :: (33, .getfield 31, 3) :: (36, .aload_n 0, 1) :: (37, .getfield 21, 3) :: (40, .invokevirtual 108, 3) :: (43, .aload_n 0, 1) :: (44, .invokevirtual 112, 3) :: (47, .istore_n 2, 1) :: (48, .iload_n 2, 1) :: (49, .ifCond .eq 8, 3) :: (52, .iload_n 2, 1) :: (53, .bipush 10, 2) :: (55, .isub, 1) :: (56, .ireturn, 1) :: k_X10_calendar_57
def k_X10_calendar_20 : List CI := (20, .iconst 0, 1) :: k_X10_calendar_21
def k_X10_calendar : List CI := (0, .aload_n 0, 1) :: (1, .iload_n 1, 1) :: (2, .ifCond .lt 18, 3) :: (5, .iload_n 1, 1) :: (6, .aload_n 0, 1) :: (7, .getfield 21, 3) :: (10, .getfield 94, 3) :: (13, .if_icmp .gt 7, 3) :: (16, .iconst 1, 1) :: (17, .goto 4, 3) :: k_X10_calendar_20
def Y_X10_calendar : MD := (yX10_calendar, cX10_calendar, 3, (some .int), k_X10_calendar)
theorem cok_X10_calendar : COK Y_X10_calendar.2.1 Y_X10_calendar.code = true := by decide +kernel
theorem mok_X10_calendar : MOK Y_X10_calendar 1 := ⟨mU_2 234 rfl rfl, mU_1 1 rfl rfl, by decide, by decide, by decide +kernel, by decide⟩
theorem ins_X10_calendar : INST Y_X10_calendar := ⟨mU_2 232 rfl rfl, mU_2 233 rfl rfl⟩
def k_X7_add_10 : List CI := (10, .aload_n 0, 1) :: (11, .getfield 11, 3) :: (14, .aload_n 0, 1) :: (15, .getfield 40, 3) :: (18, .iload_n 1, 1) :: (19, .iastore, 1) :: (20, .aload_n 0, 1) :: (21, .getfield 15, 3) :: (24, .aload_n 0, 1) :: (25, .getfield 40, 3) :: (28, .iload_n 2, 1) :: (29, .iastore, 1) :: (30, .aload_n 0, 1) :: (31, .getfield 18, 3) :: (34, .aload_n 0, 1) :: (35, .getfield 40, 3) :: (38, .iload_n 3, 1) :: (39, .iastore, 1) :: (40, .aload_n 0, 1) :: (41, .dup, 1) :: (42, .getfield 40, 3) :: (45, .iconst 1, 1) :: (46, .iadd, 1) :: (47, .putfield 40, 3) :: (50, .return_, 1) :: []
def k_X7_add : List CI := (0, .aload_n 0, 1) :: (1, .getfield 40, 3) :: (4, .bipush 100, 2) :: (6, .if_icmp .lt 4, 3) :: (9, .return_, 1) :: k_X7_add_10
def Y_X7_add : MD := (yX7_add, cX7_add, 4, none, k_X7_add)
theorem cok_X7_add : COK Y_X7_add.2.1 Y_X7_add.code = true := by decide +kernel
theorem mok_X7_add : MOK Y_X7_add 3 := ⟨mU_4 54 rfl rfl, mU_1 8 rfl rfl, by decide, by decide, by decide +kernel, by decide⟩
theorem ins_X7_add : INST Y_X7_add := ⟨mU_4 53 rfl rfl, mV_3 (n := 10) 4 rfl⟩
def k_X8_readPlain_232 : List CI := (232, .return_, 1) :: []
def k_X8_readPlain_225 : List CI := (225, .aload_n 0, 1) :: (226, .getfield 9, 3) :: (229, .invokevirtual 34, 3) :: k_X8_readPlain_232
def k_X8_readPlain_222 : List CI := (222, .goto 10, 3) :: k_X8_readPlain_225
def k_X8_readPlain_161 : List CI := (161, .aload_n 0, 1) :: (162, .getfield 9, 3) :: (165, .ldc 114, 2) :: (167, .invokevirtual 57, 3) :: (170, .ifCond .eq 55, 3) :: (173, .aload_n 0, 1) :: (174, .getfield 9, 3) :: (177, .iconst 0, 1) :: (178, .aload_n 0, 1) :: (179, .getfield 15, 3) :: (182, .getfield 116, 3) :: (185, .iconst 1, 1) :: (186, .isub, 1) :: (187, .invokevirtual 101, 3) :: (190, .istore_n 2, 1) :: (191, .iload_n 2, 1) :: (192, .iconst (-1), 1) :: (193, .if_icmp .eq 29, 3) :: (196, .aload_n 1, 1) :: (197, .iconst 3, 1) :: (198, .iload_n 2, 1) :: (199, .aload_n 0, 1) :: (200, .getfield 9, 3) :: (203, .iconst 0, 1) :: (204, .aload_n 0, 1) :: (205, .getfield 15, 3) :: (208, .getfield 90, 3) :: (211, .getfield 96, 3) :: (214, .iconst 1, 1) :: (215, .isub, 1) :: (216, .invokevirtual 101, 3) :: (219, .invokevirtual 61, 3) :: k_X8_readPlain_222
def k_X8_readPlain_158 : List CI := (158, .goto 74, 3) :: k_X8_readPlain_161
def k_X8_readPlain_113 : List CI := (113, .aload_n 0, 1) :: (114, .getfield 9, 3) :: (117, .ldc 112, 2) :: (119, .invokevirtual 57, 3) :: (122, .ifCond .eq 39, 3) :: (125, .aload_n 0, 1) :: (126, .getfield 9, 3) :: (129, .iconst 2, 1) :: (130, .bipush 99, 2) :: (132, .invokevirtual 101, 3) :: (135, .istore_n 2, 1) :: (136, .iload_n 2, 1) :: (137, .iconst (-1), 1) :: (138, .if_icmp .eq 20, 3) :: (141, .aload_n 1, 1) :: (142, .iconst 2, 1) :: (143, .iload_n 2, 1) :: (144, .aload_n 0, 1) :: (145, .getfield 9, 3) :: (148, .iconst 0, 1) :: (149, .iload_n 2, 1) :: (150, .iconst 1, 1) :: (151, .isub, 1) :: (152, .invokevirtual 101, 3) :: (155, .invokevirtual 61, 3) :: k_X8_readPlain_158
def k_X8_readPlain_72 : List CI := (72, .aload_n 0, 1) :: (73, .getfield 9, 3) :: (76, .ldc 107, 2) :: (78, .invokevirtual 57, 3) :: (81, .ifCond .eq 32, 3) :: (84, .aload_n 1, 1) :: (85, .iconst 4, 1) :: (86, .aload_n 0, 1) :: (87, .getfield 9, 3) :: (90, .iconst 0, 1) :: (91, .aload_n 0, 1) :: (92, .getfield 15, 3) :: (95, .getfield 109, 3) :: (98, .getfield 96, 3) :: (101, .iconst 1, 1) :: (102, .isub, 1) :: (103, .invokevirtual 101, 3) :: (106, .iconst 0, 1) :: (107, .invokevirtual 61, 3) :: (110, .goto 122, 3) :: k_X8_readPlain_113
def k_X8_readPlain_41 : List CI := (41, .aload_n 0, 1) :: (42, .getfield 9, 3) :: (45, .ldc 105, 2) :: (47, .invokevirtual 57, 3) :: (50, .ifCond .eq 22, 3) :: (53, .aload_n 1, 1) :: (54, .iconst 1, 1) :: (55, .aload_n 0, 1) :: (56, .getfield 9, 3) :: (59, .iconst 0, 1) :: (60, .bipush 12, 2) :: (62, .invokevirtual 101, 3) :: (65, .iconst 0, 1) :: (66, .invokevirtual 61, 3) :: (69, .goto 163, 3) :: k_X8_readPlain_72
def k_X8_readPlain : List CI := (0, .aload_n 0, 1) :: (1, .getfield 9, 3) :: (4, .ldc 88, 2) :: (6, .invokevirtual 57, 3) :: (9, .ifCond .eq 32, 3) :: (12, .aload_n 1, 1) :: (13, .iconst 0, 1) :: (14, .aload_n 0, 1) :: (15, .getfield 9, 3) :: (18, .iconst 0, 1) :: (19, .aload_n 0, 1) :: (20, .getfield 15, 3) :: (23, .getfield 90, 3) :: (26, .getfield 96, 3) :: (29, .iconst 1, 1) :: (30, .isub, 1) :: (31, .invokevirtual 101, 3) :: (34, .iconst 0, 1) :: (35, .invokevirtual 61, 3) :: (38, .goto 194, 3) :: k_X8_readPlain_41
def Y_X8_readPlain : MD := (yX8_readPlain, cX8_readPlain, 3, none, k_X8_readPlain)
theorem cok_X8_readPlain : COK Y_X8_readPlain.2.1 Y_X8_readPlain.code = true := by decide +kernel
theorem mok_X8_readPlain : MOK Y_X8_readPlain 1 := ⟨mU_4 60 rfl rfl, mU_1 9 rfl rfl, by decide, by decide, by decide +kernel, by decide⟩
theorem ins_X8_readPlain : INST Y_X8_readPlain := ⟨mU_4 59 rfl rfl, mV_3 (n := 2) 5 rfl⟩
def k_X8_mayOpen_25 : List CI := (25, .ireturn, 1) :: []
def k_X8_mayOpen_24 : List CI := (24, .iconst 0, 1) :: k_X8_mayOpen_25
def k_X8_mayOpen_14 : List CI := (14, .iload_n 1, 1) :: (15, .bipush 6, 2) :: (17, .if_icmp .ge 7, 3) :: (20, .iconst 1, 1) :: (21, .goto 4, 3) :: k_X8_mayOpen_24
def k_X8_mayOpen : List CI := (0, .iload_n 1, 1) :: (1, .bipush 6, 2) :: (3, .if_icmp .lt 11, 3) :: (6, .aload_n 0, 1) :: (7, .getfield 9, 3) :: (10, .iconst 3, 1) :: (11, .invokevirtual 84, 3) :: k_X8_mayOpen_14
def Y_X8_mayOpen : MD := (yX8_mayOpen, cX8_mayOpen, 2, (some .boolean), k_X8_mayOpen)
theorem cok_X8_mayOpen : COK Y_X8_mayOpen.2.1 Y_X8_mayOpen.code = true := by decide +kernel
theorem mok_X8_mayOpen : MOK Y_X8_mayOpen 1 := ⟨mU_4 49 rfl rfl, mU_1 9 rfl rfl, by decide, by decide, by decide +kernel, by decide⟩
theorem ins_X8_mayOpen : INST Y_X8_mayOpen := ⟨mU_4 48 rfl rfl, mV_3 (n := 2) 3 rfl⟩
def k_X8_readSingle_93 : List CI := (93, .return_, 1) :: []
def k_X8_readSingle_88 : List CI := (88, .aload_n 0, 1) :: (89, .aload_n 1, 1) :: (90, .invokevirtual 80, 3) :: k_X8_readSingle_93
def k_X8_readSingle_38 : List CI := (38, .aload_n 0, 1) :: (39, .getfield 9, 3) :: (42, .bipush 91, 2) :: (44, .invokevirtual 76, 3) :: (47, .ifCond .eq 41, 3) :: (50, .aload_n 0, 1) :: (51, .iload_n 2, 1) :: (52, .invokevirtual 72, 3) :: (55, .ifCond .eq 38, 3) :: (58, .aload_n 0, 1) :: (59, .aload_n 1, 1) :: (60, .iload_n 2, 1) :: (61, .iconst 1, 1) :: (62, .iadd, 1) :: (63, .invokevirtual 24, 3) :: (66, .aload_n 0, 1) :: (67, .getfield 9, 3) :: (70, .bipush 93, 2) :: (72, .invokevirtual 76, 3) :: (75, .ifCond .ne 18, 3) :: (78, .aload_n 0, 1) :: (79, .getfield 9, 3) :: (82, .invokevirtual 34, 3) :: (85, .goto 8, 3) :: k_X8_readSingle_88
def k_X8_readSingle : List CI := (0, .aload_n 0, 1) :: (1, .getfield 9, 3) :: (4, .ldc 70, 2) :: (6, .invokevirtual 57, 3) :: (9, .ifCond .eq 29, 3) :: (12, .aload_n 0, 1) :: (13, .iload_n 2, 1) :: (14, .invokevirtual 72, 3) :: (17, .ifCond .eq 76, 3) :: (20, .aload_n 0, 1) :: (21, .aload_n 1, 1) :: (22, .iload_n 2, 1) :: (23, .iconst 1, 1) :: (24, .iadd, 1) :: (25, .invokevirtual 65, 3) :: (28, .aload_n 1, 1) :: (29, .iconst 5, 1) :: (30, .iconst 0, 1) :: (31, .iconst 0, 1) :: (32, .invokevirtual 61, 3) :: (35, .goto 58, 3) :: k_X8_readSingle_38
def Y_X8_readSingle : MD := (yX8_readSingle, cX8_readSingle, 3, none, k_X8_readSingle)
theorem cok_X8_readSingle : COK Y_X8_readSingle.2.1 Y_X8_readSingle.code = true := by decide +kernel
theorem mok_X8_readSingle : MOK Y_X8_readSingle 2 := ⟨mU_4 43 rfl rfl, mU_1 9 rfl rfl, by decide, by decide, by decide +kernel, by decide⟩
theorem ins_X8_readSingle : INST Y_X8_readSingle := ⟨mU_4 42 rfl rfl, mV_3 (n := 2) 2 rfl⟩
def k_X8_readJoined_47 : List CI := (47, .return_, 1) :: []
def k_X8_readJoined_8 : List CI := (8, .iload_n 3, 1) :: (9, .sipush 200, 3) :: (12, .if_icmp .ge 35, 3) :: (15, .aload_n 0, 1) :: (16, .getfield 9, 3) :: (19, .ldc 68, 2) :: (21, .invokevirtual 57, 3) :: (24, .ifCond .eq 23, 3) :: (27, .aload_n 0, 1) :: (28, .aload_n 1, 1) :: (29, .iload_n 2, 1) :: (30, .invokevirtual 65, 3) :: (33, .aload_n 1, 1) :: (34, .bipush 6, 2) :: (36, .iconst 0, 1) :: (37, .iconst 0, 1) :: (38, .invokevirtual 61, 3) :: (41, .iinc 3 1, 3) :: (44, .goto (-36), 3) :: k_X8_readJoined_47
def k_X8_readJoined : List CI := (0, .aload_n 0, 1) :: (1, .aload_n 1, 1) :: (2, .iload_n 2, 1) :: (3, .invokevirtual 65, 3) :: (6, .iconst 0, 1) :: (7, .istore_n 3, 1) :: k_X8_readJoined_8
def Y_X8_readJoined : MD := (yX8_readJoined, cX8_readJoined, 4, none, k_X8_readJoined)
theorem cok_X8_readJoined : COK Y_X8_readJoined.2.1 Y_X8_readJoined.code = true := by decide +kernel
theorem mok_X8_readJoined : MOK Y_X8_readJoined 2 := ⟨mU_4 39 rfl rfl, mU_1 9 rfl rfl, by decide, by decide, by decide +kernel, by decide⟩
theorem ins_X8_readJoined : INST Y_X8_readJoined := ⟨mU_4 38 rfl rfl, mV_3 (n := 2) 1 rfl⟩
def k_X8_readChoice_47 : List CI := (47, .return_, 1) :: []
def k_X8_readChoice_8 : List CI := (8, .iload_n 3, 1) :: (9, .sipush 200, 3) :: (12, .if_icmp .ge 35, 3) :: (15, .aload_n 0, 1) :: (16, .getfield 9, 3) :: (19, .ldc 55, 2) :: (21, .invokevirtual 57, 3) :: (24, .ifCond .eq 23, 3) :: (27, .aload_n 0, 1) :: (28, .aload_n 1, 1) :: (29, .iload_n 2, 1) :: (30, .invokevirtual 52, 3) :: (33, .aload_n 1, 1) :: (34, .bipush 7, 2) :: (36, .iconst 0, 1) :: (37, .iconst 0, 1) :: (38, .invokevirtual 61, 3) :: (41, .iinc 3 1, 3) :: (44, .goto (-36), 3) :: k_X8_readChoice_47
def k_X8_readChoice : List CI := (0, .aload_n 0, 1) :: (1, .aload_n 1, 1) :: (2, .iload_n 2, 1) :: (3, .invokevirtual 52, 3) :: (6, .iconst 0, 1) :: (7, .istore_n 3, 1) :: k_X8_readChoice_8
def Y_X8_readChoice : MD := (yX8_readChoice, cX8_readChoice, 4, none, k_X8_readChoice)
theorem cok_X8_readChoice : COK Y_X8_readChoice.2.1 Y_X8_readChoice.code = true := by decide +kernel
theorem mok_X8_readChoice : MOK Y_X8_readChoice 2 := ⟨mU_4 35 rfl rfl, mU_1 9 rfl rfl, by decide, by decide, by decide +kernel, by decide⟩
theorem ins_X8_readChoice : INST Y_X8_readChoice := ⟨mU_4 34 rfl rfl, mV_3 (n := 2) 0 rfl⟩
def k_X7_prepare_82 : List CI := (82, .return_, 1) :: []
def k_X7_prepare_72 : List CI := (72, .ior, 1) :: (73, .putfield 43, 3) :: (76, .iinc 1 1, 3) :: (79, .goto (-77), 3) :: k_X7_prepare_82
def k_X7_prepare_71 : List CI := (71, .iconst 0, 1) :: k_X7_prepare_72
def k_X7_prepare_52 : List CI := (52, .aload_n 0, 1) :: (53, .dup, 1) :: (54, .getfield 43, 3) :: (57, .aload_n 0, 1) :: (58, .getfield 11, 3) :: (61, .iload_n 1, 1) :: (62, .iaload, 1) :: (63, .iconst 1, 1) :: (64, .if_icmp .ne 7, 3) :: (67, .iconst 1, 1) :: (68, .goto 4, 3) :: k_X7_prepare_71
def k_X7_prepare_2 : List CI := (2, .iload_n 1, 1) :: (3, .aload_n 0, 1) :: (4, .getfield 40, 3) :: (7, .if_icmp .ge 75, 3) :: (10, .aload_n 0, 1) :: (11, .getfield 11, 3) :: (14, .iload_n 1, 1) :: (15, .iaload, 1) :: (16, .iconst 2, 1) :: (17, .if_icmp .ne 35, 3) :: (20, .aload_n 0, 1) :: (21, .getfield 21, 3) :: (24, .iload_n 1, 1) :: (25, .aload_n 0, 1) :: (26, .getfield 15, 3) :: (29, .iload_n 1, 1) :: (30, .iaload, 1) :: (31, .invokestatic 58, 3) :: (34, .lastore, 1) :: (35, .aload_n 0, 1) :: (36, .aload_n 0, 1) :: (37, .getfield 28, 3) :: (40, .aload_n 0, 1) :: (41, .getfield 15, 3) :: (44, .iload_n 1, 1) :: (45, .iaload, 1) :: (46, .invokestatic 62, 3) :: (49, .putfield 28, 3) :: k_X7_prepare_52
def k_X7_prepare : List CI := (0, .iconst 0, 1) :: (1, .istore_n 1, 1) :: k_X7_prepare_2
def Y_X7_prepare : MD := (yX7_prepare, cX7_prepare, 2, none, k_X7_prepare)
theorem cok_X7_prepare : COK Y_X7_prepare.2.1 Y_X7_prepare.code = true := by decide +kernel
theorem mok_X7_prepare : MOK Y_X7_prepare 0 := ⟨mU_4 73 rfl rfl, mU_1 8 rfl rfl, by decide, by decide, by decide +kernel, by decide⟩
theorem ins_X7_prepare : INST Y_X7_prepare := ⟨mU_4 72 rfl rfl, mV_3 (n := 10) 6 rfl⟩
def k_X8_read_55 : List CI := (55, .return_, 1) :: []
def k_X8_read_27 : List CI := (27, .aload_n 1, 1) :: (28, .invokevirtual 37, 3) :: (31, .aload_n 1, 1) :: (32, .getfield 40, 3) :: (35, .ldc 44, 2) :: (37, .if_icmp .le 18, 3) :: (40, .aload_n 0, 1) :: (41, .getfield 9, 3) :: (44, .iconst 4, 1) :: (45, .aload_n 0, 1) :: (46, .getfield 9, 3) :: (49, .getfield 45, 3) :: (52, .invokevirtual 48, 3) :: k_X8_read_55
def k_X8_read : List CI := (0, .aload_n 1, 1) :: (1, .invokevirtual 19, 3) :: (4, .aload_n 0, 1) :: (5, .aload_n 1, 1) :: (6, .iconst 0, 1) :: (7, .invokevirtual 24, 3) :: (10, .aload_n 0, 1) :: (11, .getfield 9, 3) :: (14, .invokevirtual 28, 3) :: (17, .ifCond .ne 10, 3) :: (20, .aload_n 0, 1) :: (21, .getfield 9, 3) :: (24, .invokevirtual 34, 3) :: k_X8_read_27
def Y_X8_read : MD := (yX8_read, cX8_read, 2, none, k_X8_read)
theorem cok_X8_read : COK Y_X8_read.2.1 Y_X8_read.code = true := by decide +kernel
theorem mok_X8_read : MOK Y_X8_read 1 := ⟨mU_4 30 rfl rfl, mU_1 9 rfl rfl, by decide, by decide, by decide +kernel, by decide⟩
theorem ins_X8_read : INST Y_X8_read := ⟨mU_4 29 rfl rfl, mV_2 (n := 2) 15 rfl⟩
def k_X7_copy : List CI := (0, .aload_n 0, 1) :: (1, .aload_n 1, 1) :: (2, .getfield 40, 3) :: (5, .putfield 40, 3) :: (8, .aload_n 0, 1) :: (9, .aload_n 1, 1) :: (10, .getfield 43, 3) :: (13, .putfield 43, 3) :: (16, .aload_n 0, 1) :: (17, .aload_n 1, 1) :: (18, .getfield 28, 3) :: (21, .putfield 28, 3) :: (24, .aload_n 1, 1) :: (25, .getfield 11, 3) :: (28, .iconst 0, 1) :: (29, .aload_n 0, 1) :: (30, .getfield 11, 3) :: (33, .iconst 0, 1) :: (34, .aload_n 0, 1) :: (35, .getfield 40, 3) :: (38, .invokestatic 52, 3) :: (41, .aload_n 1, 1) :: (42, .getfield 15, 3) :: (45, .iconst 0, 1) :: (46, .aload_n 0, 1) :: (47, .getfield 15, 3) :: (50, .iconst 0, 1) :: (51, .aload_n 0, 1) :: (52, .getfield 40, 3) :: (55, .invokestatic 52, 3) :: (58, .aload_n 1, 1) :: (59, .getfield 18, 3) :: (62, .iconst 0, 1) :: (63, .aload_n 0, 1) :: (64, .getfield 18, 3) :: (67, .iconst 0, 1) :: (68, .aload_n 0, 1) :: (69, .getfield 40, 3) :: (72, .invokestatic 52, 3) :: (75, .aload_n 1, 1) :: (76, .getfield 21, 3) :: (79, .iconst 0, 1) :: (80, .aload_n 0, 1) :: (81, .getfield 21, 3) :: (84, .iconst 0, 1) :: (85, .aload_n 0, 1) :: (86, .getfield 40, 3) :: (89, .invokestatic 52, 3) :: (92, .return_, 1) :: []
def Y_X7_copy : MD := (yX7_copy, cX7_copy, 2, none, k_X7_copy)
theorem cok_X7_copy : COK Y_X7_copy.2.1 Y_X7_copy.code = true := by decide +kernel
theorem mok_X7_copy : MOK Y_X7_copy 1 := ⟨mU_4 81 rfl rfl, mU_1 8 rfl rfl, by decide, by decide, by decide +kernel, by decide⟩
theorem ins_X7_copy : INST Y_X7_copy := ⟨mU_4 80 rfl rfl, mV_3 (n := 10) 7 rfl⟩
def k_X10_wish_64 : List CI := (64, .aload_n 0, 1) :: (65, .getfield 47, 3) :: (68, .aload_n 0, 1) :: (69, .getfield 51, 3) :: (72, .invokevirtual 138, 3) :: (75, .iconst 1, 1) :: (76, .ireturn, 1) :: []
def k_X10_wish_28 : List CI := (28, .invokevirtual 101, 3) :: (31, .aload_n 0, 1) :: (32, .getfield 21, 3) :: (35, .iload_n 1, 1) :: (36, .invokevirtual 105, 3) :: (39, .aload_n 0, 1) :: (40, .getfield 59, 3) :: (43, .aload_n 0, 1) :: (44, .getfield 51, 3) :: (47, .invokevirtual 135, 3) :: (50, .aload_n 0, 1) :: (51, .invokevirtual 112, 3) :: (54, .istore_n 2, 1) :: (55, .iload_n 2, 1) :: (56, .ifCond .eq 8, 3) :: (59, .iload_n 2, 1) :: (60, .bipush 10, 2) :: (62, .isub, 1) :: (63, .ireturn, 1) :: k_X10_wish_64
def k_X10_wish_27 : List CI := (27, .iconst 0, 1) :: k_X10_wish_28
def k_X10_wish : List CI := (0, .aload_n 0, 1) :: (1, .iload_n 1, 1) :: (2, .ifCond .lt 25, 3) :: (5, .iload_n 1, 1) :: (6, .sipush 200, 3) :: (9, .if_icmp .gt 18, 3) :: (12, .iload_n 1, 1) :: (13, .aload_n 0, 1) :: (14, .getfield 21, 3) :: (17, .getfield 94, 3) :: (20, .if_icmp .gt 7, 3) :: (23, .iconst 1, 1) :: (24, .goto 4, 3) :: k_X10_wish_27
def Y_X10_wish : MD := (yX10_wish, cX10_wish, 3, (some .int), k_X10_wish)
theorem cok_X10_wish : COK Y_X10_wish.2.1 Y_X10_wish.code = true := by decide +kernel
theorem mok_X10_wish : MOK Y_X10_wish 1 := ⟨mU_4 26 rfl rfl, mU_1 1 rfl rfl, by decide, by decide, by decide +kernel, by decide⟩
theorem ins_X10_wish : INST Y_X10_wish := ⟨mU_4 24 rfl rfl, mU_4 25 rfl rfl⟩
def k_X10_fault : List CI := (0, .aload_n 0, 1) :: (1, .getfield 90, 3) :: (4, .ireturn, 1) :: []
def Y_X10_fault : MD := (yX10_fault, cX10_fault, 1, (some .int), k_X10_fault)
theorem cok_X10_fault : COK Y_X10_fault.2.1 Y_X10_fault.code = true := by decide +kernel
theorem mok_X10_fault : MOK Y_X10_fault 0 := ⟨mU_2 195 rfl rfl, mU_1 1 rfl rfl, by decide, by decide, by decide +kernel, by decide⟩
theorem ins_X10_fault : INST Y_X10_fault := ⟨mU_2 193 rfl rfl, mU_2 194 rfl rfl⟩
def k_X10_told_98 : List CI := (98, .aload_n 0, 1) :: (99, .getfield 27, 3) :: (102, .getfield 152, 3) :: (105, .ireturn, 1) :: []
def k_X10_told_90 : List CI := (90, .aload_n 0, 1) :: (91, .getfield 27, 3) :: (94, .getfield 149, 3) :: (97, .ireturn, 1) :: k_X10_told_98
def k_X10_told_82 : List CI := (82, .aload_n 0, 1) :: (83, .getfield 27, 3) :: (86, .getfield 146, 3) :: (89, .ireturn, 1) :: k_X10_told_90
def k_X10_told_74 : List CI := (74, .aload_n 0, 1) :: (75, .getfield 27, 3) :: (78, .getfield 143, 3) :: (81, .ireturn, 1) :: k_X10_told_82
def k_X10_told_63 : List CI := (63, .aload_n 0, 1) :: (64, .getfield 27, 3) :: (67, .getfield 140, 3) :: (70, .getfield 132, 3) :: (73, .ireturn, 1) :: k_X10_told_74
def k_X10_told_52 : List CI := (52, .aload_n 0, 1) :: (53, .getfield 27, 3) :: (56, .getfield 128, 3) :: (59, .getfield 132, 3) :: (62, .ireturn, 1) :: k_X10_told_63
def k_X10_told_15 : List CI := (15, .invokevirtual 101, 3) :: (18, .iload_n 1, 1) :: (19, .tableswitch 79 0 4 #[33, 44, 55, 63, 71], 33) :: k_X10_told_52
def k_X10_told_14 : List CI := (14, .iconst 0, 1) :: k_X10_told_15
def k_X10_told : List CI := (0, .aload_n 0, 1) :: (1, .iload_n 1, 1) :: (2, .ifCond .lt 12, 3) :: (5, .iload_n 1, 1) :: (6, .iconst 5, 1) :: (7, .if_icmp .gt 7, 3) :: (10, .iconst 1, 1) :: (11, .goto 4, 3) :: k_X10_told_14
def Y_X10_told : MD := (yX10_told, cX10_told, 2, (some .int), k_X10_told)
theorem cok_X10_told : COK Y_X10_told.2.1 Y_X10_told.code = true := by decide +kernel
theorem mok_X10_told : MOK Y_X10_told 1 := ⟨mU_4 89 rfl rfl, mU_1 1 rfl rfl, by decide, by decide, by decide +kernel, by decide⟩
theorem ins_X10_told : INST Y_X10_told := ⟨mU_4 87 rfl rfl, mU_4 88 rfl rfl⟩
def k_X10_needElement_25 : List CI := (25, .return_, 1) :: []
def k_X10_needElement : List CI := (0, .iload_n 1, 1) :: (1, .ifCond .ne 24, 3) :: (4, .aload_n 0, 1) :: (5, .dup, 1) :: (6, .getfield 358, 3) :: (9, .iconst 1, 1) :: (10, .iadd, 1) :: (11, .putfield 358, 3) :: (14, .new 371, 3) :: (17, .dup, 1) :: (18, .ldc_w 373, 3) :: (21, .invokespecial 375, 3) :: (24, .athrow, 1) :: k_X10_needElement_25
def Y_X10_needElement : MD := (yX10_needElement, cX10_needElement, 2, none, k_X10_needElement)
theorem cok_X10_needElement : COK Y_X10_needElement.2.1 Y_X10_needElement.code = true := by decide +kernel
theorem mok_X10_needElement : MOK Y_X10_needElement 1 := ⟨mU_4 105 rfl rfl, mU_1 1 rfl rfl, by decide, by decide, by decide +kernel, by decide⟩
theorem ins_X10_needElement : INST Y_X10_needElement := ⟨mU_4 104 rfl rfl, mV_3 (n := 17) 9 rfl⟩
def k_X10_needLaw_24 : List CI := (24, .invokevirtual 381, 3) :: (27, .return_, 1) :: []
def k_X10_needLaw_23 : List CI := (23, .iconst 0, 1) :: k_X10_needLaw_24
def k_X10_needLaw : List CI := (0, .aload_n 0, 1) :: (1, .iload_n 1, 1) :: (2, .ifCond .lt 21, 3) :: (5, .iload_n 1, 1) :: (6, .aload_n 0, 1) :: (7, .getfield 27, 3) :: (10, .getfield 128, 3) :: (13, .getfield 132, 3) :: (16, .if_icmp .ge 7, 3) :: (19, .iconst 1, 1) :: (20, .goto 4, 3) :: k_X10_needLaw_23
def Y_X10_needLaw : MD := (yX10_needLaw, cX10_needLaw, 2, none, k_X10_needLaw)
theorem cok_X10_needLaw : COK Y_X10_needLaw.2.1 Y_X10_needLaw.code = true := by decide +kernel
theorem mok_X10_needLaw : MOK Y_X10_needLaw 1 := ⟨mU_4 101 rfl rfl, mU_1 1 rfl rfl, by decide, by decide, by decide +kernel, by decide⟩
theorem ins_X10_needLaw : INST Y_X10_needLaw := ⟨mU_4 100 rfl rfl, mV_3 (n := 17) 8 rfl⟩
def k_X10_needEither_15 : List CI := (15, .invokevirtual 101, 3) :: (18, .return_, 1) :: []
def k_X10_needEither_14 : List CI := (14, .iconst 0, 1) :: k_X10_needEither_15
def k_X10_needEither_10 : List CI := (10, .iconst 1, 1) :: (11, .goto 4, 3) :: k_X10_needEither_14
def k_X10_needEither : List CI := (0, .aload_n 0, 1) :: (1, .iload_n 1, 1) :: (2, .ifCond .eq 8, 3) :: (5, .iload_n 1, 1) :: (6, .iconst 1, 1) :: (7, .if_icmp .ne 7, 3) :: k_X10_needEither_10
def Y_X10_needEither : MD := (yX10_needEither, cX10_needEither, 2, none, k_X10_needEither)
theorem cok_X10_needEither : COK Y_X10_needEither.2.1 Y_X10_needEither.code = true := by decide +kernel
theorem mok_X10_needEither : MOK Y_X10_needEither 1 := ⟨mU_4 125 rfl rfl, mU_1 1 rfl rfl, by decide, by decide, by decide +kernel, by decide⟩
theorem ins_X10_needEither : INST Y_X10_needEither := ⟨mU_4 124 rfl rfl, mV_3 (n := 17) 10 rfl⟩
def k_X2_dayOf_18 : List CI := (18, .ireturn, 1) :: []
def k_X2_dayOf_17 : List CI := (17, .iconst 0, 1) :: k_X2_dayOf_18
def k_X2_dayOf : List CI := (0, .aload_n 0, 1) :: (1, .iload_n 1, 1) :: (2, .invokevirtual 50, 3) :: (5, .ifCond .eq 12, 3) :: (8, .aload_n 0, 1) :: (9, .getfield 21, 3) :: (12, .iload_n 1, 1) :: (13, .iaload, 1) :: (14, .goto 4, 3) :: k_X2_dayOf_17
def Y_X2_dayOf : MD := (yX2_dayOf, cX2_dayOf, 2, (some .int), k_X2_dayOf)
theorem cok_X2_dayOf : COK Y_X2_dayOf.2.1 Y_X2_dayOf.code = true := by decide +kernel
theorem mok_X2_dayOf : MOK Y_X2_dayOf 1 := ⟨mU_4 130 rfl rfl, mU_1 4 rfl rfl, by decide, by decide, by decide +kernel, by decide⟩
theorem ins_X2_dayOf : INST Y_X2_dayOf := ⟨mU_4 129 rfl rfl, mV_3 (n := 9) 11 rfl⟩
def k_X10_law_39 : List CI := (39, .ireturn, 1) :: []
def k_X10_law_28 : List CI := (28, .aload_n 0, 1) :: (29, .getfield 27, 3) :: (32, .getfield 128, 3) :: (35, .iload_n 1, 1) :: (36, .invokevirtual 165, 3) :: k_X10_law_39
def k_X10_law : List CI := (0, .aload_n 0, 1) :: (1, .iload_n 1, 1) :: (2, .invokevirtual 155, 3) :: (5, .aload_n 0, 1) :: (6, .iload_n 2, 1) :: (7, .invokevirtual 158, 3) :: (10, .iload_n 2, 1) :: (11, .ifCond .ne 17, 3) :: (14, .aload_n 0, 1) :: (15, .getfield 27, 3) :: (18, .getfield 128, 3) :: (21, .iload_n 1, 1) :: (22, .invokevirtual 161, 3) :: (25, .goto 14, 3) :: k_X10_law_28
def Y_X10_law : MD := (yX10_law, cX10_law, 3, (some .int), k_X10_law)
theorem cok_X10_law : COK Y_X10_law.2.1 Y_X10_law.code = true := by decide +kernel
theorem mok_X10_law : MOK Y_X10_law 2 := ⟨mU_4 97 rfl rfl, mU_1 1 rfl rfl, by decide, by decide, by decide +kernel, by decide⟩
theorem ins_X10_law : INST Y_X10_law := ⟨mU_4 95 rfl rfl, mU_4 96 rfl rfl⟩
def k_X10_needHouse_21 : List CI := (21, .invokevirtual 381, 3) :: (24, .return_, 1) :: []
def k_X10_needHouse_20 : List CI := (20, .iconst 0, 1) :: k_X10_needHouse_21
def k_X10_needHouse : List CI := (0, .aload_n 0, 1) :: (1, .iload_n 1, 1) :: (2, .ifCond .lt 18, 3) :: (5, .iload_n 1, 1) :: (6, .aload_n 0, 1) :: (7, .getfield 27, 3) :: (10, .getfield 143, 3) :: (13, .if_icmp .ge 7, 3) :: (16, .iconst 1, 1) :: (17, .goto 4, 3) :: k_X10_needHouse_20
def Y_X10_needHouse : MD := (yX10_needHouse, cX10_needHouse, 2, none, k_X10_needHouse)
theorem cok_X10_needHouse : COK Y_X10_needHouse.2.1 Y_X10_needHouse.code = true := by decide +kernel
theorem mok_X10_needHouse : MOK Y_X10_needHouse 1 := ⟨mU_4 141 rfl rfl, mU_1 1 rfl rfl, by decide, by decide, by decide +kernel, by decide⟩
theorem ins_X10_needHouse : INST Y_X10_needHouse := ⟨mU_4 140 rfl rfl, mV_3 (n := 17) 12 rfl⟩
def k_X3_isWheel_25 : List CI := (25, .ireturn, 1) :: []
def k_X3_isWheel_24 : List CI := (24, .iconst 0, 1) :: k_X3_isWheel_25
def k_X3_isWheel : List CI := (0, .iload_n 1, 1) :: (1, .ifCond .lt 23, 3) :: (4, .iload_n 1, 1) :: (5, .bipush 10, 2) :: (7, .if_icmp .ge 17, 3) :: (10, .iload_n 2, 1) :: (11, .ifCond .lt 13, 3) :: (14, .iload_n 2, 1) :: (15, .bipush 12, 2) :: (17, .if_icmp .ge 7, 3) :: (20, .iconst 1, 1) :: (21, .goto 4, 3) :: k_X3_isWheel_24
def Y_X3_isWheel : MD := (yX3_isWheel, cX3_isWheel, 3, (some .boolean), k_X3_isWheel)
theorem cok_X3_isWheel : COK Y_X3_isWheel.2.1 Y_X3_isWheel.code = true := by decide +kernel
theorem mok_X3_isWheel : MOK Y_X3_isWheel 2 := ⟨mU_4 149 rfl rfl, mU_1 6 rfl rfl, by decide, by decide, by decide +kernel, by decide⟩
theorem ins_X3_isWheel : INST Y_X3_isWheel := ⟨mU_4 148 rfl rfl, mV_3 (n := 13) 14 rfl⟩
def k_X3_aheadOf_24 : List CI := (24, .ireturn, 1) :: []
def k_X3_aheadOf_23 : List CI := (23, .iconst 0, 1) :: k_X3_aheadOf_24
def k_X3_aheadOf : List CI := (0, .aload_n 0, 1) :: (1, .iload_n 1, 1) :: (2, .iload_n 2, 1) :: (3, .invokevirtual 62, 3) :: (6, .ifCond .eq 17, 3) :: (9, .aload_n 0, 1) :: (10, .getfield 9, 3) :: (13, .iload_n 1, 1) :: (14, .bipush 12, 2) :: (16, .imul, 1) :: (17, .iload_n 2, 1) :: (18, .iadd, 1) :: (19, .iaload, 1) :: (20, .goto 4, 3) :: k_X3_aheadOf_23
def Y_X3_aheadOf : MD := (yX3_aheadOf, cX3_aheadOf, 3, (some .int), k_X3_aheadOf)
theorem cok_X3_aheadOf : COK Y_X3_aheadOf.2.1 Y_X3_aheadOf.code = true := by decide +kernel
theorem mok_X3_aheadOf : MOK Y_X3_aheadOf 2 := ⟨mU_4 145 rfl rfl, mU_1 6 rfl rfl, by decide, by decide, by decide +kernel, by decide⟩
theorem ins_X3_aheadOf : INST Y_X3_aheadOf := ⟨mU_4 144 rfl rfl, mV_3 (n := 13) 13 rfl⟩
def k_X10_slip : List CI := (0, .aload_n 0, 1) :: (1, .iload_n 1, 1) :: (2, .invokevirtual 168, 3) :: (5, .aload_n 0, 1) :: (6, .iload_n 2, 1) :: (7, .invokevirtual 155, 3) :: (10, .aload_n 0, 1) :: (11, .getfield 34, 3) :: (14, .iload_n 1, 1) :: (15, .iload_n 2, 1) :: (16, .invokevirtual 171, 3) :: (19, .ireturn, 1) :: []
def Y_X10_slip : MD := (yX10_slip, cX10_slip, 3, (some .int), k_X10_slip)
theorem cok_X10_slip : COK Y_X10_slip.2.1 Y_X10_slip.code = true := by decide +kernel
theorem mok_X10_slip : MOK Y_X10_slip 2 := ⟨mU_4 137 rfl rfl, mU_1 1 rfl rfl, by decide, by decide, by decide +kernel, by decide⟩
theorem ins_X10_slip : INST Y_X10_slip := ⟨mU_4 135 rfl rfl, mU_4 136 rfl rfl⟩
def k_X3_setAhead_21 : List CI := (21, .return_, 1) :: []
def k_X3_setAhead : List CI := (0, .aload_n 0, 1) :: (1, .iload_n 1, 1) :: (2, .iload_n 2, 1) :: (3, .invokevirtual 62, 3) :: (6, .ifCond .eq 15, 3) :: (9, .aload_n 0, 1) :: (10, .getfield 9, 3) :: (13, .iload_n 1, 1) :: (14, .bipush 12, 2) :: (16, .imul, 1) :: (17, .iload_n 2, 1) :: (18, .iadd, 1) :: (19, .iload_n 3, 1) :: (20, .iastore, 1) :: k_X3_setAhead_21
def Y_X3_setAhead : MD := (yX3_setAhead, cX3_setAhead, 4, none, k_X3_setAhead)
theorem cok_X3_setAhead : COK Y_X3_setAhead.2.1 Y_X3_setAhead.code = true := by decide +kernel
theorem mok_X3_setAhead : MOK Y_X3_setAhead 3 := ⟨mU_4 161 rfl rfl, mU_1 6 rfl rfl, by decide, by decide, by decide +kernel, by decide⟩
theorem ins_X3_setAhead : INST Y_X3_setAhead := ⟨mU_4 160 rfl rfl, mV_3 (n := 13) 15 rfl⟩
def k_X10_turn_27 : List CI := (27, .invokevirtual 101, 3) :: (30, .aload_n 0, 1) :: (31, .getfield 34, 3) :: (34, .iload_n 1, 1) :: (35, .iload_n 2, 1) :: (36, .invokevirtual 171, 3) :: (39, .iload_n 3, 1) :: (40, .iadd, 1) :: (41, .aload_n 0, 1) :: (42, .getfield 27, 3) :: (45, .getfield 128, 3) :: (48, .iload_n 2, 1) :: (49, .invokevirtual 161, 3) :: (52, .invokestatic 175, 3) :: (55, .istore 4, 2) :: (57, .aload_n 0, 1) :: (58, .getfield 34, 3) :: (61, .iload_n 1, 1) :: (62, .iload_n 2, 1) :: (63, .iload 4, 2) :: (65, .invokevirtual 178, 3) :: (68, .iload 4, 2) :: (70, .ireturn, 1) :: []
def k_X10_turn_26 : List CI := (26, .iconst 0, 1) :: k_X10_turn_27
def k_X10_turn : List CI := (0, .aload_n 0, 1) :: (1, .iload_n 1, 1) :: (2, .invokevirtual 168, 3) :: (5, .aload_n 0, 1) :: (6, .iload_n 2, 1) :: (7, .invokevirtual 155, 3) :: (10, .aload_n 0, 1) :: (11, .iload_n 3, 1) :: (12, .ifCond .lt 14, 3) :: (15, .iload_n 3, 1) :: (16, .sipush 999, 3) :: (19, .if_icmp .gt 7, 3) :: (22, .iconst 1, 1) :: (23, .goto 4, 3) :: k_X10_turn_26
def Y_X10_turn : MD := (yX10_turn, cX10_turn, 5, (some .int), k_X10_turn)
theorem cok_X10_turn : COK Y_X10_turn.2.1 Y_X10_turn.code = true := by decide +kernel
theorem mok_X10_turn : MOK Y_X10_turn 3 := ⟨mU_4 156 rfl rfl, mU_1 1 rfl rfl, by decide, by decide, by decide +kernel, by decide⟩
theorem ins_X10_turn : INST Y_X10_turn := ⟨mU_4 154 rfl rfl, mU_4 155 rfl rfl⟩
def k_X10_needDay_32 : List CI := (32, .return_, 1) :: []
def k_X10_needDay_11 : List CI := (11, .aload_n 0, 1) :: (12, .dup, 1) :: (13, .getfield 355, 3) :: (16, .iconst 1, 1) :: (17, .iadd, 1) :: (18, .putfield 355, 3) :: (21, .new 364, 3) :: (24, .dup, 1) :: (25, .ldc_w 366, 3) :: (28, .invokespecial 368, 3) :: (31, .athrow, 1) :: k_X10_needDay_32
def k_X10_needDay : List CI := (0, .iload_n 1, 1) :: (1, .ifCond .lt 10, 3) :: (4, .iload_n 1, 1) :: (5, .ldc_w 319, 3) :: (8, .if_icmp .le 24, 3) :: k_X10_needDay_11
def Y_X10_needDay : MD := (yX10_needDay, cX10_needDay, 2, none, k_X10_needDay)
theorem cok_X10_needDay : COK Y_X10_needDay.2.1 Y_X10_needDay.code = true := by decide +kernel
theorem mok_X10_needDay : MOK Y_X10_needDay 1 := ⟨mU_4 173 rfl rfl, mU_1 1 rfl rfl, by decide, by decide, by decide +kernel, by decide⟩
theorem ins_X10_needDay : INST Y_X10_needDay := ⟨mU_4 172 rfl rfl, mV_4 (n := 17) 0 rfl⟩
def k_X0_turnsOn_36 : List CI := (36, .iload_n 2, 1) :: (37, .ireturn, 1) :: []
def k_X0_turnsOn_28 : List CI := (28, .isub, 1) :: (29, .istore_n 2, 1) :: (30, .iinc 3 1, 3) :: (33, .goto (-29), 3) :: k_X0_turnsOn_36
def k_X0_turnsOn_27 : List CI := (27, .iconst 0, 1) :: k_X0_turnsOn_28
def k_X0_turnsOn_4 : List CI := (4, .iload_n 3, 1) :: (5, .aload_n 0, 1) :: (6, .getfield 50, 3) :: (9, .if_icmp .ge 27, 3) :: (12, .iload_n 2, 1) :: (13, .aload_n 0, 1) :: (14, .getfield 27, 3) :: (17, .iload_n 3, 1) :: (18, .iaload, 1) :: (19, .iload_n 1, 1) :: (20, .if_icmp .ge 7, 3) :: (23, .iconst 1, 1) :: (24, .goto 4, 3) :: k_X0_turnsOn_27
def k_X0_turnsOn : List CI := (0, .iload_n 1, 1) :: (1, .istore_n 2, 1) :: (2, .iconst 0, 1) :: (3, .istore_n 3, 1) :: k_X0_turnsOn_4
def Y_X0_turnsOn : MD := (yX0_turnsOn, cX0_turnsOn, 4, (some .int), k_X0_turnsOn)
theorem cok_X0_turnsOn : COK Y_X0_turnsOn.2.1 Y_X0_turnsOn.code = true := by decide +kernel
theorem mok_X0_turnsOn : MOK Y_X0_turnsOn 1 := ⟨mU_4 194 rfl rfl, mU_1 3 rfl rfl, by decide, by decide, by decide +kernel, by decide⟩
theorem ins_X0_turnsOn : INST Y_X0_turnsOn := ⟨mU_4 193 rfl rfl, mV_4 (n := 8) 1 rfl⟩
def k_X10_turned : List CI := (0, .aload_n 0, 1) :: (1, .iload_n 1, 1) :: (2, .invokevirtual 182, 3) :: (5, .aload_n 0, 1) :: (6, .getfield 27, 3) :: (9, .iload_n 1, 1) :: (10, .invokevirtual 185, 3) :: (13, .ireturn, 1) :: []
def Y_X10_turned : MD := (yX10_turned, cX10_turned, 2, (some .int), k_X10_turned)
theorem cok_X10_turned : COK Y_X10_turned.2.1 Y_X10_turned.code = true := by decide +kernel
theorem mok_X10_turned : MOK Y_X10_turned 1 := ⟨mU_4 169 rfl rfl, mU_1 1 rfl rfl, by decide, by decide, by decide +kernel, by decide⟩
theorem ins_X10_turned : INST Y_X10_turned := ⟨mU_4 167 rfl rfl, mU_4 168 rfl rfl⟩
def k_X2_isHeld_32 : List CI := (32, .ireturn, 1) :: []
def k_X2_isHeld_31 : List CI := (31, .iconst 0, 1) :: k_X2_isHeld_32
def k_X2_isHeld : List CI := (0, .aload_n 0, 1) :: (1, .iload_n 1, 1) :: (2, .invokevirtual 50, 3) :: (5, .ifCond .eq 26, 3) :: (8, .iload_n 2, 1) :: (9, .aload_n 0, 1) :: (10, .getfield 15, 3) :: (13, .iload_n 1, 1) :: (14, .iaload, 1) :: (15, .invokestatic 54, 3) :: (18, .aload_n 0, 1) :: (19, .getfield 21, 3) :: (22, .iload_n 1, 1) :: (23, .iaload, 1) :: (24, .if_icmp .ne 7, 3) :: (27, .iconst 1, 1) :: (28, .goto 4, 3) :: k_X2_isHeld_31
def Y_X2_isHeld : MD := (yX2_isHeld, cX2_isHeld, 3, (some .boolean), k_X2_isHeld)
theorem cok_X2_isHeld : COK Y_X2_isHeld.2.1 Y_X2_isHeld.code = true := by decide +kernel
theorem mok_X2_isHeld : MOK Y_X2_isHeld 2 := ⟨mU_4 209 rfl rfl, mU_1 4 rfl rfl, by decide, by decide, by decide +kernel, by decide⟩
theorem ins_X2_isHeld : INST Y_X2_isHeld := ⟨mU_4 208 rfl rfl, mV_4 (n := 9) 3 rfl⟩
def k_X10_lawsOfTown_62 : List CI := (62, .iload_n 3, 1) :: (63, .ireturn, 1) :: []
def k_X10_lawsOfTown_54 : List CI := (54, .ior, 1) :: (55, .istore_n 3, 1) :: (56, .iinc 4 1, 3) :: (59, .goto (-45), 3) :: k_X10_lawsOfTown_62
def k_X10_lawsOfTown_53 : List CI := (53, .iconst 0, 1) :: k_X10_lawsOfTown_54
def k_X10_lawsOfTown_14 : List CI := (14, .iload 4, 2) :: (16, .aload_n 0, 1) :: (17, .getfield 27, 3) :: (20, .getfield 128, 3) :: (23, .getfield 132, 3) :: (26, .if_icmp .ge 36, 3) :: (29, .iload_n 3, 1) :: (30, .aload_n 0, 1) :: (31, .getfield 27, 3) :: (34, .getfield 128, 3) :: (37, .iload 4, 2) :: (39, .iload_n 2, 1) :: (40, .invokevirtual 388, 3) :: (43, .ifCond .eq 10, 3) :: (46, .iconst 1, 1) :: (47, .iload 4, 2) :: (49, .ishl, 1) :: (50, .goto 4, 3) :: k_X10_lawsOfTown_53
def k_X10_lawsOfTown : List CI := (0, .aload_n 0, 1) :: (1, .getfield 27, 3) :: (4, .iload_n 1, 1) :: (5, .invokevirtual 185, 3) :: (8, .istore_n 2, 1) :: (9, .iconst 0, 1) :: (10, .istore_n 3, 1) :: (11, .iconst 0, 1) :: (12, .istore 4, 2) :: k_X10_lawsOfTown_14
def Y_X10_lawsOfTown : MD := (yX10_lawsOfTown, cX10_lawsOfTown, 5, (some .int), k_X10_lawsOfTown)
theorem cok_X10_lawsOfTown : COK Y_X10_lawsOfTown.2.1 Y_X10_lawsOfTown.code = true := by decide +kernel
theorem mok_X10_lawsOfTown : MOK Y_X10_lawsOfTown 1 := ⟨mU_4 205 rfl rfl, mU_1 1 rfl rfl, by decide, by decide, by decide +kernel, by decide⟩
theorem ins_X10_lawsOfTown : INST Y_X10_lawsOfTown := ⟨mU_4 204 rfl rfl, mV_4 (n := 17) 2 rfl⟩
def k_X10_holds : List CI := (0, .aload_n 0, 1) :: (1, .iload_n 1, 1) :: (2, .invokevirtual 182, 3) :: (5, .aload_n 0, 1) :: (6, .iload_n 1, 1) :: (7, .invokevirtual 188, 3) :: (10, .ireturn, 1) :: []
def Y_X10_holds : MD := (yX10_holds, cX10_holds, 2, (some .int), k_X10_holds)
theorem cok_X10_holds : COK Y_X10_holds.2.1 Y_X10_holds.code = true := by decide +kernel
theorem mok_X10_holds : MOK Y_X10_holds 1 := ⟨mU_4 201 rfl rfl, mU_1 1 rfl rfl, by decide, by decide, by decide +kernel, by decide⟩
theorem ins_X10_holds : INST Y_X10_holds := ⟨mU_4 199 rfl rfl, mU_4 200 rfl rfl⟩
def k_X10_lawsOfHouse_76 : List CI := (76, .iload 4, 2) :: (78, .ireturn, 1) :: []
def k_X10_lawsOfHouse_67 : List CI := (67, .ior, 1) :: (68, .istore 4, 2) :: (70, .iinc 5 1, 3) :: (73, .goto (-58), 3) :: k_X10_lawsOfHouse_76
def k_X10_lawsOfHouse_66 : List CI := (66, .iconst 0, 1) :: k_X10_lawsOfHouse_67
def k_X10_lawsOfHouse_15 : List CI := (15, .iload 5, 2) :: (17, .aload_n 0, 1) :: (18, .getfield 27, 3) :: (21, .getfield 128, 3) :: (24, .getfield 132, 3) :: (27, .if_icmp .ge 49, 3) :: (30, .iload 4, 2) :: (32, .aload_n 0, 1) :: (33, .getfield 27, 3) :: (36, .getfield 128, 3) :: (39, .iload 5, 2) :: (41, .iload_n 3, 1) :: (42, .aload_n 0, 1) :: (43, .getfield 34, 3) :: (46, .iload_n 2, 1) :: (47, .iload 5, 2) :: (49, .invokevirtual 171, 3) :: (52, .iadd, 1) :: (53, .invokevirtual 388, 3) :: (56, .ifCond .eq 10, 3) :: (59, .iconst 1, 1) :: (60, .iload 5, 2) :: (62, .ishl, 1) :: (63, .goto 4, 3) :: k_X10_lawsOfHouse_66
def k_X10_lawsOfHouse : List CI := (0, .aload_n 0, 1) :: (1, .getfield 27, 3) :: (4, .iload_n 1, 1) :: (5, .invokevirtual 185, 3) :: (8, .istore_n 3, 1) :: (9, .iconst 0, 1) :: (10, .istore 4, 2) :: (12, .iconst 0, 1) :: (13, .istore 5, 2) :: k_X10_lawsOfHouse_15
def Y_X10_lawsOfHouse : MD := (yX10_lawsOfHouse, cX10_lawsOfHouse, 6, (some .int), k_X10_lawsOfHouse)
theorem cok_X10_lawsOfHouse : COK Y_X10_lawsOfHouse.2.1 Y_X10_lawsOfHouse.code = true := by decide +kernel
theorem mok_X10_lawsOfHouse : MOK Y_X10_lawsOfHouse 2 := ⟨mU_4 220 rfl rfl, mU_1 1 rfl rfl, by decide, by decide, by decide +kernel, by decide⟩
theorem ins_X10_lawsOfHouse : INST Y_X10_lawsOfHouse := ⟨mU_4 219 rfl rfl, mV_4 (n := 17) 4 rfl⟩
def k_X10_inHouse : List CI := (0, .aload_n 0, 1) :: (1, .iload_n 1, 1) :: (2, .invokevirtual 182, 3) :: (5, .aload_n 0, 1) :: (6, .iload_n 2, 1) :: (7, .invokevirtual 168, 3) :: (10, .aload_n 0, 1) :: (11, .iload_n 1, 1) :: (12, .iload_n 2, 1) :: (13, .invokevirtual 191, 3) :: (16, .ireturn, 1) :: []
def Y_X10_inHouse : MD := (yX10_inHouse, cX10_inHouse, 3, (some .int), k_X10_inHouse)
theorem cok_X10_inHouse : COK Y_X10_inHouse.2.1 Y_X10_inHouse.code = true := by decide +kernel
theorem mok_X10_inHouse : MOK Y_X10_inHouse 2 := ⟨mU_4 216 rfl rfl, mU_1 1 rfl rfl, by decide, by decide, by decide +kernel, by decide⟩
theorem ins_X10_inHouse : INST Y_X10_inHouse := ⟨mU_4 214 rfl rfl, mU_4 215 rfl rfl⟩
def k_X10_clashes_43 : List CI := (43, .iload_n 2, 1) :: (44, .ireturn, 1) :: []
def k_X10_clashes_37 : List CI := (37, .iinc 3 1, 3) :: (40, .goto (-31), 3) :: k_X10_clashes_43
def k_X10_clashes_9 : List CI := (9, .iload_n 3, 1) :: (10, .aload_n 0, 1) :: (11, .getfield 27, 3) :: (14, .getfield 143, 3) :: (17, .if_icmp .ge 26, 3) :: (20, .aload_n 0, 1) :: (21, .iload_n 1, 1) :: (22, .iload_n 3, 1) :: (23, .invokevirtual 191, 3) :: (26, .aload_n 0, 1) :: (27, .iload_n 1, 1) :: (28, .invokevirtual 188, 3) :: (31, .if_icmp .eq 6, 3) :: (34, .iinc 2 1, 3) :: k_X10_clashes_37
def k_X10_clashes : List CI := (0, .aload_n 0, 1) :: (1, .iload_n 1, 1) :: (2, .invokevirtual 182, 3) :: (5, .iconst 0, 1) :: (6, .istore_n 2, 1) :: (7, .iconst 0, 1) :: (8, .istore_n 3, 1) :: k_X10_clashes_9
def Y_X10_clashes : MD := (yX10_clashes, cX10_clashes, 4, (some .int), k_X10_clashes)
theorem cok_X10_clashes : COK Y_X10_clashes.2.1 Y_X10_clashes.code = true := by decide +kernel
theorem mok_X10_clashes : MOK Y_X10_clashes 1 := ⟨mU_4 227 rfl rfl, mU_1 1 rfl rfl, by decide, by decide, by decide +kernel, by decide⟩
theorem ins_X10_clashes : INST Y_X10_clashes := ⟨mU_4 225 rfl rfl, mU_4 226 rfl rfl⟩
def k_X10_daysLeaving_25 : List CI := (25, .lreturn, 1) :: []
def k_X10_daysLeaving_21 : List CI := (21, .lload_n 2, 1) :: (22, .iload 5, 2) :: (24, .lshl, 1) :: k_X10_daysLeaving_25
def k_X10_daysLeaving : List CI := (0, .iload_n 0, 1) :: (1, .iload 4, 2) :: (3, .isub, 1) :: (4, .iload_n 1, 1) :: (5, .invokestatic 175, 3) :: (8, .istore 5, 2) :: (10, .iload 5, 2) :: (12, .bipush 64, 2) :: (14, .if_icmp .lt 7, 3) :: (17, .lconst 0, 1) :: (18, .goto 7, 3) :: k_X10_daysLeaving_21
def Y_X10_daysLeaving : MD := (yX10_daysLeaving, cX10_daysLeaving, 6, (some .long), k_X10_daysLeaving)
theorem cok_X10_daysLeaving : COK Y_X10_daysLeaving.2.1 Y_X10_daysLeaving.code = true := by decide +kernel
theorem mok_X10_daysLeaving : MOK Y_X10_daysLeaving 4 := ⟨mU_5 9 rfl rfl, mU_1 1 rfl rfl, by decide, by decide, by decide +kernel, by decide⟩
theorem sta_X10_daysLeaving : STAT Y_X10_daysLeaving := mU_5 8 rfl rfl
def k_X2_heldFrom_34 : List CI := (34, .lreturn, 1) :: []
def k_X2_heldFrom_33 : List CI := (33, .lconst 0, 1) :: k_X2_heldFrom_34
def k_X2_heldFrom : List CI := (0, .aload_n 0, 1) :: (1, .iload_n 1, 1) :: (2, .invokevirtual 50, 3) :: (5, .ifCond .eq 28, 3) :: (8, .aload_n 0, 1) :: (9, .getfield 21, 3) :: (12, .iload_n 1, 1) :: (13, .iaload, 1) :: (14, .aload_n 0, 1) :: (15, .getfield 15, 3) :: (18, .iload_n 1, 1) :: (19, .iaload, 1) :: (20, .aload_n 0, 1) :: (21, .getfield 24, 3) :: (24, .iload_n 1, 1) :: (25, .laload, 1) :: (26, .iload_n 2, 1) :: (27, .invokestatic 57, 3) :: (30, .goto 4, 3) :: k_X2_heldFrom_33
def Y_X2_heldFrom : MD := (yX2_heldFrom, cX2_heldFrom, 3, (some .long), k_X2_heldFrom)
theorem cok_X2_heldFrom : COK Y_X2_heldFrom.2.1 Y_X2_heldFrom.code = true := by decide +kernel
theorem mok_X2_heldFrom : MOK Y_X2_heldFrom 2 := ⟨mU_5 6 rfl rfl, mU_1 4 rfl rfl, by decide, by decide, by decide +kernel, by decide⟩
theorem ins_X2_heldFrom : INST Y_X2_heldFrom := ⟨mU_5 5 rfl rfl, mV_4 (n := 9) 7 rfl⟩
def k_X2_justSoMany_93 : List CI := (93, .land, 1) :: (94, .lreturn, 1) :: []
def k_X2_justSoMany_85 : List CI := (85, .aload_n 0, 1) :: (86, .getfield 96, 3) :: (89, .ldc2_w 103, 3) :: (92, .lxor, 1) :: k_X2_justSoMany_93
def k_X2_justSoMany_68 : List CI := (68, .land, 1) :: (69, .lstore_n 2, 1) :: (70, .lload_n 2, 1) :: (71, .iload_n 1, 1) :: (72, .bipush 8, 2) :: (74, .iand, 1) :: (75, .ifCond .eq 10, 3) :: (78, .aload_n 0, 1) :: (79, .getfield 96, 3) :: (82, .goto 11, 3) :: k_X2_justSoMany_85
def k_X2_justSoMany_60 : List CI := (60, .aload_n 0, 1) :: (61, .getfield 93, 3) :: (64, .ldc2_w 103, 3) :: (67, .lxor, 1) :: k_X2_justSoMany_68
def k_X2_justSoMany_44 : List CI := (44, .land, 1) :: (45, .lstore_n 2, 1) :: (46, .lload_n 2, 1) :: (47, .iload_n 1, 1) :: (48, .iconst 4, 1) :: (49, .iand, 1) :: (50, .ifCond .eq 10, 3) :: (53, .aload_n 0, 1) :: (54, .getfield 93, 3) :: (57, .goto 11, 3) :: k_X2_justSoMany_60
def k_X2_justSoMany_36 : List CI := (36, .aload_n 0, 1) :: (37, .getfield 90, 3) :: (40, .ldc2_w 103, 3) :: (43, .lxor, 1) :: k_X2_justSoMany_44
def k_X2_justSoMany_21 : List CI := (21, .lstore_n 2, 1) :: (22, .lload_n 2, 1) :: (23, .iload_n 1, 1) :: (24, .iconst 2, 1) :: (25, .iand, 1) :: (26, .ifCond .eq 10, 3) :: (29, .aload_n 0, 1) :: (30, .getfield 90, 3) :: (33, .goto 11, 3) :: k_X2_justSoMany_36
def k_X2_justSoMany_13 : List CI := (13, .aload_n 0, 1) :: (14, .getfield 86, 3) :: (17, .ldc2_w 103, 3) :: (20, .lxor, 1) :: k_X2_justSoMany_21
def k_X2_justSoMany : List CI := (0, .iload_n 1, 1) :: (1, .iconst 1, 1) :: (2, .iand, 1) :: (3, .ifCond .eq 10, 3) :: (6, .aload_n 0, 1) :: (7, .getfield 86, 3) :: (10, .goto 11, 3) :: k_X2_justSoMany_13
def Y_X2_justSoMany : MD := (yX2_justSoMany, cX2_justSoMany, 4, (some .long), k_X2_justSoMany)
theorem cok_X2_justSoMany : COK Y_X2_justSoMany.2.1 Y_X2_justSoMany.code = true := by decide +kernel
theorem mok_X2_justSoMany : MOK Y_X2_justSoMany 1 := ⟨mU_5 18 rfl rfl, mU_1 4 rfl rfl, by decide, by decide, by decide +kernel, by decide⟩
theorem ins_X2_justSoMany : INST Y_X2_justSoMany := ⟨mU_5 17 rfl rfl, mV_4 (n := 9) 9 rfl⟩
def k_X7_daysOf_124 : List CI := (124, .aload_n 0, 1) :: (125, .getfield 32, 3) :: (128, .getfield 98, 3) :: (131, .iload 4, 2) :: (133, .iload_n 3, 1) :: (134, .invokevirtual 82, 3) :: (137, .lreturn, 1) :: []
def k_X7_daysOf_90 : List CI := (90, .aload_n 0, 1) :: (91, .getfield 32, 3) :: (94, .getfield 66, 3) :: (97, .aload_n 0, 1) :: (98, .getfield 18, 3) :: (101, .iload_n 1, 1) :: (102, .iaload, 1) :: (103, .iload_n 3, 1) :: (104, .aload_n 0, 1) :: (105, .getfield 36, 3) :: (108, .iload 4, 2) :: (110, .aload_n 0, 1) :: (111, .getfield 18, 3) :: (114, .iload_n 1, 1) :: (115, .iaload, 1) :: (116, .invokevirtual 93, 3) :: (119, .iadd, 1) :: (120, .invokevirtual 82, 3) :: (123, .lreturn, 1) :: k_X7_daysOf_124
def k_X7_daysOf_71 : List CI := (71, .aload_n 0, 1) :: (72, .getfield 18, 3) :: (75, .iload_n 1, 1) :: (76, .iaload, 1) :: (77, .iload 4, 2) :: (79, .aload_n 0, 1) :: (80, .getfield 21, 3) :: (83, .iload_n 1, 1) :: (84, .laload, 1) :: (85, .iload_n 2, 1) :: (86, .invokestatic 89, 3) :: (89, .lreturn, 1) :: k_X7_daysOf_90
def k_X7_daysOf_58 : List CI := (58, .aload_n 0, 1) :: (59, .getfield 32, 3) :: (62, .getfield 66, 3) :: (65, .iload 4, 2) :: (67, .invokevirtual 86, 3) :: (70, .lreturn, 1) :: k_X7_daysOf_71
def k_X7_daysOf_44 : List CI := (44, .aload_n 0, 1) :: (45, .getfield 32, 3) :: (48, .getfield 66, 3) :: (51, .iload 4, 2) :: (53, .iload_n 3, 1) :: (54, .invokevirtual 82, 3) :: (57, .lreturn, 1) :: k_X7_daysOf_58
def k_X7_daysOf : List CI := (0, .aload_n 0, 1) :: (1, .getfield 15, 3) :: (4, .iload_n 1, 1) :: (5, .iaload, 1) :: (6, .istore 4, 2) :: (8, .aload_n 0, 1) :: (9, .getfield 11, 3) :: (12, .iload_n 1, 1) :: (13, .iaload, 1) :: (14, .tableswitch 110 0 3 #[30, 44, 57, 76], 30) :: k_X7_daysOf_44
def Y_X7_daysOf : MD := (yX7_daysOf, cX7_daysOf, 5, (some .long), k_X7_daysOf)
theorem cok_X7_daysOf : COK Y_X7_daysOf.2.1 Y_X7_daysOf.code = true := by decide +kernel
theorem mok_X7_daysOf : MOK Y_X7_daysOf 3 := ⟨mU_5 13 rfl rfl, mU_1 8 rfl rfl, by decide, by decide, by decide +kernel, by decide⟩
theorem ins_X7_daysOf : INST Y_X7_daysOf := ⟨mU_5 12 rfl rfl, mV_4 (n := 10) 8 rfl⟩
def k_X2_tally_112 : List CI := (112, .return_, 1) :: []
def k_X2_tally_22 : List CI := (22, .iload_n 2, 1) :: (23, .aload_n 0, 1) :: (24, .getfield 31, 3) :: (27, .if_icmp .ge 85, 3) :: (30, .aload_n 0, 1) :: (31, .iload_n 2, 1) :: (32, .iload_n 1, 1) :: (33, .invokevirtual 99, 3) :: (36, .lstore_n 3, 1) :: (37, .aload_n 0, 1) :: (38, .getfield 86, 3) :: (41, .lload_n 3, 1) :: (42, .land, 1) :: (43, .lstore 5, 2) :: (45, .aload_n 0, 1) :: (46, .getfield 90, 3) :: (49, .lload 5, 2) :: (51, .land, 1) :: (52, .lstore 7, 2) :: (54, .aload_n 0, 1) :: (55, .getfield 93, 3) :: (58, .lload 7, 2) :: (60, .land, 1) :: (61, .lstore 9, 2) :: (63, .aload_n 0, 1) :: (64, .dup, 1) :: (65, .getfield 86, 3) :: (68, .lload_n 3, 1) :: (69, .lxor, 1) :: (70, .putfield 86, 3) :: (73, .aload_n 0, 1) :: (74, .dup, 1) :: (75, .getfield 90, 3) :: (78, .lload 5, 2) :: (80, .lxor, 1) :: (81, .putfield 90, 3) :: (84, .aload_n 0, 1) :: (85, .dup, 1) :: (86, .getfield 93, 3) :: (89, .lload 7, 2) :: (91, .lxor, 1) :: (92, .putfield 93, 3) :: (95, .aload_n 0, 1) :: (96, .dup, 1) :: (97, .getfield 96, 3) :: (100, .lload 9, 2) :: (102, .lxor, 1) :: (103, .putfield 96, 3) :: (106, .iinc 2 1, 3) :: (109, .goto (-87), 3) :: k_X2_tally_112
def k_X2_tally : List CI := (0, .aload_n 0, 1) :: (1, .lconst 0, 1) :: (2, .putfield 86, 3) :: (5, .aload_n 0, 1) :: (6, .lconst 0, 1) :: (7, .putfield 90, 3) :: (10, .aload_n 0, 1) :: (11, .lconst 0, 1) :: (12, .putfield 93, 3) :: (15, .aload_n 0, 1) :: (16, .lconst 0, 1) :: (17, .putfield 96, 3) :: (20, .iconst 0, 1) :: (21, .istore_n 2, 1) :: k_X2_tally_22
def Y_X2_tally : MD := (yX2_tally, cX2_tally, 11, none, k_X2_tally)
theorem cok_X2_tally : COK Y_X2_tally.2.1 Y_X2_tally.code = true := by decide +kernel
theorem mok_X2_tally : MOK Y_X2_tally 1 := ⟨mU_5 2 rfl rfl, mU_1 4 rfl rfl, by decide, by decide, by decide +kernel, by decide⟩
theorem ins_X2_tally : INST Y_X2_tally := ⟨mU_5 1 rfl rfl, mV_4 (n := 9) 6 rfl⟩
def k_X7_daysFrom_190 : List CI := (190, .lreturn, 1) :: []
def k_X7_daysFrom_187 : List CI := (187, .ldc2_w 80, 3) :: k_X7_daysFrom_190
def k_X7_daysFrom_174 : List CI := (174, .iload_n 3, 1) :: (175, .ifCond .le 12, 3) :: (178, .aload_n 0, 1) :: (179, .getfield 25, 3) :: (182, .iconst 0, 1) :: (183, .laload, 1) :: (184, .goto 6, 3) :: k_X7_daysFrom_187
def k_X7_daysFrom_168 : List CI := (168, .iinc 4 1, 3) :: (171, .goto (-148), 3) :: k_X7_daysFrom_174
def k_X7_daysFrom_167 : List CI := (167, .lastore, 1) :: k_X7_daysFrom_168
def k_X7_daysFrom_152 : List CI := (152, .aload_n 0, 1) :: (153, .getfield 25, 3) :: (156, .iload_n 3, 1) :: (157, .iconst 1, 1) :: (158, .isub, 1) :: (159, .laload, 1) :: (160, .aload_n 0, 1) :: (161, .getfield 25, 3) :: (164, .iload_n 3, 1) :: (165, .laload, 1) :: (166, .lor, 1) :: k_X7_daysFrom_167
def k_X7_daysFrom_107 : List CI := (107, .iload_n 3, 1) :: (108, .iconst 1, 1) :: (109, .if_icmp .le 59, 3) :: (112, .iinc 3 (-1), 3) :: (115, .aload_n 0, 1) :: (116, .getfield 25, 3) :: (119, .iload_n 3, 1) :: (120, .iconst 1, 1) :: (121, .isub, 1) :: (122, .aload_n 0, 1) :: (123, .getfield 11, 3) :: (126, .iload 4, 2) :: (128, .iaload, 1) :: (129, .bipush 6, 2) :: (131, .if_icmp .ne 21, 3) :: (134, .aload_n 0, 1) :: (135, .getfield 25, 3) :: (138, .iload_n 3, 1) :: (139, .iconst 1, 1) :: (140, .isub, 1) :: (141, .laload, 1) :: (142, .aload_n 0, 1) :: (143, .getfield 25, 3) :: (146, .iload_n 3, 1) :: (147, .laload, 1) :: (148, .land, 1) :: (149, .goto 18, 3) :: k_X7_daysFrom_152
def k_X7_daysFrom_69 : List CI := (69, .aload_n 0, 1) :: (70, .getfield 11, 3) :: (73, .iload 4, 2) :: (75, .iaload, 1) :: (76, .iconst 5, 1) :: (77, .if_icmp .ne 30, 3) :: (80, .iload_n 3, 1) :: (81, .ifCond .le 26, 3) :: (84, .aload_n 0, 1) :: (85, .getfield 25, 3) :: (88, .iload_n 3, 1) :: (89, .iconst 1, 1) :: (90, .isub, 1) :: (91, .aload_n 0, 1) :: (92, .getfield 25, 3) :: (95, .iload_n 3, 1) :: (96, .iconst 1, 1) :: (97, .isub, 1) :: (98, .laload, 1) :: (99, .ldc2_w 80, 3) :: (102, .lxor, 1) :: (103, .lastore, 1) :: (104, .goto 64, 3) :: k_X7_daysFrom_107
def k_X7_daysFrom_23 : List CI := (23, .iload 4, 2) :: (25, .aload_n 0, 1) :: (26, .getfield 40, 3) :: (29, .if_icmp .ge 145, 3) :: (32, .aload_n 0, 1) :: (33, .getfield 11, 3) :: (36, .iload 4, 2) :: (38, .iaload, 1) :: (39, .iconst 5, 1) :: (40, .if_icmp .ge 29, 3) :: (43, .iload_n 3, 1) :: (44, .bipush 100, 2) :: (46, .if_icmp .ge 23, 3) :: (49, .aload_n 0, 1) :: (50, .getfield 25, 3) :: (53, .iload_n 3, 1) :: (54, .aload_n 0, 1) :: (55, .iload 4, 2) :: (57, .iload_n 1, 1) :: (58, .iload_n 2, 1) :: (59, .invokevirtual 76, 3) :: (62, .lastore, 1) :: (63, .iinc 3 1, 3) :: (66, .goto 102, 3) :: k_X7_daysFrom_69
def k_X7_daysFrom_18 : List CI := (18, .iconst 0, 1) :: (19, .istore_n 3, 1) :: (20, .iconst 0, 1) :: (21, .istore 4, 2) :: k_X7_daysFrom_23
def k_X7_daysFrom : List CI := (0, .aload_n 0, 1) :: (1, .getfield 43, 3) :: (4, .ifCond .eq 14, 3) :: (7, .aload_n 0, 1) :: (8, .getfield 32, 3) :: (11, .getfield 66, 3) :: (14, .iload_n 2, 1) :: (15, .invokevirtual 70, 3) :: k_X7_daysFrom_18
def Y_X7_daysFrom : MD := (yX7_daysFrom, cX7_daysFrom, 5, (some .long), k_X7_daysFrom)
theorem cok_X7_daysFrom : COK Y_X7_daysFrom.2.1 Y_X7_daysFrom.code = true := by decide +kernel
theorem mok_X7_daysFrom : MOK Y_X7_daysFrom 2 := ⟨mU_4 238 rfl rfl, mU_1 8 rfl rfl, by decide, by decide, by decide +kernel, by decide⟩
theorem ins_X7_daysFrom : INST Y_X7_daysFrom := ⟨mU_4 237 rfl rfl, mV_4 (n := 10) 5 rfl⟩
def k_X10_such_33 : List CI := (33, .ireturn, 1) :: []
def k_X10_such_32 : List CI := (32, .iconst 0, 1) :: k_X10_such_33
def k_X10_such : List CI := (0, .aload_n 0, 1) :: (1, .iload_n 1, 1) :: (2, .invokevirtual 182, 3) :: (5, .aload_n 0, 1) :: (6, .getfield 47, 3) :: (9, .iload_n 1, 1) :: (10, .aload_n 0, 1) :: (11, .getfield 27, 3) :: (14, .iload_n 1, 1) :: (15, .invokevirtual 185, 3) :: (18, .invokevirtual 194, 3) :: (21, .lconst 1, 1) :: (22, .land, 1) :: (23, .lconst 0, 1) :: (24, .lcmp, 1) :: (25, .ifCond .eq 7, 3) :: (28, .iconst 1, 1) :: (29, .goto 4, 3) :: k_X10_such_32
def Y_X10_such : MD := (yX10_such, cX10_such, 2, (some .boolean), k_X10_such)
theorem cok_X10_such : COK Y_X10_such.2.1 Y_X10_such.code = true := by decide +kernel
theorem mok_X10_such : MOK Y_X10_such 1 := ⟨mU_4 234 rfl rfl, mU_1 1 rfl rfl, by decide, by decide, by decide +kernel, by decide⟩
theorem ins_X10_such : INST Y_X10_such := ⟨mU_4 232 rfl rfl, mU_4 233 rfl rfl⟩
def k_X0_settledDay_31 : List CI := (31, .iload_n 1, 1) :: (32, .ireturn, 1) :: []
def k_X0_settledDay_4 : List CI := (4, .iload_n 2, 1) :: (5, .aload_n 0, 1) :: (6, .getfield 50, 3) :: (9, .if_icmp .ge 22, 3) :: (12, .iload_n 1, 1) :: (13, .aload_n 0, 1) :: (14, .getfield 27, 3) :: (17, .iload_n 2, 1) :: (18, .iaload, 1) :: (19, .iconst 1, 1) :: (20, .iadd, 1) :: (21, .invokestatic 53, 3) :: (24, .istore_n 1, 1) :: (25, .iinc 2 1, 3) :: (28, .goto (-24), 3) :: k_X0_settledDay_31
def k_X0_settledDay : List CI := (0, .iconst 0, 1) :: (1, .istore_n 1, 1) :: (2, .iconst 0, 1) :: (3, .istore_n 2, 1) :: k_X0_settledDay_4
def Y_X0_settledDay : MD := (yX0_settledDay, cX0_settledDay, 3, (some .int), k_X0_settledDay)
theorem cok_X0_settledDay : COK Y_X0_settledDay.2.1 Y_X0_settledDay.code = true := by decide +kernel
theorem mok_X0_settledDay : MOK Y_X0_settledDay 0 := ⟨mU_5 37 rfl rfl, mU_1 3 rfl rfl, by decide, by decide, by decide +kernel, by decide⟩
theorem ins_X0_settledDay : INST Y_X0_settledDay := ⟨mU_5 36 rfl rfl, mV_4 (n := 8) 11 rfl⟩
def k_X0_stretchFrom_53 : List CI := (53, .iload_n 2, 1) :: (54, .iload_n 1, 1) :: (55, .isub, 1) :: (56, .iconst 1, 1) :: (57, .iadd, 1) :: (58, .ireturn, 1) :: []
def k_X0_stretchFrom_46 : List CI := (46, .istore_n 2, 1) :: (47, .iinc 3 1, 3) :: (50, .goto (-36), 3) :: k_X0_stretchFrom_53
def k_X0_stretchFrom_45 : List CI := (45, .iload_n 2, 1) :: k_X0_stretchFrom_46
def k_X0_stretchFrom_14 : List CI := (14, .iload_n 3, 1) :: (15, .aload_n 0, 1) :: (16, .getfield 50, 3) :: (19, .if_icmp .ge 34, 3) :: (22, .aload_n 0, 1) :: (23, .getfield 27, 3) :: (26, .iload_n 3, 1) :: (27, .iaload, 1) :: (28, .iload_n 1, 1) :: (29, .if_icmp .lt 16, 3) :: (32, .iload_n 2, 1) :: (33, .aload_n 0, 1) :: (34, .getfield 27, 3) :: (37, .iload_n 3, 1) :: (38, .iaload, 1) :: (39, .invokestatic 60, 3) :: (42, .goto 4, 3) :: k_X0_stretchFrom_45
def k_X0_stretchFrom : List CI := (0, .iload_n 1, 1) :: (1, .bipush 64, 2) :: (3, .iadd, 1) :: (4, .iconst 1, 1) :: (5, .isub, 1) :: (6, .ldc 59, 2) :: (8, .invokestatic 60, 3) :: (11, .istore_n 2, 1) :: (12, .iconst 0, 1) :: (13, .istore_n 3, 1) :: k_X0_stretchFrom_14
def Y_X0_stretchFrom : MD := (yX0_stretchFrom, cX0_stretchFrom, 4, (some .int), k_X0_stretchFrom)
theorem cok_X0_stretchFrom : COK Y_X0_stretchFrom.2.1 Y_X0_stretchFrom.code = true := by decide +kernel
theorem mok_X0_stretchFrom : MOK Y_X0_stretchFrom 1 := ⟨mU_5 45 rfl rfl, mU_1 3 rfl rfl, by decide, by decide, by decide +kernel, by decide⟩
theorem ins_X0_stretchFrom : INST Y_X0_stretchFrom := ⟨mU_5 44 rfl rfl, mV_4 (n := 8) 12 rfl⟩
def k_X10_low_26 : List CI := (26, .lreturn, 1) :: []
def k_X10_low_21 : List CI := (21, .lconst 1, 1) :: (22, .iload_n 0, 1) :: (23, .lshl, 1) :: (24, .lconst 1, 1) :: (25, .lsub, 1) :: k_X10_low_26
def k_X10_low_12 : List CI := (12, .iload_n 0, 1) :: (13, .iconst 1, 1) :: (14, .if_icmp .ge 7, 3) :: (17, .lconst 0, 1) :: (18, .goto 8, 3) :: k_X10_low_21
def k_X10_low : List CI := (0, .iload_n 0, 1) :: (1, .bipush 64, 2) :: (3, .if_icmp .lt 9, 3) :: (6, .ldc2_w 416, 3) :: (9, .goto 17, 3) :: k_X10_low_12
def Y_X10_low : MD := (yX10_low, cX10_low, 1, (some .long), k_X10_low)
theorem cok_X10_low : COK Y_X10_low.2.1 Y_X10_low.code = true := by decide +kernel
theorem mok_X10_low : MOK Y_X10_low 1 := ⟨mU_5 52 rfl rfl, mU_1 1 rfl rfl, by decide, by decide, by decide +kernel, by decide⟩
theorem sta_X10_low : STAT Y_X10_low := mU_5 51 rfl rfl
def k_J13_bitCount_95d88 : List CI := (0, .lload_n 0, 1) :: (1, .lload_n 0, 1) :: (2, .iconst 1, 1) :: (3, .lushr, 1) :: (4, .ldc2_w 314, 3) :: (7, .land, 1) :: (8, .lsub, 1) :: (9, .lstore_n 0, 1) :: (10, .lload_n 0, 1) :: (11, .ldc2_w 316, 3) :: (14, .land, 1) :: (15, .lload_n 0, 1) :: (16, .iconst 2, 1) :: (17, .lushr, 1) :: (18, .ldc2_w 316, 3) :: (21, .land, 1) :: (22, .ladd, 1) :: (23, .lstore_n 0, 1) :: (24, .lload_n 0, 1) :: (25, .lload_n 0, 1) :: (26, .iconst 4, 1) :: (27, .lushr, 1) :: (28, .ladd, 1) :: (29, .ldc2_w 318, 3) :: (32, .land, 1) :: (33, .lstore_n 0, 1) :: (34, .lload_n 0, 1) :: (35, .lload_n 0, 1) :: (36, .bipush 8, 2) :: (38, .lushr, 1) :: (39, .ladd, 1) :: (40, .lstore_n 0, 1) :: (41, .lload_n 0, 1) :: (42, .lload_n 0, 1) :: (43, .bipush 16, 2) :: (45, .lushr, 1) :: (46, .ladd, 1) :: (47, .lstore_n 0, 1) :: (48, .lload_n 0, 1) :: (49, .lload_n 0, 1) :: (50, .bipush 32, 2) :: (52, .lushr, 1) :: (53, .ladd, 1) :: (54, .lstore_n 0, 1) :: (55, .lload_n 0, 1) :: (56, .l2i, 1) :: (57, .bipush 127, 2) :: (59, .iand, 1) :: (60, .ireturn, 1) :: []
def Y_J13_bitCount_95d88 : MD := (yJ13_bitCount_95d88, cJ13_bitCount_95d88, 2, (some .int), k_J13_bitCount_95d88)
theorem cok_J13_bitCount_95d88 : COK Y_J13_bitCount_95d88.2.1 Y_J13_bitCount_95d88.code = true := by decide +kernel
theorem mok_J13_bitCount_95d88 : MOK Y_J13_bitCount_95d88 1 := ⟨mU_5 59 rfl rfl, mU_1 25 rfl rfl, by decide, by decide, by decide +kernel, by decide⟩
theorem sta_J13_bitCount_95d88 : STAT Y_J13_bitCount_95d88 := mU_5 58 rfl rfl
def k_X10_lowest : List CI := (0, .lload_n 0, 1) :: (1, .lload_n 0, 1) :: (2, .lneg, 1) :: (3, .land, 1) :: (4, .lconst 1, 1) :: (5, .lsub, 1) :: (6, .invokestatic 232, 3) :: (9, .ireturn, 1) :: []
def Y_X10_lowest : MD := (yX10_lowest, cX10_lowest, 2, (some .int), k_X10_lowest)
theorem cok_X10_lowest : COK Y_X10_lowest.2.1 Y_X10_lowest.code = true := by decide +kernel
theorem mok_X10_lowest : MOK Y_X10_lowest 1 := ⟨mU_5 56 rfl rfl, mU_1 1 rfl rfl, by decide, by decide, by decide +kernel, by decide⟩
theorem sta_X10_lowest : STAT Y_X10_lowest := mU_5 55 rfl rfl
def k_X7_firstFrom_94 : List CI := (94, .iconst (-1), 1) :: (95, .ireturn, 1) :: []
def k_X7_firstFrom_81 : List CI := (81, .iload 4, 2) :: (83, .iload_n 3, 1) :: (84, .iconst 1, 1) :: (85, .invokestatic 105, 3) :: (88, .iadd, 1) :: (89, .istore 4, 2) :: (91, .goto (-64), 3) :: k_X7_firstFrom_94
def k_X7_firstFrom_27 : List CI := (27, .iload 4, 2) :: (29, .iload_n 2, 1) :: (30, .if_icmp .gt 64, 3) :: (33, .aload_n 0, 1) :: (34, .getfield 32, 3) :: (37, .iload 4, 2) :: (39, .invokevirtual 114, 3) :: (42, .istore_n 3, 1) :: (43, .aload_n 0, 1) :: (44, .iload 4, 2) :: (46, .aload_n 0, 1) :: (47, .getfield 32, 3) :: (50, .iload 4, 2) :: (52, .invokevirtual 118, 3) :: (55, .invokevirtual 121, 3) :: (58, .iload_n 3, 1) :: (59, .invokestatic 124, 3) :: (62, .land, 1) :: (63, .lstore 5, 2) :: (65, .lload 5, 2) :: (67, .lconst 0, 1) :: (68, .lcmp, 1) :: (69, .ifCond .eq 12, 3) :: (72, .iload 4, 2) :: (74, .lload 5, 2) :: (76, .invokestatic 127, 3) :: (79, .iadd, 1) :: (80, .ireturn, 1) :: k_X7_firstFrom_81
def k_X7_firstFrom : List CI := (0, .iload_n 1, 1) :: (1, .aload_n 0, 1) :: (2, .getfield 32, 3) :: (5, .invokevirtual 101, 3) :: (8, .invokestatic 105, 3) :: (11, .aload_n 0, 1) :: (12, .getfield 28, 3) :: (15, .iadd, 1) :: (16, .ldc 110, 2) :: (18, .invokestatic 111, 3) :: (21, .istore_n 2, 1) :: (22, .iconst 1, 1) :: (23, .istore_n 3, 1) :: (24, .iload_n 1, 1) :: (25, .istore 4, 2) :: k_X7_firstFrom_27
def Y_X7_firstFrom : MD := (yX7_firstFrom, cX7_firstFrom, 7, (some .int), k_X7_firstFrom)
theorem cok_X7_firstFrom : COK Y_X7_firstFrom.2.1 Y_X7_firstFrom.code = true := by decide +kernel
theorem mok_X7_firstFrom : MOK Y_X7_firstFrom 1 := ⟨mU_5 33 rfl rfl, mU_1 8 rfl rfl, by decide, by decide, by decide +kernel, by decide⟩
theorem ins_X7_firstFrom : INST Y_X7_firstFrom := ⟨mU_5 32 rfl rfl, mV_4 (n := 10) 10 rfl⟩
def k_X10_next : List CI := (0, .aload_n 0, 1) :: (1, .iload_n 1, 1) :: (2, .invokevirtual 182, 3) :: (5, .aload_n 0, 1) :: (6, .getfield 47, 3) :: (9, .iload_n 1, 1) :: (10, .invokevirtual 198, 3) :: (13, .ireturn, 1) :: []
def Y_X10_next : MD := (yX10_next, cX10_next, 2, (some .int), k_X10_next)
theorem cok_X10_next : COK Y_X10_next.2.1 Y_X10_next.code = true := by decide +kernel
theorem mok_X10_next : MOK Y_X10_next 1 := ⟨mU_5 29 rfl rfl, mU_1 1 rfl rfl, by decide, by decide, by decide +kernel, by decide⟩
theorem ins_X10_next : INST Y_X10_next := ⟨mU_5 27 rfl rfl, mU_5 28 rfl rfl⟩
def k_X10_needLaws_26 : List CI := (26, .invokevirtual 101, 3) :: (29, .return_, 1) :: []
def k_X10_needLaws_25 : List CI := (25, .iconst 0, 1) :: k_X10_needLaws_26
def k_X10_needLaws : List CI := (0, .aload_n 0, 1) :: (1, .iload_n 1, 1) :: (2, .aload_n 0, 1) :: (3, .getfield 27, 3) :: (6, .getfield 128, 3) :: (9, .getfield 132, 3) :: (12, .invokestatic 237, 3) :: (15, .iconst (-1), 1) :: (16, .ixor, 1) :: (17, .iand, 1) :: (18, .ifCond .ne 7, 3) :: (21, .iconst 1, 1) :: (22, .goto 4, 3) :: k_X10_needLaws_25
def Y_X10_needLaws : MD := (yX10_needLaws, cX10_needLaws, 2, none, k_X10_needLaws)
theorem cok_X10_needLaws : COK Y_X10_needLaws.2.1 Y_X10_needLaws.code = true := by decide +kernel
theorem mok_X10_needLaws : MOK Y_X10_needLaws 1 := ⟨mU_5 73 rfl rfl, mU_1 1 rfl rfl, by decide, by decide, by decide +kernel, by decide⟩
theorem ins_X10_needLaws : INST Y_X10_needLaws := ⟨mU_5 72 rfl rfl, mV_4 (n := 17) 13 rfl⟩
def k_X2_meetingWith_18 : List CI := (18, .ireturn, 1) :: []
def k_X2_meetingWith_17 : List CI := (17, .iconst 0, 1) :: k_X2_meetingWith_18
def k_X2_meetingWith : List CI := (0, .aload_n 0, 1) :: (1, .iload_n 1, 1) :: (2, .invokevirtual 50, 3) :: (5, .ifCond .eq 12, 3) :: (8, .aload_n 0, 1) :: (9, .getfield 28, 3) :: (12, .iload_n 1, 1) :: (13, .iaload, 1) :: (14, .goto 4, 3) :: k_X2_meetingWith_17
def Y_X2_meetingWith : MD := (yX2_meetingWith, cX2_meetingWith, 2, (some .int), k_X2_meetingWith)
theorem cok_X2_meetingWith : COK Y_X2_meetingWith.2.1 Y_X2_meetingWith.code = true := by decide +kernel
theorem mok_X2_meetingWith : MOK Y_X2_meetingWith 1 := ⟨mU_5 78 rfl rfl, mU_1 4 rfl rfl, by decide, by decide, by decide +kernel, by decide⟩
theorem ins_X2_meetingWith : INST Y_X2_meetingWith := ⟨mU_5 77 rfl rfl, mV_4 (n := 9) 14 rfl⟩
def k_X10_never_94 : List CI := (94, .iconst (-1), 1) :: (95, .ireturn, 1) :: []
def k_X10_never_88 : List CI := (88, .iinc 2 1, 3) :: (91, .goto (-84), 3) :: k_X10_never_94
def k_X10_never_82 : List CI := (82, .iinc 4 1, 3) :: (85, .goto (-43), 3) :: k_X10_never_88
def k_X10_never_42 : List CI := (42, .iload 4, 2) :: (44, .aload_n 0, 1) :: (45, .getfield 27, 3) :: (48, .getfield 128, 3) :: (51, .getfield 132, 3) :: (54, .if_icmp .ge 34, 3) :: (57, .iload_n 2, 1) :: (58, .iload_n 1, 1) :: (59, .invokestatic 207, 3) :: (62, .ifCond .eq 26, 3) :: (65, .iload 4, 2) :: (67, .iload_n 3, 1) :: (68, .invokestatic 207, 3) :: (71, .ifCond .eq 11, 3) :: (74, .bipush 100, 2) :: (76, .iload_n 2, 1) :: (77, .imul, 1) :: (78, .iload 4, 2) :: (80, .iadd, 1) :: (81, .ireturn, 1) :: k_X10_never_82
def k_X10_never_7 : List CI := (7, .iload_n 2, 1) :: (8, .aload_n 0, 1) :: (9, .getfield 27, 3) :: (12, .getfield 128, 3) :: (15, .getfield 132, 3) :: (18, .if_icmp .ge 76, 3) :: (21, .iload_n 1, 1) :: (22, .aload_n 0, 1) :: (23, .getfield 27, 3) :: (26, .getfield 128, 3) :: (29, .iload_n 2, 1) :: (30, .invokevirtual 204, 3) :: (33, .iconst (-1), 1) :: (34, .ixor, 1) :: (35, .iand, 1) :: (36, .istore_n 3, 1) :: (37, .iload_n 2, 1) :: (38, .iconst 1, 1) :: (39, .iadd, 1) :: (40, .istore 4, 2) :: k_X10_never_42
def k_X10_never : List CI := (0, .aload_n 0, 1) :: (1, .iload_n 1, 1) :: (2, .invokevirtual 201, 3) :: (5, .iconst 0, 1) :: (6, .istore_n 2, 1) :: k_X10_never_7
def Y_X10_never : MD := (yX10_never, cX10_never, 5, (some .int), k_X10_never)
theorem cok_X10_never : COK Y_X10_never.2.1 Y_X10_never.code = true := by decide +kernel
theorem mok_X10_never : MOK Y_X10_never 1 := ⟨mU_5 69 rfl rfl, mU_1 1 rfl rfl, by decide, by decide, by decide +kernel, by decide⟩
theorem ins_X10_never : INST Y_X10_never := ⟨mU_5 67 rfl rfl, mU_5 68 rfl rfl⟩
def k_X2_firstDayOfAll_90 : List CI := (90, .iload_n 2, 1) :: (91, .ireturn, 1) :: []
def k_X2_firstDayOfAll_84 : List CI := (84, .iinc 4 1, 3) :: (87, .goto (-80), 3) :: k_X2_firstDayOfAll_90
def k_X2_firstDayOfAll_72 : List CI := (72, .iload_n 3, 1) :: (73, .aload_n 0, 1) :: (74, .getfield 15, 3) :: (77, .iload 4, 2) :: (79, .iaload, 1) :: (80, .invokestatic 68, 3) :: (83, .istore_n 3, 1) :: k_X2_firstDayOfAll_84
def k_X2_firstDayOfAll_60 : List CI := (60, .aload_n 0, 1) :: (61, .iload 4, 2) :: (63, .iload_n 2, 1) :: (64, .invokevirtual 71, 3) :: (67, .ifCond .ne 5, 3) :: (70, .iconst (-1), 1) :: (71, .ireturn, 1) :: k_X2_firstDayOfAll_72
def k_X2_firstDayOfAll_28 : List CI := (28, .iload 5, 2) :: (30, .aload_n 0, 1) :: (31, .getfield 15, 3) :: (34, .iload 4, 2) :: (36, .iaload, 1) :: (37, .if_icmp .ge 23, 3) :: (40, .aload_n 0, 1) :: (41, .iload 4, 2) :: (43, .iload_n 2, 1) :: (44, .invokevirtual 71, 3) :: (47, .ifCond .ne 13, 3) :: (50, .iload_n 2, 1) :: (51, .iload_n 3, 1) :: (52, .iadd, 1) :: (53, .istore_n 2, 1) :: (54, .iinc 5 1, 3) :: (57, .goto (-29), 3) :: k_X2_firstDayOfAll_60
def k_X2_firstDayOfAll_7 : List CI := (7, .iload 4, 2) :: (9, .aload_n 0, 1) :: (10, .getfield 31, 3) :: (13, .if_icmp .ge 77, 3) :: (16, .iload 4, 2) :: (18, .iload_n 1, 1) :: (19, .invokestatic 61, 3) :: (22, .ifCond .eq 62, 3) :: (25, .iconst 0, 1) :: (26, .istore 5, 2) :: k_X2_firstDayOfAll_28
def k_X2_firstDayOfAll : List CI := (0, .iconst 0, 1) :: (1, .istore_n 2, 1) :: (2, .iconst 1, 1) :: (3, .istore_n 3, 1) :: (4, .iconst 0, 1) :: (5, .istore 4, 2) :: k_X2_firstDayOfAll_7
def Y_X2_firstDayOfAll : MD := (yX2_firstDayOfAll, cX2_firstDayOfAll, 6, (some .int), k_X2_firstDayOfAll)
theorem cok_X2_firstDayOfAll : COK Y_X2_firstDayOfAll.2.1 Y_X2_firstDayOfAll.code = true := by decide +kernel
theorem mok_X2_firstDayOfAll : MOK Y_X2_firstDayOfAll 1 := ⟨mU_5 90 rfl rfl, mU_1 4 rfl rfl, by decide, by decide, by decide +kernel, by decide⟩
theorem ins_X2_firstDayOfAll : INST Y_X2_firstDayOfAll := ⟨mU_5 89 rfl rfl, mV_4 (n := 9) 15 rfl⟩
def k_X10_together : List CI := (0, .aload_n 0, 1) :: (1, .iload_n 1, 1) :: (2, .invokevirtual 201, 3) :: (5, .aload_n 0, 1) :: (6, .getfield 27, 3) :: (9, .getfield 128, 3) :: (12, .iload_n 1, 1) :: (13, .invokevirtual 211, 3) :: (16, .ireturn, 1) :: []
def Y_X10_together : MD := (yX10_together, cX10_together, 2, (some .int), k_X10_together)
theorem cok_X10_together : COK Y_X10_together.2.1 Y_X10_together.code = true := by decide +kernel
theorem mok_X10_together : MOK Y_X10_together 1 := ⟨mU_5 86 rfl rfl, mU_1 1 rfl rfl, by decide, by decide, by decide +kernel, by decide⟩
theorem ins_X10_together : INST Y_X10_together := ⟨mU_5 84 rfl rfl, mU_5 85 rfl rfl⟩
def k_J6_bitCount_0f7a4 : List CI := (0, .iload_n 0, 1) :: (1, .iload_n 0, 1) :: (2, .iconst 1, 1) :: (3, .iushr, 1) :: (4, .ldc_w 265, 3) :: (7, .iand, 1) :: (8, .isub, 1) :: (9, .istore_n 0, 1) :: (10, .iload_n 0, 1) :: (11, .ldc_w 266, 3) :: (14, .iand, 1) :: (15, .iload_n 0, 1) :: (16, .iconst 2, 1) :: (17, .iushr, 1) :: (18, .ldc_w 266, 3) :: (21, .iand, 1) :: (22, .iadd, 1) :: (23, .istore_n 0, 1) :: (24, .iload_n 0, 1) :: (25, .iload_n 0, 1) :: (26, .iconst 4, 1) :: (27, .iushr, 1) :: (28, .iadd, 1) :: (29, .ldc_w 267, 3) :: (32, .iand, 1) :: (33, .istore_n 0, 1) :: (34, .iload_n 0, 1) :: (35, .iload_n 0, 1) :: (36, .bipush 8, 2) :: (38, .iushr, 1) :: (39, .iadd, 1) :: (40, .istore_n 0, 1) :: (41, .iload_n 0, 1) :: (42, .iload_n 0, 1) :: (43, .bipush 16, 2) :: (45, .iushr, 1) :: (46, .iadd, 1) :: (47, .istore_n 0, 1) :: (48, .iload_n 0, 1) :: (49, .bipush 63, 2) :: (51, .iand, 1) :: (52, .ireturn, 1) :: []
def Y_J6_bitCount_0f7a4 : MD := (yJ6_bitCount_0f7a4, cJ6_bitCount_0f7a4, 1, (some .int), k_J6_bitCount_0f7a4)
theorem cok_J6_bitCount_0f7a4 : COK Y_J6_bitCount_0f7a4.2.1 Y_J6_bitCount_0f7a4.code = true := by decide +kernel
theorem mok_J6_bitCount_0f7a4 : MOK Y_J6_bitCount_0f7a4 1 := ⟨mU_5 106 rfl rfl, mU_1 26 rfl rfl, by decide, by decide, by decide +kernel, by decide⟩
theorem sta_J6_bitCount_0f7a4 : STAT Y_J6_bitCount_0f7a4 := mU_5 105 rfl rfl
def k_X2_allMeet_39 : List CI := (39, .iconst 1, 1) :: (40, .ireturn, 1) :: []
def k_X2_allMeet_33 : List CI := (33, .iinc 2 1, 3) :: (36, .goto (-34), 3) :: k_X2_allMeet_39
def k_X2_allMeet_2 : List CI := (2, .iload_n 2, 1) :: (3, .aload_n 0, 1) :: (4, .getfield 31, 3) :: (7, .if_icmp .ge 32, 3) :: (10, .iload_n 2, 1) :: (11, .iload_n 1, 1) :: (12, .invokestatic 61, 3) :: (15, .ifCond .eq 18, 3) :: (18, .iload_n 1, 1) :: (19, .aload_n 0, 1) :: (20, .getfield 28, 3) :: (23, .iload_n 2, 1) :: (24, .iaload, 1) :: (25, .iconst (-1), 1) :: (26, .ixor, 1) :: (27, .iand, 1) :: (28, .ifCond .eq 5, 3) :: (31, .iconst 0, 1) :: (32, .ireturn, 1) :: k_X2_allMeet_33
def k_X2_allMeet : List CI := (0, .iconst 0, 1) :: (1, .istore_n 2, 1) :: k_X2_allMeet_2
def Y_X2_allMeet : MD := (yX2_allMeet, cX2_allMeet, 3, (some .boolean), k_X2_allMeet)
theorem cok_X2_allMeet : COK Y_X2_allMeet.2.1 Y_X2_allMeet.code = true := by decide +kernel
theorem mok_X2_allMeet : MOK Y_X2_allMeet 1 := ⟨mU_5 113 rfl rfl, mU_1 4 rfl rfl, by decide, by decide, by decide +kernel, by decide⟩
theorem ins_X2_allMeet : INST Y_X2_allMeet := ⟨mU_5 112 rfl rfl, mV_5 (n := 9) 1 rfl⟩
def k_X2_greatestSet_54 : List CI := (54, .iload_n 1, 1) :: (55, .ireturn, 1) :: []
def k_X2_greatestSet_48 : List CI := (48, .iinc 4 1, 3) :: (51, .goto (-36), 3) :: k_X2_greatestSet_54
def k_X2_greatestSet_15 : List CI := (15, .iload 4, 2) :: (17, .iload_n 3, 1) :: (18, .if_icmp .gt 36, 3) :: (21, .iload 4, 2) :: (23, .invokestatic 78, 3) :: (26, .iload_n 2, 1) :: (27, .if_icmp .le 21, 3) :: (30, .aload_n 0, 1) :: (31, .iload 4, 2) :: (33, .invokevirtual 83, 3) :: (36, .ifCond .eq 12, 3) :: (39, .iload 4, 2) :: (41, .istore_n 1, 1) :: (42, .iload 4, 2) :: (44, .invokestatic 78, 3) :: (47, .istore_n 2, 1) :: k_X2_greatestSet_48
def k_X2_greatestSet : List CI := (0, .iconst 0, 1) :: (1, .istore_n 1, 1) :: (2, .iconst 0, 1) :: (3, .istore_n 2, 1) :: (4, .aload_n 0, 1) :: (5, .getfield 31, 3) :: (8, .invokestatic 74, 3) :: (11, .istore_n 3, 1) :: (12, .iconst 0, 1) :: (13, .istore 4, 2) :: k_X2_greatestSet_15
def Y_X2_greatestSet : MD := (yX2_greatestSet, cX2_greatestSet, 5, (some .int), k_X2_greatestSet)
theorem cok_X2_greatestSet : COK Y_X2_greatestSet.2.1 Y_X2_greatestSet.code = true := by decide +kernel
theorem mok_X2_greatestSet : MOK Y_X2_greatestSet 0 := ⟨mU_5 102 rfl rfl, mU_1 4 rfl rfl, by decide, by decide, by decide +kernel, by decide⟩
theorem ins_X2_greatestSet : INST Y_X2_greatestSet := ⟨mU_5 101 rfl rfl, mV_5 (n := 9) 0 rfl⟩
def k_X10_most_28 : List CI := (28, .ireturn, 1) :: []
def k_X10_most_27 : List CI := (27, .iload_n 2, 1) :: k_X10_most_28
def k_X10_most : List CI := (0, .aload_n 0, 1) :: (1, .iload_n 1, 1) :: (2, .invokevirtual 158, 3) :: (5, .aload_n 0, 1) :: (6, .getfield 27, 3) :: (9, .getfield 128, 3) :: (12, .invokevirtual 214, 3) :: (15, .istore_n 2, 1) :: (16, .iload_n 1, 1) :: (17, .ifCond .ne 10, 3) :: (20, .iload_n 2, 1) :: (21, .invokestatic 217, 3) :: (24, .goto 4, 3) :: k_X10_most_27
def Y_X10_most : MD := (yX10_most, cX10_most, 3, (some .int), k_X10_most)
theorem cok_X10_most : COK Y_X10_most.2.1 Y_X10_most.code = true := by decide +kernel
theorem mok_X10_most : MOK Y_X10_most 1 := ⟨mU_5 98 rfl rfl, mU_1 1 rfl rfl, by decide, by decide, by decide +kernel, by decide⟩
theorem ins_X10_most : INST Y_X10_most := ⟨mU_5 96 rfl rfl, mU_5 97 rfl rfl⟩
def k_X10_count_81 : List CI := (81, .iload_n 2, 1) :: (82, .ireturn, 1) :: []
def k_X10_count_23 : List CI := (23, .iload_n 3, 1) :: (24, .aload_n 0, 1) :: (25, .getfield 27, 3) :: (28, .getfield 149, 3) :: (31, .if_icmp .ge 50, 3) :: (34, .aload_n 0, 1) :: (35, .getfield 27, 3) :: (38, .getfield 128, 3) :: (41, .iload_n 3, 1) :: (42, .invokevirtual 222, 3) :: (45, .iload_n 2, 1) :: (46, .aload_n 0, 1) :: (47, .getfield 27, 3) :: (50, .getfield 128, 3) :: (53, .iload_n 1, 1) :: (54, .invokevirtual 225, 3) :: (57, .aload_n 0, 1) :: (58, .getfield 27, 3) :: (61, .getfield 149, 3) :: (64, .iload_n 3, 1) :: (65, .isub, 1) :: (66, .invokestatic 229, 3) :: (69, .land, 1) :: (70, .invokestatic 232, 3) :: (73, .iadd, 1) :: (74, .istore_n 2, 1) :: (75, .iinc 3 64, 3) :: (78, .goto (-55), 3) :: k_X10_count_81
def k_X10_count_16 : List CI := (16, .invokevirtual 101, 3) :: (19, .iconst 0, 1) :: (20, .istore_n 2, 1) :: (21, .iconst 0, 1) :: (22, .istore_n 3, 1) :: k_X10_count_23
def k_X10_count_15 : List CI := (15, .iconst 0, 1) :: k_X10_count_16
def k_X10_count : List CI := (0, .aload_n 0, 1) :: (1, .iload_n 1, 1) :: (2, .ifCond .lt 13, 3) :: (5, .iload_n 1, 1) :: (6, .bipush 12, 2) :: (8, .if_icmp .gt 7, 3) :: (11, .iconst 1, 1) :: (12, .goto 4, 3) :: k_X10_count_15
def Y_X10_count : MD := (yX10_count, cX10_count, 4, (some .int), k_X10_count)
theorem cok_X10_count : COK Y_X10_count.2.1 Y_X10_count.code = true := by decide +kernel
theorem mok_X10_count : MOK Y_X10_count 1 := ⟨mU_5 121 rfl rfl, mU_1 1 rfl rfl, by decide, by decide, by decide +kernel, by decide⟩
theorem ins_X10_count : INST Y_X10_count := ⟨mU_5 119 rfl rfl, mU_5 120 rfl rfl⟩
def k_X1_bar : List CI := (0, .aload_n 0, 1) :: (1, .iload_n 1, 1) :: (2, .putfield 23, 3) :: (5, .aload_n 0, 1) :: (6, .iload_n 2, 1) :: (7, .putfield 26, 3) :: (10, .aload_n 0, 1) :: (11, .aload_n 0, 1) :: (12, .getfield 19, 3) :: (15, .getfield 29, 3) :: (18, .iload_n 2, 1) :: (19, .aload_n 0, 1) :: (20, .getfield 19, 3) :: (23, .getfield 35, 3) :: (26, .iload_n 1, 1) :: (27, .iconst 1, 1) :: (28, .invokevirtual 38, 3) :: (31, .invokevirtual 38, 3) :: (34, .putfield 15, 3) :: (37, .return_, 1) :: []
def Y_X1_bar : MD := (yX1_bar, cX1_bar, 3, none, k_X1_bar)
theorem cok_X1_bar : COK Y_X1_bar.2.1 Y_X1_bar.code = true := by decide +kernel
theorem mok_X1_bar : MOK Y_X1_bar 2 := ⟨mU_5 135 rfl rfl, mU_1 7 rfl rfl, by decide, by decide, by decide +kernel, by decide⟩
theorem ins_X1_bar : INST Y_X1_bar := ⟨mU_5 134 rfl rfl, mV_5 (n := 8) 2 rfl⟩
def k_X2_someHeldFrom_59 : List CI := (59, .lload_n 3, 1) :: (60, .lreturn, 1) :: []
def k_X2_someHeldFrom_53 : List CI := (53, .iinc 5 1, 3) :: (56, .goto (-51), 3) :: k_X2_someHeldFrom_59
def k_X2_someHeldFrom_5 : List CI := (5, .iload 5, 2) :: (7, .aload_n 0, 1) :: (8, .getfield 31, 3) :: (11, .if_icmp .ge 48, 3) :: (14, .iload 5, 2) :: (16, .iload_n 1, 1) :: (17, .invokestatic 61, 3) :: (20, .ifCond .eq 33, 3) :: (23, .lload_n 3, 1) :: (24, .aload_n 0, 1) :: (25, .getfield 24, 3) :: (28, .iload 5, 2) :: (30, .laload, 1) :: (31, .aload_n 0, 1) :: (32, .getfield 21, 3) :: (35, .iload 5, 2) :: (37, .iaload, 1) :: (38, .iload_n 2, 1) :: (39, .isub, 1) :: (40, .aload_n 0, 1) :: (41, .getfield 15, 3) :: (44, .iload 5, 2) :: (46, .iaload, 1) :: (47, .invokestatic 54, 3) :: (50, .lshl, 1) :: (51, .lor, 1) :: (52, .lstore_n 3, 1) :: k_X2_someHeldFrom_53
def k_X2_someHeldFrom : List CI := (0, .lconst 0, 1) :: (1, .lstore_n 3, 1) :: (2, .iconst 0, 1) :: (3, .istore 5, 2) :: k_X2_someHeldFrom_5
def Y_X2_someHeldFrom : MD := (yX2_someHeldFrom, cX2_someHeldFrom, 6, (some .long), k_X2_someHeldFrom)
theorem cok_X2_someHeldFrom : COK Y_X2_someHeldFrom.2.1 Y_X2_someHeldFrom.code = true := by decide +kernel
theorem mok_X2_someHeldFrom : MOK Y_X2_someHeldFrom 2 := ⟨mU_5 154 rfl rfl, mU_1 4 rfl rfl, by decide, by decide, by decide +kernel, by decide⟩
theorem ins_X2_someHeldFrom : INST Y_X2_someHeldFrom := ⟨mU_5 153 rfl rfl, mV_5 (n := 9) 5 rfl⟩
def k_X1_daysFrom : List CI := (0, .aload_n 0, 1) :: (1, .getfield 19, 3) :: (4, .getfield 35, 3) :: (7, .aload_n 0, 1) :: (8, .getfield 23, 3) :: (11, .iload_n 1, 1) :: (12, .invokevirtual 44, 3) :: (15, .aload_n 0, 1) :: (16, .getfield 19, 3) :: (19, .getfield 29, 3) :: (22, .aload_n 0, 1) :: (23, .getfield 26, 3) :: (26, .iload_n 1, 1) :: (27, .invokevirtual 44, 3) :: (30, .lor, 1) :: (31, .ldc2_w 48, 3) :: (34, .lxor, 1) :: (35, .lreturn, 1) :: []
def Y_X1_daysFrom : MD := (yX1_daysFrom, cX1_daysFrom, 2, (some .long), k_X1_daysFrom)
theorem cok_X1_daysFrom : COK Y_X1_daysFrom.2.1 Y_X1_daysFrom.code = true := by decide +kernel
theorem mok_X1_daysFrom : MOK Y_X1_daysFrom 1 := ⟨mU_5 150 rfl rfl, mU_1 7 rfl rfl, by decide, by decide, by decide +kernel, by decide⟩
theorem ins_X1_daysFrom : INST Y_X1_daysFrom := ⟨mU_5 149 rfl rfl, mV_5 (n := 8) 4 rfl⟩
def k_X1_firstRow_191 : List CI := (191, .iconst (-1), 1) :: (192, .ireturn, 1) :: []
def k_X1_firstRow_177 : List CI := (177, .iload 6, 2) :: (179, .iload 5, 2) :: (181, .iconst 1, 1) :: (182, .invokestatic 79, 3) :: (185, .iadd, 1) :: (186, .istore 6, 2) :: (188, .goto (-155), 3) :: k_X1_firstRow_191
def k_X1_firstRow_168 : List CI := (168, .iconst 0, 1) :: (169, .istore 9, 2) :: (171, .iinc 11 1, 3) :: (174, .goto (-93), 3) :: k_X1_firstRow_177
def k_X1_firstRow_127 : List CI := (127, .iload 9, 2) :: (129, .iload 12, 2) :: (131, .iadd, 1) :: (132, .istore 4, 2) :: (134, .iload 10, 2) :: (136, .iload 12, 2) :: (138, .iadd, 1) :: (139, .istore 10, 2) :: (141, .iload 10, 2) :: (143, .iload 5, 2) :: (145, .if_icmp .ge 23, 3) :: (148, .iload 10, 2) :: (150, .lload 7, 2) :: (152, .iload 10, 2) :: (154, .lushr, 1) :: (155, .invokestatic 94, 3) :: (158, .iconst 1, 1) :: (159, .invokestatic 79, 3) :: (162, .iadd, 1) :: (163, .istore 10, 2) :: (165, .iconst 0, 1) :: (166, .istore 4, 2) :: k_X1_firstRow_168
def k_X1_firstRow_81 : List CI := (81, .iload 11, 2) :: (83, .bipush 64, 2) :: (85, .if_icmp .ge 92, 3) :: (88, .iload 10, 2) :: (90, .iload 5, 2) :: (92, .if_icmp .ge 85, 3) :: (95, .lload 7, 2) :: (97, .iload 10, 2) :: (99, .lushr, 1) :: (100, .ldc2_w 48, 3) :: (103, .lxor, 1) :: (104, .invokestatic 94, 3) :: (107, .istore 12, 2) :: (109, .iload 9, 2) :: (111, .iload 12, 2) :: (113, .iadd, 1) :: (114, .iload_n 2, 1) :: (115, .if_icmp .lt 12, 3) :: (118, .iload 6, 2) :: (120, .iload 10, 2) :: (122, .iadd, 1) :: (123, .iload 9, 2) :: (125, .isub, 1) :: (126, .ireturn, 1) :: k_X1_firstRow_127
def k_X1_firstRow_33 : List CI := (33, .iload 6, 2) :: (35, .iload_n 3, 1) :: (36, .if_icmp .gt 155, 3) :: (39, .aload_n 0, 1) :: (40, .getfield 19, 3) :: (43, .iload 6, 2) :: (45, .invokevirtual 55, 3) :: (48, .istore 5, 2) :: (50, .aload_n 0, 1) :: (51, .aload_n 0, 1) :: (52, .getfield 19, 3) :: (55, .iload 6, 2) :: (57, .invokevirtual 59, 3) :: (60, .invokevirtual 62, 3) :: (63, .iload 5, 2) :: (65, .invokestatic 66, 3) :: (68, .land, 1) :: (69, .lstore 7, 2) :: (71, .iload 4, 2) :: (73, .istore 9, 2) :: (75, .iconst 0, 1) :: (76, .istore 10, 2) :: (78, .iconst 0, 1) :: (79, .istore 11, 2) :: k_X1_firstRow_81
def k_X1_firstRow : List CI := (0, .iload_n 1, 1) :: (1, .aload_n 0, 1) :: (2, .getfield 19, 3) :: (5, .invokevirtual 100, 3) :: (8, .invokestatic 79, 3) :: (11, .aload_n 0, 1) :: (12, .getfield 15, 3) :: (15, .iadd, 1) :: (16, .iload_n 2, 1) :: (17, .iadd, 1) :: (18, .ldc 54, 2) :: (20, .invokestatic 103, 3) :: (23, .istore_n 3, 1) :: (24, .iconst 0, 1) :: (25, .istore 4, 2) :: (27, .iconst 1, 1) :: (28, .istore 5, 2) :: (30, .iload_n 1, 1) :: (31, .istore 6, 2) :: k_X1_firstRow_33
def Y_X1_firstRow : MD := (yX1_firstRow, cX1_firstRow, 13, (some .int), k_X1_firstRow)
theorem cok_X1_firstRow : COK Y_X1_firstRow.2.1 Y_X1_firstRow.code = true := by decide +kernel
theorem mok_X1_firstRow : MOK Y_X1_firstRow 2 := ⟨mU_5 140 rfl rfl, mU_1 7 rfl rfl, by decide, by decide, by decide +kernel, by decide⟩
theorem ins_X1_firstRow : INST Y_X1_firstRow := ⟨mU_5 139 rfl rfl, mV_5 (n := 8) 3 rfl⟩
def k_X10_row_22 : List CI := (22, .invokevirtual 101, 3) :: (25, .aload_n 0, 1) :: (26, .getfield 63, 3) :: (29, .aload_n 0, 1) :: (30, .getfield 27, 3) :: (33, .getfield 128, 3) :: (36, .getfield 132, 3) :: (39, .invokestatic 237, 3) :: (42, .iconst 0, 1) :: (43, .invokevirtual 240, 3) :: (46, .aload_n 0, 1) :: (47, .getfield 63, 3) :: (50, .iload_n 1, 1) :: (51, .iload_n 2, 1) :: (52, .invokevirtual 244, 3) :: (55, .ireturn, 1) :: []
def k_X10_row_21 : List CI := (21, .iconst 0, 1) :: k_X10_row_22
def k_X10_row : List CI := (0, .aload_n 0, 1) :: (1, .iload_n 1, 1) :: (2, .invokevirtual 182, 3) :: (5, .aload_n 0, 1) :: (6, .iload_n 2, 1) :: (7, .iconst 1, 1) :: (8, .if_icmp .lt 13, 3) :: (11, .iload_n 2, 1) :: (12, .bipush 99, 2) :: (14, .if_icmp .gt 7, 3) :: (17, .iconst 1, 1) :: (18, .goto 4, 3) :: k_X10_row_21
def Y_X10_row : MD := (yX10_row, cX10_row, 3, (some .int), k_X10_row)
theorem cok_X10_row : COK Y_X10_row.2.1 Y_X10_row.code = true := by decide +kernel
theorem mok_X10_row : MOK Y_X10_row 2 := ⟨mU_5 131 rfl rfl, mU_1 1 rfl rfl, by decide, by decide, by decide +kernel, by decide⟩
theorem ins_X10_row : INST Y_X10_row := ⟨mU_5 129 rfl rfl, mU_5 130 rfl rfl⟩
def k_X2_noneMeets_16 : List CI := (16, .ireturn, 1) :: []
def k_X2_noneMeets_15 : List CI := (15, .iconst 0, 1) :: k_X2_noneMeets_16
def k_X2_noneMeets : List CI := (0, .iload_n 1, 1) :: (1, .aload_n 0, 1) :: (2, .iload_n 2, 1) :: (3, .iload_n 3, 1) :: (4, .invokevirtual 47, 3) :: (7, .iand, 1) :: (8, .ifCond .ne 7, 3) :: (11, .iconst 1, 1) :: (12, .goto 4, 3) :: k_X2_noneMeets_15
def Y_X2_noneMeets : MD := (yX2_noneMeets, cX2_noneMeets, 4, (some .boolean), k_X2_noneMeets)
theorem cok_X2_noneMeets : COK Y_X2_noneMeets.2.1 Y_X2_noneMeets.code = true := by decide +kernel
theorem mok_X2_noneMeets : MOK Y_X2_noneMeets 3 := ⟨mU_5 173 rfl rfl, mU_1 4 rfl rfl, by decide, by decide, by decide +kernel, by decide⟩
theorem ins_X2_noneMeets : INST Y_X2_noneMeets := ⟨mU_5 172 rfl rfl, mV_5 (n := 9) 6 rfl⟩
def k_X10_isWeek_21 : List CI := (21, .ireturn, 1) :: []
def k_X10_isWeek_20 : List CI := (20, .iconst 0, 1) :: k_X10_isWeek_21
def k_X10_isWeek : List CI := (0, .lload_n 0, 1) :: (1, .ldc2_w 408, 3) :: (4, .lcmp, 1) :: (5, .ifCond .lt 15, 3) :: (8, .lload_n 0, 1) :: (9, .ldc2_w 410, 3) :: (12, .lcmp, 1) :: (13, .ifCond .gt 7, 3) :: (16, .iconst 1, 1) :: (17, .goto 4, 3) :: k_X10_isWeek_20
def Y_X10_isWeek : MD := (yX10_isWeek, cX10_isWeek, 2, (some .boolean), k_X10_isWeek)
theorem cok_X10_isWeek : COK Y_X10_isWeek.2.1 Y_X10_isWeek.code = true := by decide +kernel
theorem mok_X10_isWeek : MOK Y_X10_isWeek 1 := ⟨mU_5 167 rfl rfl, mU_1 1 rfl rfl, by decide, by decide, by decide +kernel, by decide⟩
theorem sta_X10_isWeek : STAT Y_X10_isWeek := mU_5 166 rfl rfl
def k_X10_free_132 : List CI := (132, .ireturn, 1) :: []
def k_X10_free_130 : List CI := (130, .iload 5, 2) :: k_X10_free_132
def k_X10_free_121 : List CI := (121, .iload_n 3, 1) :: (122, .ifCond .ne 8, 3) :: (125, .iload 4, 2) :: (127, .goto 5, 3) :: k_X10_free_130
def k_X10_free_115 : List CI := (115, .iinc 6 1, 3) :: (118, .goto (-78), 3) :: k_X10_free_121
def k_X10_free_109 : List CI := (109, .iinc 7 1, 3) :: (112, .goto (-62), 3) :: k_X10_free_115
def k_X10_free_107 : List CI := (107, .istore 5, 2) :: k_X10_free_109
def k_X10_free_105 : List CI := (105, .iload 5, 2) :: k_X10_free_107
def k_X10_free_67 : List CI := (67, .aload_n 0, 1) :: (68, .getfield 27, 3) :: (71, .getfield 128, 3) :: (74, .iload_n 1, 1) :: (75, .iload 6, 2) :: (77, .iload 7, 2) :: (79, .invokevirtual 251, 3) :: (82, .ifCond .eq 27, 3) :: (85, .iinc 4 1, 3) :: (88, .iload 5, 2) :: (90, .iconst (-1), 1) :: (91, .if_icmp .ne 14, 3) :: (94, .bipush 100, 2) :: (96, .iload 6, 2) :: (98, .imul, 1) :: (99, .iload 7, 2) :: (101, .iadd, 1) :: (102, .goto 5, 3) :: k_X10_free_105
def k_X10_free_50 : List CI := (50, .iload 7, 2) :: (52, .iload 6, 2) :: (54, .if_icmp .ge 61, 3) :: (57, .iload_n 2, 1) :: (58, .ifCond .eq 9, 3) :: (61, .iload_n 2, 1) :: (62, .iload 6, 2) :: (64, .if_icmp .ne 51, 3) :: k_X10_free_67
def k_X10_free_40 : List CI := (40, .iload 6, 2) :: (42, .bipush 24, 2) :: (44, .if_icmp .gt 77, 3) :: (47, .iconst 0, 1) :: (48, .istore 7, 2) :: k_X10_free_50
def k_X10_free_23 : List CI := (23, .invokevirtual 101, 3) :: (26, .aload_n 0, 1) :: (27, .iload_n 3, 1) :: (28, .invokevirtual 158, 3) :: (31, .iconst 0, 1) :: (32, .istore 4, 2) :: (34, .iconst (-1), 1) :: (35, .istore 5, 2) :: (37, .iconst 2, 1) :: (38, .istore 6, 2) :: k_X10_free_40
def k_X10_free_22 : List CI := (22, .iconst 0, 1) :: k_X10_free_23
def k_X10_free_18 : List CI := (18, .iconst 1, 1) :: (19, .goto 4, 3) :: k_X10_free_22
def k_X10_free : List CI := (0, .aload_n 0, 1) :: (1, .iload_n 1, 1) :: (2, .invokevirtual 201, 3) :: (5, .aload_n 0, 1) :: (6, .iload_n 2, 1) :: (7, .ifCond .eq 11, 3) :: (10, .iload_n 2, 1) :: (11, .i2l, 1) :: (12, .invokestatic 247, 3) :: (15, .ifCond .eq 7, 3) :: k_X10_free_18
def Y_X10_free : MD := (yX10_free, cX10_free, 8, (some .int), k_X10_free)
theorem cok_X10_free : COK Y_X10_free.2.1 Y_X10_free.code = true := by decide +kernel
theorem mok_X10_free : MOK Y_X10_free 3 := ⟨mU_5 164 rfl rfl, mU_1 1 rfl rfl, by decide, by decide, by decide +kernel, by decide⟩
theorem ins_X10_free : INST Y_X10_free := ⟨mU_5 162 rfl rfl, mU_5 163 rfl rfl⟩
def k_X1_countMeetings_123 : List CI := (123, .return_, 1) :: []
def k_X1_countMeetings_117 : List CI := (117, .iinc 4 64, 3) :: (120, .goto (-85), 3) :: k_X1_countMeetings_123
def k_X1_countMeetings_70 : List CI := (70, .iload 7, 2) :: (72, .iload_n 1, 1) :: (73, .if_icmp .ge 44, 3) :: (76, .iload 7, 2) :: (78, .aload_n 0, 1) :: (79, .getfield 9, 3) :: (82, .arraylength, 1) :: (83, .if_icmp .ge 34, 3) :: (86, .aload_n 0, 1) :: (87, .getfield 9, 3) :: (90, .iload 7, 2) :: (92, .dup2, 1) :: (93, .iaload, 1) :: (94, .lload 5, 2) :: (96, .iload 7, 2) :: (98, .iload_n 1, 1) :: (99, .lload_n 2, 1) :: (100, .iload 4, 2) :: (102, .invokestatic 118, 3) :: (105, .land, 1) :: (106, .invokestatic 69, 3) :: (109, .iadd, 1) :: (110, .iastore, 1) :: (111, .iinc 7 1, 3) :: (114, .goto (-44), 3) :: k_X1_countMeetings_117
def k_X1_countMeetings_35 : List CI := (35, .iload 4, 2) :: (37, .aload_n 0, 1) :: (38, .getfield 15, 3) :: (41, .if_icmp .ge 82, 3) :: (44, .aload_n 0, 1) :: (45, .iload 4, 2) :: (47, .invokevirtual 62, 3) :: (50, .ldc2_w 48, 3) :: (53, .lxor, 1) :: (54, .aload_n 0, 1) :: (55, .getfield 15, 3) :: (58, .iload 4, 2) :: (60, .isub, 1) :: (61, .invokestatic 66, 3) :: (64, .land, 1) :: (65, .lstore 5, 2) :: (67, .iconst 0, 1) :: (68, .istore 7, 2) :: k_X1_countMeetings_70
def k_X1_countMeetings_32 : List CI := (32, .iconst 0, 1) :: (33, .istore 4, 2) :: k_X1_countMeetings_35
def k_X1_countMeetings_8 : List CI := (8, .iload 4, 2) :: (10, .aload_n 0, 1) :: (11, .getfield 9, 3) :: (14, .arraylength, 1) :: (15, .if_icmp .ge 17, 3) :: (18, .aload_n 0, 1) :: (19, .getfield 9, 3) :: (22, .iload 4, 2) :: (24, .iconst 0, 1) :: (25, .iastore, 1) :: (26, .iinc 4 1, 3) :: (29, .goto (-21), 3) :: k_X1_countMeetings_32
def k_X1_countMeetings : List CI := (0, .iload_n 1, 1) :: (1, .invokestatic 115, 3) :: (4, .lstore_n 2, 1) :: (5, .iconst 0, 1) :: (6, .istore 4, 2) :: k_X1_countMeetings_8
def Y_X1_countMeetings : MD := (yX1_countMeetings, cX1_countMeetings, 8, none, k_X1_countMeetings)
theorem cok_X1_countMeetings : COK Y_X1_countMeetings.2.1 Y_X1_countMeetings.code = true := by decide +kernel
theorem mok_X1_countMeetings : MOK Y_X1_countMeetings 1 := ⟨mU_5 190 rfl rfl, mU_1 7 rfl rfl, by decide, by decide, by decide +kernel, by decide⟩
theorem ins_X1_countMeetings : INST Y_X1_countMeetings := ⟨mU_5 189 rfl rfl, mV_5 (n := 8) 8 rfl⟩
def k_X1_mostBarredLaw_132 : List CI := (132, .iload_n 1, 1) :: (133, .ireturn, 1) :: []
def k_X1_mostBarredLaw_126 : List CI := (126, .iinc 6 1, 3) :: (129, .goto (-115), 3) :: k_X1_mostBarredLaw_132
def k_X1_mostBarredLaw_120 : List CI := (120, .iinc 8 1, 3) :: (123, .goto (-65), 3) :: k_X1_mostBarredLaw_126
def k_X1_mostBarredLaw_58 : List CI := (58, .iload 8, 2) :: (60, .iload 7, 2) :: (62, .if_icmp .ge 64, 3) :: (65, .iload 8, 2) :: (67, .aload_n 0, 1) :: (68, .getfield 9, 3) :: (71, .arraylength, 1) :: (72, .if_icmp .ge 54, 3) :: (75, .iload 7, 2) :: (77, .i2l, 1) :: (78, .aload_n 0, 1) :: (79, .getfield 9, 3) :: (82, .iload 8, 2) :: (84, .iaload, 1) :: (85, .i2l, 1) :: (86, .lmul, 1) :: (87, .lstore 9, 2) :: (89, .lload 9, 2) :: (91, .lload 4, 2) :: (93, .lmul, 1) :: (94, .lload_n 2, 1) :: (95, .iload 6, 2) :: (97, .i2l, 1) :: (98, .lmul, 1) :: (99, .lcmp, 1) :: (100, .ifCond .le 20, 3) :: (103, .bipush 100, 2) :: (105, .iload 6, 2) :: (107, .imul, 1) :: (108, .iload 8, 2) :: (110, .iadd, 1) :: (111, .istore_n 1, 1) :: (112, .lload 9, 2) :: (114, .lstore_n 2, 1) :: (115, .iload 6, 2) :: (117, .i2l, 1) :: (118, .lstore 4, 2) :: k_X1_mostBarredLaw_120
def k_X1_mostBarredLaw_14 : List CI := (14, .iload 6, 2) :: (16, .bipush 24, 2) :: (18, .if_icmp .gt 114, 3) :: (21, .lload_n 2, 1) :: (22, .iload 6, 2) :: (24, .i2l, 1) :: (25, .lmul, 1) :: (26, .aload_n 0, 1) :: (27, .getfield 15, 3) :: (30, .i2l, 1) :: (31, .lload 4, 2) :: (33, .lmul, 1) :: (34, .lcmp, 1) :: (35, .ifCond .ge 97, 3) :: (38, .aload_n 0, 1) :: (39, .getfield 15, 3) :: (42, .iload 6, 2) :: (44, .invokestatic 108, 3) :: (47, .istore 7, 2) :: (49, .aload_n 0, 1) :: (50, .iload 7, 2) :: (52, .invokevirtual 111, 3) :: (55, .iconst 0, 1) :: (56, .istore 8, 2) :: k_X1_mostBarredLaw_58
def k_X1_mostBarredLaw : List CI := (0, .sipush 200, 3) :: (3, .istore_n 1, 1) :: (4, .lconst 0, 1) :: (5, .lstore_n 2, 1) :: (6, .ldc2_w 106, 3) :: (9, .lstore 4, 2) :: (11, .iconst 2, 1) :: (12, .istore 6, 2) :: k_X1_mostBarredLaw_14
def Y_X1_mostBarredLaw : MD := (yX1_mostBarredLaw, cX1_mostBarredLaw, 11, (some .int), k_X1_mostBarredLaw)
theorem cok_X1_mostBarredLaw : COK Y_X1_mostBarredLaw.2.1 Y_X1_mostBarredLaw.code = true := by decide +kernel
theorem mok_X1_mostBarredLaw : MOK Y_X1_mostBarredLaw 0 := ⟨mU_5 184 rfl rfl, mU_1 7 rfl rfl, by decide, by decide, by decide +kernel, by decide⟩
theorem ins_X1_mostBarredLaw : INST Y_X1_mostBarredLaw := ⟨mU_5 183 rfl rfl, mV_5 (n := 8) 7 rfl⟩
def k_X10_meeting : List CI := (0, .aload_n 0, 1) :: (1, .iload_n 1, 1) :: (2, .invokevirtual 201, 3) :: (5, .aload_n 0, 1) :: (6, .getfield 63, 3) :: (9, .iload_n 1, 1) :: (10, .iconst 0, 1) :: (11, .invokevirtual 240, 3) :: (14, .aload_n 0, 1) :: (15, .getfield 63, 3) :: (18, .invokevirtual 255, 3) :: (21, .ireturn, 1) :: []
def Y_X10_meeting : MD := (yX10_meeting, cX10_meeting, 2, (some .int), k_X10_meeting)
theorem cok_X10_meeting : COK Y_X10_meeting.2.1 Y_X10_meeting.code = true := by decide +kernel
theorem mok_X10_meeting : MOK Y_X10_meeting 1 := ⟨mU_5 180 rfl rfl, mU_1 1 rfl rfl, by decide, by decide, by decide +kernel, by decide⟩
theorem ins_X10_meeting : INST Y_X10_meeting := ⟨mU_5 178 rfl rfl, mU_5 179 rfl rfl⟩
def k_J9_max_f86c9_11 : List CI := (11, .lreturn, 1) :: []
def k_J9_max_f86c9_10 : List CI := (10, .lload_n 2, 1) :: k_J9_max_f86c9_11
def k_J9_max_f86c9 : List CI := (0, .lload_n 0, 1) :: (1, .lload_n 2, 1) :: (2, .lcmp, 1) :: (3, .ifCond .lt 7, 3) :: (6, .lload_n 0, 1) :: (7, .goto 4, 3) :: k_J9_max_f86c9_10
def Y_J9_max_f86c9 : MD := (yJ9_max_f86c9, cJ9_max_f86c9, 4, (some .long), k_J9_max_f86c9)
theorem cok_J9_max_f86c9 : COK Y_J9_max_f86c9.2.1 Y_J9_max_f86c9.code = true := by decide +kernel
theorem mok_J9_max_f86c9 : MOK Y_J9_max_f86c9 2 := ⟨mU_5 208 rfl rfl, mU_1 5 rfl rfl, by decide, by decide, by decide +kernel, by decide⟩
theorem sta_J9_max_f86c9 : STAT Y_J9_max_f86c9 := mU_5 207 rfl rfl
def k_X6_take_122 : List CI := (122, .iconst 1, 1) :: (123, .ireturn, 1) :: []
def k_X6_take_106 : List CI := (106, .aload_n 0, 1) :: (107, .getfield 11, 3) :: (110, .iload 5, 2) :: (112, .lload 6, 2) :: (114, .l2i, 1) :: (115, .iastore, 1) :: (116, .iinc 5 1, 3) :: (119, .goto (-51), 3) :: k_X6_take_122
def k_X6_take_68 : List CI := (68, .iload 5, 2) :: (70, .aload_n 0, 1) :: (71, .getfield 21, 3) :: (74, .if_icmp .ge 48, 3) :: (77, .lload_n 3, 1) :: (78, .ldc2_w 25, 3) :: (81, .ldiv, 1) :: (82, .lconst 1, 1) :: (83, .invokestatic 27, 3) :: (86, .lstore_n 3, 1) :: (87, .lload_n 1, 1) :: (88, .lload_n 3, 1) :: (89, .ldiv, 1) :: (90, .ldc2_w 25, 3) :: (93, .lrem, 1) :: (94, .lstore 6, 2) :: (96, .lload 6, 2) :: (98, .invokestatic 33, 3) :: (101, .ifCond .ne 5, 3) :: (104, .iconst 0, 1) :: (105, .ireturn, 1) :: k_X6_take_106
def k_X6_take_65 : List CI := (65, .iconst 0, 1) :: (66, .istore 5, 2) :: k_X6_take_68
def k_X6_take_63 : List CI := (63, .iconst 0, 1) :: (64, .ireturn, 1) :: k_X6_take_65
def k_X6_take_47 : List CI := (47, .lload_n 1, 1) :: (48, .lload_n 3, 1) :: (49, .ldiv, 1) :: (50, .lconst 0, 1) :: (51, .lcmp, 1) :: (52, .ifCond .ne 11, 3) :: (55, .aload_n 0, 1) :: (56, .getfield 21, 3) :: (59, .iconst 2, 1) :: (60, .if_icmp .ge 5, 3) :: k_X6_take_63
def k_X6_take_10 : List CI := (10, .iload 5, 2) :: (12, .bipush 6, 2) :: (14, .if_icmp .ge 33, 3) :: (17, .lload_n 1, 1) :: (18, .lload_n 3, 1) :: (19, .ldiv, 1) :: (20, .lconst 0, 1) :: (21, .lcmp, 1) :: (22, .ifCond .le 25, 3) :: (25, .lload_n 3, 1) :: (26, .ldc2_w 25, 3) :: (29, .lmul, 1) :: (30, .lstore_n 3, 1) :: (31, .aload_n 0, 1) :: (32, .dup, 1) :: (33, .getfield 21, 3) :: (36, .iconst 1, 1) :: (37, .iadd, 1) :: (38, .putfield 21, 3) :: (41, .iinc 5 1, 3) :: (44, .goto (-34), 3) :: k_X6_take_47
def k_X6_take : List CI := (0, .aload_n 0, 1) :: (1, .iconst 0, 1) :: (2, .putfield 21, 3) :: (5, .lconst 1, 1) :: (6, .lstore_n 3, 1) :: (7, .iconst 0, 1) :: (8, .istore 5, 2) :: k_X6_take_10
def Y_X6_take : MD := (yX6_take, cX6_take, 8, (some .boolean), k_X6_take)
theorem cok_X6_take : COK Y_X6_take.2.1 Y_X6_take.code = true := by decide +kernel
theorem mok_X6_take : MOK Y_X6_take 1 := ⟨mU_5 204 rfl rfl, mU_1 12 rfl rfl, by decide, by decide, by decide +kernel, by decide⟩
theorem ins_X6_take : INST Y_X6_take := ⟨mU_5 203 rfl rfl, mV_5 (n := 4) 9 rfl⟩
def k_X6_leastDay_41 : List CI := (41, .iload_n 2, 1) :: (42, .ireturn, 1) :: []
def k_X6_leastDay_34 : List CI := (34, .istore_n 2, 1) :: (35, .iinc 3 1, 3) :: (38, .goto (-34), 3) :: k_X6_leastDay_41
def k_X6_leastDay_33 : List CI := (33, .iload_n 2, 1) :: k_X6_leastDay_34
def k_X6_leastDay_4 : List CI := (4, .iload_n 3, 1) :: (5, .iload_n 1, 1) :: (6, .if_icmp .ge 35, 3) :: (9, .aload_n 0, 1) :: (10, .getfield 11, 3) :: (13, .iload_n 3, 1) :: (14, .iaload, 1) :: (15, .aload_n 0, 1) :: (16, .getfield 11, 3) :: (19, .iload_n 1, 1) :: (20, .iaload, 1) :: (21, .if_icmp .ne 12, 3) :: (24, .aload_n 0, 1) :: (25, .getfield 15, 3) :: (28, .iload_n 3, 1) :: (29, .iaload, 1) :: (30, .goto 4, 3) :: k_X6_leastDay_33
def k_X6_leastDay : List CI := (0, .iconst 0, 1) :: (1, .istore_n 2, 1) :: (2, .iconst 0, 1) :: (3, .istore_n 3, 1) :: k_X6_leastDay_4
def Y_X6_leastDay : MD := (yX6_leastDay, cX6_leastDay, 4, (some .int), k_X6_leastDay)
theorem cok_X6_leastDay : COK Y_X6_leastDay.2.1 Y_X6_leastDay.code = true := by decide +kernel
theorem mok_X6_leastDay : MOK Y_X6_leastDay 1 := ⟨mU_5 222 rfl rfl, mU_1 12 rfl rfl, by decide, by decide, by decide +kernel, by decide⟩
theorem ins_X6_leastDay : INST Y_X6_leastDay := ⟨mU_5 221 rfl rfl, mV_5 (n := 4) 12 rfl⟩
def k_X6_allMeet_42 : List CI := (42, .iconst 1, 1) :: (43, .ireturn, 1) :: []
def k_X6_allMeet_36 : List CI := (36, .iinc 2 1, 3) :: (39, .goto (-37), 3) :: k_X6_allMeet_42
def k_X6_allMeet_2 : List CI := (2, .iload_n 2, 1) :: (3, .bipush 6, 2) :: (5, .if_icmp .ge 37, 3) :: (8, .iload_n 2, 1) :: (9, .iload_n 1, 1) :: (10, .invokestatic 67, 3) :: (13, .ifCond .eq 23, 3) :: (16, .iload_n 1, 1) :: (17, .iload_n 2, 1) :: (18, .invokestatic 70, 3) :: (21, .iand, 1) :: (22, .aload_n 0, 1) :: (23, .getfield 18, 3) :: (26, .iload_n 2, 1) :: (27, .iaload, 1) :: (28, .iconst (-1), 1) :: (29, .ixor, 1) :: (30, .iand, 1) :: (31, .ifCond .eq 5, 3) :: (34, .iconst 0, 1) :: (35, .ireturn, 1) :: k_X6_allMeet_36
def k_X6_allMeet : List CI := (0, .iconst 0, 1) :: (1, .istore_n 2, 1) :: k_X6_allMeet_2
def Y_X6_allMeet : MD := (yX6_allMeet, cX6_allMeet, 3, (some .boolean), k_X6_allMeet)
theorem cok_X6_allMeet : COK Y_X6_allMeet.2.1 Y_X6_allMeet.code = true := by decide +kernel
theorem mok_X6_allMeet : MOK Y_X6_allMeet 1 := ⟨mU_5 232 rfl rfl, mU_1 12 rfl rfl, by decide, by decide, by decide +kernel, by decide⟩
theorem ins_X6_allMeet : INST Y_X6_allMeet := ⟨mU_5 231 rfl rfl, mV_5 (n := 4) 14 rfl⟩
def k_X6_meetsTooMany_119 : List CI := (119, .iconst 0, 1) :: (120, .ireturn, 1) :: []
def k_X6_meetsTooMany_113 : List CI := (113, .iinc 4 1, 3) :: (116, .goto (-38), 3) :: k_X6_meetsTooMany_119
def k_X6_meetsTooMany_78 : List CI := (78, .iload 4, 2) :: (80, .iload_n 3, 1) :: (81, .if_icmp .gt 38, 3) :: (84, .iload 4, 2) :: (86, .iload_n 3, 1) :: (87, .iconst (-1), 1) :: (88, .ixor, 1) :: (89, .iand, 1) :: (90, .ifCond .ne 23, 3) :: (93, .iload 4, 2) :: (95, .invokestatic 58, 3) :: (98, .iload_n 2, 1) :: (99, .if_icmp .ne 14, 3) :: (102, .aload_n 0, 1) :: (103, .iload 4, 2) :: (105, .invokevirtual 63, 3) :: (108, .ifCond .eq 5, 3) :: (111, .iconst 1, 1) :: (112, .ireturn, 1) :: k_X6_meetsTooMany_113
def k_X6_meetsTooMany_68 : List CI := (68, .aload_n 0, 1) :: (69, .getfield 18, 3) :: (72, .iload_n 1, 1) :: (73, .iload_n 3, 1) :: (74, .iastore, 1) :: (75, .iconst 0, 1) :: (76, .istore 4, 2) :: k_X6_meetsTooMany_78
def k_X6_meetsTooMany_60 : List CI := (60, .ior, 1) :: (61, .istore_n 3, 1) :: (62, .iinc 4 1, 3) :: (65, .goto (-60), 3) :: k_X6_meetsTooMany_68
def k_X6_meetsTooMany_59 : List CI := (59, .iconst 0, 1) :: k_X6_meetsTooMany_60
def k_X6_meetsTooMany_5 : List CI := (5, .iload 4, 2) :: (7, .iload_n 1, 1) :: (8, .if_icmp .ge 60, 3) :: (11, .aload_n 0, 1) :: (12, .getfield 11, 3) :: (15, .iload 4, 2) :: (17, .iaload, 1) :: (18, .aload_n 0, 1) :: (19, .getfield 11, 3) :: (22, .iload_n 1, 1) :: (23, .iaload, 1) :: (24, .invokestatic 43, 3) :: (27, .istore 5, 2) :: (29, .iload_n 3, 1) :: (30, .aload_n 0, 1) :: (31, .getfield 15, 3) :: (34, .iload 4, 2) :: (36, .iaload, 1) :: (37, .aload_n 0, 1) :: (38, .getfield 15, 3) :: (41, .iload_n 1, 1) :: (42, .iaload, 1) :: (43, .isub, 1) :: (44, .iload 5, 2) :: (46, .invokestatic 55, 3) :: (49, .ifCond .ne 10, 3) :: (52, .iconst 1, 1) :: (53, .iload 4, 2) :: (55, .ishl, 1) :: (56, .goto 4, 3) :: k_X6_meetsTooMany_59
def k_X6_meetsTooMany : List CI := (0, .iconst 0, 1) :: (1, .istore_n 3, 1) :: (2, .iconst 0, 1) :: (3, .istore 4, 2) :: k_X6_meetsTooMany_5
def Y_X6_meetsTooMany : MD := (yX6_meetsTooMany, cX6_meetsTooMany, 6, (some .boolean), k_X6_meetsTooMany)
theorem cok_X6_meetsTooMany : COK Y_X6_meetsTooMany.2.1 Y_X6_meetsTooMany.code = true := by decide +kernel
theorem mok_X6_meetsTooMany : MOK Y_X6_meetsTooMany 2 := ⟨mU_5 226 rfl rfl, mU_1 12 rfl rfl, by decide, by decide, by decide +kernel, by decide⟩
theorem ins_X6_meetsTooMany : INST Y_X6_meetsTooMany := ⟨mU_5 225 rfl rfl, mV_5 (n := 4) 13 rfl⟩
def k_X6_isSet_103 : List CI := (103, .iconst 0, 1) :: (104, .ireturn, 1) :: []
def k_X6_isSet_97 : List CI := (97, .iinc 6 1, 3) :: (100, .goto (-42), 3) :: k_X6_isSet_103
def k_X6_isSet_58 : List CI := (58, .iload 6, 2) :: (60, .iload 4, 2) :: (62, .if_icmp .ge 41, 3) :: (65, .aload_n 0, 1) :: (66, .getfield 15, 3) :: (69, .iload_n 1, 1) :: (70, .iload 6, 2) :: (72, .iastore, 1) :: (73, .aload_n 0, 1) :: (74, .iload_n 1, 1) :: (75, .iload_n 2, 1) :: (76, .invokevirtual 51, 3) :: (79, .ifCond .ne 18, 3) :: (82, .aload_n 0, 1) :: (83, .iload_n 1, 1) :: (84, .iconst 1, 1) :: (85, .iadd, 1) :: (86, .iload_n 2, 1) :: (87, .iload 5, 2) :: (89, .invokevirtual 37, 3) :: (92, .ifCond .eq 5, 3) :: (95, .iconst 1, 1) :: (96, .ireturn, 1) :: k_X6_isSet_97
def k_X6_isSet_49 : List CI := (49, .istore 5, 2) :: (51, .aload_n 0, 1) :: (52, .iload_n 1, 1) :: (53, .invokevirtual 47, 3) :: (56, .istore 6, 2) :: k_X6_isSet_58
def k_X6_isSet_38 : List CI := (38, .iload_n 3, 1) :: (39, .iload 4, 2) :: (41, .idiv, 1) :: (42, .aload_n 0, 1) :: (43, .getfield 11, 3) :: (46, .iload_n 1, 1) :: (47, .iaload, 1) :: (48, .imul, 1) :: k_X6_isSet_49
def k_X6_isSet_16 : List CI := (16, .iload_n 3, 1) :: (17, .aload_n 0, 1) :: (18, .getfield 11, 3) :: (21, .iload_n 1, 1) :: (22, .iaload, 1) :: (23, .invokestatic 43, 3) :: (26, .istore 4, 2) :: (28, .iload 4, 2) :: (30, .iconst 1, 1) :: (31, .if_icmp .ge 7, 3) :: (34, .iload_n 3, 1) :: (35, .goto 14, 3) :: k_X6_isSet_38
def k_X6_isSet_14 : List CI := (14, .iconst 1, 1) :: (15, .ireturn, 1) :: k_X6_isSet_16
def k_X6_isSet : List CI := (0, .iload_n 1, 1) :: (1, .aload_n 0, 1) :: (2, .getfield 21, 3) :: (5, .if_icmp .ge 9, 3) :: (8, .iload_n 1, 1) :: (9, .bipush 6, 2) :: (11, .if_icmp .lt 5, 3) :: k_X6_isSet_14
def Y_X6_isSet : MD := (yX6_isSet, cX6_isSet, 7, (some .boolean), k_X6_isSet)
theorem cok_X6_isSet : COK Y_X6_isSet.2.1 Y_X6_isSet.code = true := by decide +kernel
theorem mok_X6_isSet : MOK Y_X6_isSet 3 := ⟨mU_5 217 rfl rfl, mU_1 12 rfl rfl, by decide, by decide, by decide +kernel, by decide⟩
theorem ins_X6_isSet : INST Y_X6_isSet := ⟨mU_5 216 rfl rfl, mV_5 (n := 4) 11 rfl⟩
def k_X6_firstDays_49 : List CI := (49, .lload_n 2, 1) :: (50, .lreturn, 1) :: []
def k_X6_firstDays_19 : List CI := (19, .iload 4, 2) :: (21, .aload_n 0, 1) :: (22, .getfield 21, 3) :: (25, .if_icmp .ge 24, 3) :: (28, .ldc2_w 25, 3) :: (31, .lload_n 2, 1) :: (32, .lmul, 1) :: (33, .aload_n 0, 1) :: (34, .getfield 15, 3) :: (37, .iload 4, 2) :: (39, .iaload, 1) :: (40, .i2l, 1) :: (41, .ladd, 1) :: (42, .lstore_n 2, 1) :: (43, .iinc 4 1, 3) :: (46, .goto (-27), 3) :: k_X6_firstDays_49
def k_X6_firstDays_14 : List CI := (14, .lconst 0, 1) :: (15, .lstore_n 2, 1) :: (16, .iconst 0, 1) :: (17, .istore 4, 2) :: k_X6_firstDays_19
def k_X6_firstDays : List CI := (0, .aload_n 0, 1) :: (1, .iconst 0, 1) :: (2, .iload_n 1, 1) :: (3, .iconst 1, 1) :: (4, .invokevirtual 37, 3) :: (7, .ifCond .ne 7, 3) :: (10, .ldc2_w 41, 3) :: (13, .lreturn, 1) :: k_X6_firstDays_14
def Y_X6_firstDays : MD := (yX6_firstDays, cX6_firstDays, 5, (some .long), k_X6_firstDays)
theorem cok_X6_firstDays : COK Y_X6_firstDays.2.1 Y_X6_firstDays.code = true := by decide +kernel
theorem mok_X6_firstDays : MOK Y_X6_firstDays 1 := ⟨mU_5 213 rfl rfl, mU_1 12 rfl rfl, by decide, by decide, by decide +kernel, by decide⟩
theorem ins_X6_firstDays : INST Y_X6_firstDays := ⟨mU_5 212 rfl rfl, mV_5 (n := 4) 10 rfl⟩
def k_X10_weeks_28 : List CI := (28, .invokevirtual 101, 3) :: (31, .aload_n 0, 1) :: (32, .getfield 86, 3) :: (35, .iload_n 3, 1) :: (36, .invokevirtual 261, 3) :: (39, .lreturn, 1) :: []
def k_X10_weeks_27 : List CI := (27, .iconst 0, 1) :: k_X10_weeks_28
def k_X10_weeks : List CI := (0, .aload_n 0, 1) :: (1, .aload_n 0, 1) :: (2, .getfield 86, 3) :: (5, .lload_n 1, 1) :: (6, .invokevirtual 258, 3) :: (9, .ifCond .eq 18, 3) :: (12, .iload_n 3, 1) :: (13, .iconst 1, 1) :: (14, .if_icmp .lt 13, 3) :: (17, .iload_n 3, 1) :: (18, .bipush 6, 2) :: (20, .if_icmp .gt 7, 3) :: (23, .iconst 1, 1) :: (24, .goto 4, 3) :: k_X10_weeks_27
def Y_X10_weeks : MD := (yX10_weeks, cX10_weeks, 4, (some .long), k_X10_weeks)
theorem cok_X10_weeks : COK Y_X10_weeks.2.1 Y_X10_weeks.code = true := by decide +kernel
theorem mok_X10_weeks : MOK Y_X10_weeks 2 := ⟨mU_5 200 rfl rfl, mU_1 1 rfl rfl, by decide, by decide, by decide +kernel, by decide⟩
theorem ins_X10_weeks : INST Y_X10_weeks := ⟨mU_5 198 rfl rfl, mU_5 199 rfl rfl⟩
def k_X3_addSight_11 : List CI := (11, .aload_n 0, 1) :: (12, .getfield 15, 3) :: (15, .aload_n 0, 1) :: (16, .getfield 52, 3) :: (19, .iload_n 1, 1) :: (20, .iastore, 1) :: (21, .aload_n 0, 1) :: (22, .getfield 18, 3) :: (25, .aload_n 0, 1) :: (26, .getfield 52, 3) :: (29, .iload_n 2, 1) :: (30, .iastore, 1) :: (31, .aload_n 0, 1) :: (32, .getfield 21, 3) :: (35, .aload_n 0, 1) :: (36, .getfield 52, 3) :: (39, .iload_n 3, 1) :: (40, .bastore, 1) :: (41, .aload_n 0, 1) :: (42, .dup, 1) :: (43, .getfield 52, 3) :: (46, .iconst 1, 1) :: (47, .iadd, 1) :: (48, .putfield 52, 3) :: (51, .aload_n 0, 1) :: (52, .getfield 52, 3) :: (55, .ireturn, 1) :: []
def k_X3_addSight : List CI := (0, .aload_n 0, 1) :: (1, .getfield 52, 3) :: (4, .bipush 20, 2) :: (6, .if_icmp .lt 5, 3) :: (9, .iconst (-1), 1) :: (10, .ireturn, 1) :: k_X3_addSight_11
def Y_X3_addSight : MD := (yX3_addSight, cX3_addSight, 4, (some .int), k_X3_addSight)
theorem cok_X3_addSight : COK Y_X3_addSight.2.1 Y_X3_addSight.code = true := by decide +kernel
theorem mok_X3_addSight : MOK Y_X3_addSight 3 := ⟨mU_6 6 rfl rfl, mU_1 6 rfl rfl, by decide, by decide, by decide +kernel, by decide⟩
theorem ins_X3_addSight : INST Y_X3_addSight := ⟨mU_6 5 rfl rfl, mV_5 (n := 13) 15 rfl⟩
def k_X10_seen_21 : List CI := (21, .invokevirtual 101, 3) :: (24, .aload_n 0, 1) :: (25, .getfield 34, 3) :: (28, .iload_n 1, 1) :: (29, .iload_n 2, 1) :: (30, .iload_n 3, 1) :: (31, .invokevirtual 264, 3) :: (34, .ireturn, 1) :: []
def k_X10_seen_20 : List CI := (20, .iconst 0, 1) :: k_X10_seen_21
def k_X10_seen : List CI := (0, .aload_n 0, 1) :: (1, .iload_n 1, 1) :: (2, .invokevirtual 155, 3) :: (5, .aload_n 0, 1) :: (6, .iload_n 2, 1) :: (7, .ifCond .lt 13, 3) :: (10, .iload_n 2, 1) :: (11, .bipush 9, 2) :: (13, .if_icmp .gt 7, 3) :: (16, .iconst 1, 1) :: (17, .goto 4, 3) :: k_X10_seen_20
def Y_X10_seen : MD := (yX10_seen, cX10_seen, 4, (some .int), k_X10_seen)
theorem cok_X10_seen : COK Y_X10_seen.2.1 Y_X10_seen.code = true := by decide +kernel
theorem mok_X10_seen : MOK Y_X10_seen 3 := ⟨mU_6 2 rfl rfl, mU_1 1 rfl rfl, by decide, by decide, by decide +kernel, by decide⟩
theorem ins_X10_seen : INST Y_X10_seen := ⟨mU_6 0 rfl rfl, mU_6 1 rfl rfl⟩
def k_X5_fittingFrom_86 : List CI := (86, .lload_n 2, 1) :: (87, .lreturn, 1) :: []
def k_X5_fittingFrom_78 : List CI := (78, .land, 1) :: (79, .lstore_n 2, 1) :: (80, .iinc 4 1, 3) :: (83, .goto (-76), 3) :: k_X5_fittingFrom_86
def k_X5_fittingFrom_72 : List CI := (72, .lload 5, 2) :: (74, .ldc2_w 49, 3) :: (77, .lxor, 1) :: k_X5_fittingFrom_78
def k_X5_fittingFrom_7 : List CI := (7, .iload 4, 2) :: (9, .aload_n 0, 1) :: (10, .getfield 19, 3) :: (13, .getfield 51, 3) :: (16, .if_icmp .ge 70, 3) :: (19, .aload_n 0, 1) :: (20, .getfield 15, 3) :: (23, .getfield 56, 3) :: (26, .aload_n 0, 1) :: (27, .getfield 19, 3) :: (30, .getfield 60, 3) :: (33, .iload 4, 2) :: (35, .iaload, 1) :: (36, .iload_n 1, 1) :: (37, .aload_n 0, 1) :: (38, .getfield 19, 3) :: (41, .getfield 63, 3) :: (44, .iload 4, 2) :: (46, .iaload, 1) :: (47, .isub, 1) :: (48, .invokevirtual 66, 3) :: (51, .lstore 5, 2) :: (53, .lload_n 2, 1) :: (54, .aload_n 0, 1) :: (55, .getfield 19, 3) :: (58, .getfield 72, 3) :: (61, .iload 4, 2) :: (63, .baload, 1) :: (64, .ifCond .eq 8, 3) :: (67, .lload 5, 2) :: (69, .goto 9, 3) :: k_X5_fittingFrom_72
def k_X5_fittingFrom : List CI := (0, .ldc2_w 49, 3) :: (3, .lstore_n 2, 1) :: (4, .iconst 0, 1) :: (5, .istore 4, 2) :: k_X5_fittingFrom_7
def Y_X5_fittingFrom : MD := (yX5_fittingFrom, cX5_fittingFrom, 7, (some .long), k_X5_fittingFrom)
theorem cok_X5_fittingFrom : COK Y_X5_fittingFrom.2.1 Y_X5_fittingFrom.code = true := by decide +kernel
theorem mok_X5_fittingFrom : MOK Y_X5_fittingFrom 1 := ⟨mU_6 21 rfl rfl, mU_1 11 rfl rfl, by decide, by decide, by decide +kernel, by decide⟩
theorem ins_X5_fittingFrom : INST Y_X5_fittingFrom := ⟨mU_6 20 rfl rfl, mV_6 (n := 6) 1 rfl⟩
def k_X10_nthLowest_23 : List CI := (23, .lload_n 3, 1) :: (24, .invokestatic 418, 3) :: (27, .ireturn, 1) :: []
def k_X10_nthLowest_5 : List CI := (5, .iload 5, 2) :: (7, .iload_n 2, 1) :: (8, .if_icmp .ge 15, 3) :: (11, .lload_n 3, 1) :: (12, .lload_n 3, 1) :: (13, .lconst 1, 1) :: (14, .lsub, 1) :: (15, .land, 1) :: (16, .lstore_n 3, 1) :: (17, .iinc 5 1, 3) :: (20, .goto (-15), 3) :: k_X10_nthLowest_23
def k_X10_nthLowest : List CI := (0, .lload_n 0, 1) :: (1, .lstore_n 3, 1) :: (2, .iconst 1, 1) :: (3, .istore 5, 2) :: k_X10_nthLowest_5
def Y_X10_nthLowest : MD := (yX10_nthLowest, cX10_nthLowest, 6, (some .int), k_X10_nthLowest)
theorem cok_X10_nthLowest : COK Y_X10_nthLowest.2.1 Y_X10_nthLowest.code = true := by decide +kernel
theorem mok_X10_nthLowest : MOK Y_X10_nthLowest 2 := ⟨mU_6 33 rfl rfl, mU_1 1 rfl rfl, by decide, by decide, by decide +kernel, by decide⟩
theorem sta_X10_nthLowest : STAT Y_X10_nthLowest := mU_6 32 rfl rfl
def k_X5_note_116 : List CI := (116, .return_, 1) :: []
def k_X5_note_57 : List CI := (57, .iload 5, 2) :: (59, .aload_n 0, 1) :: (60, .getfield 15, 3) :: (63, .getfield 56, 3) :: (66, .getfield 89, 3) :: (69, .if_icmp .ge 47, 3) :: (72, .iload 5, 2) :: (74, .aload_n 0, 1) :: (75, .getfield 9, 3) :: (78, .arraylength, 1) :: (79, .if_icmp .ge 37, 3) :: (82, .aload_n 0, 1) :: (83, .getfield 9, 3) :: (86, .iload 5, 2) :: (88, .dup2, 1) :: (89, .iaload, 1) :: (90, .lload_n 2, 1) :: (91, .aload_n 0, 1) :: (92, .getfield 15, 3) :: (95, .getfield 56, 3) :: (98, .iload 5, 2) :: (100, .iload_n 1, 1) :: (101, .invokevirtual 66, 3) :: (104, .land, 1) :: (105, .invokestatic 76, 3) :: (108, .iadd, 1) :: (109, .iastore, 1) :: (110, .iinc 5 1, 3) :: (113, .goto (-56), 3) :: k_X5_note_116
def k_X5_note_39 : List CI := (39, .putfield 27, 3) :: (42, .aload_n 0, 1) :: (43, .iload_n 1, 1) :: (44, .lload_n 2, 1) :: (45, .iload 4, 2) :: (47, .invokestatic 85, 3) :: (50, .iadd, 1) :: (51, .putfield 30, 3) :: (54, .iconst 0, 1) :: (55, .istore 5, 2) :: k_X5_note_57
def k_X5_note_35 : List CI := (35, .aload_n 0, 1) :: (36, .getfield 27, 3) :: k_X5_note_39
def k_X5_note : List CI := (0, .lload_n 2, 1) :: (1, .invokestatic 76, 3) :: (4, .istore 4, 2) :: (6, .aload_n 0, 1) :: (7, .dup, 1) :: (8, .getfield 23, 3) :: (11, .iload 4, 2) :: (13, .iadd, 1) :: (14, .putfield 23, 3) :: (17, .aload_n 0, 1) :: (18, .aload_n 0, 1) :: (19, .getfield 27, 3) :: (22, .iconst (-1), 1) :: (23, .if_icmp .ne 12, 3) :: (26, .iload_n 1, 1) :: (27, .lload_n 2, 1) :: (28, .invokestatic 82, 3) :: (31, .iadd, 1) :: (32, .goto 7, 3) :: k_X5_note_35
def Y_X5_note : MD := (yX5_note, cX5_note, 6, none, k_X5_note)
theorem cok_X5_note : COK Y_X5_note.2.1 Y_X5_note.code = true := by decide +kernel
theorem mok_X5_note : MOK Y_X5_note 2 := ⟨mU_6 28 rfl rfl, mU_1 11 rfl rfl, by decide, by decide, by decide +kernel, by decide⟩
theorem ins_X5_note : INST Y_X5_note := ⟨mU_6 27 rfl rfl, mV_6 (n := 6) 2 rfl⟩
def k_X5_survey_89 : List CI := (89, .return_, 1) :: []
def k_X5_survey_83 : List CI := (83, .iinc 1 64, 3) :: (86, .goto (-45), 3) :: k_X5_survey_89
def k_X5_survey_41 : List CI := (41, .iload_n 1, 1) :: (42, .aload_n 0, 1) :: (43, .getfield 15, 3) :: (46, .getfield 33, 3) :: (49, .if_icmp .ge 40, 3) :: (52, .aload_n 0, 1) :: (53, .iload_n 1, 1) :: (54, .invokevirtual 38, 3) :: (57, .aload_n 0, 1) :: (58, .getfield 15, 3) :: (61, .getfield 33, 3) :: (64, .iload_n 1, 1) :: (65, .isub, 1) :: (66, .invokestatic 42, 3) :: (69, .land, 1) :: (70, .lstore_n 2, 1) :: (71, .lload_n 2, 1) :: (72, .lconst 0, 1) :: (73, .lcmp, 1) :: (74, .ifCond .eq 9, 3) :: (77, .aload_n 0, 1) :: (78, .iload_n 1, 1) :: (79, .lload_n 2, 1) :: (80, .invokevirtual 45, 3) :: k_X5_survey_83
def k_X5_survey_39 : List CI := (39, .iconst 0, 1) :: (40, .istore_n 1, 1) :: k_X5_survey_41
def k_X5_survey_17 : List CI := (17, .iload_n 1, 1) :: (18, .aload_n 0, 1) :: (19, .getfield 9, 3) :: (22, .arraylength, 1) :: (23, .if_icmp .ge 16, 3) :: (26, .aload_n 0, 1) :: (27, .getfield 9, 3) :: (30, .iload_n 1, 1) :: (31, .iconst 0, 1) :: (32, .iastore, 1) :: (33, .iinc 1 1, 3) :: (36, .goto (-19), 3) :: k_X5_survey_39
def k_X5_survey : List CI := (0, .aload_n 0, 1) :: (1, .iconst 0, 1) :: (2, .putfield 23, 3) :: (5, .aload_n 0, 1) :: (6, .iconst (-1), 1) :: (7, .putfield 27, 3) :: (10, .aload_n 0, 1) :: (11, .iconst (-1), 1) :: (12, .putfield 30, 3) :: (15, .iconst 0, 1) :: (16, .istore_n 1, 1) :: k_X5_survey_17
def Y_X5_survey : MD := (yX5_survey, cX5_survey, 4, none, k_X5_survey)
theorem cok_X5_survey : COK Y_X5_survey.2.1 Y_X5_survey.code = true := by decide +kernel
theorem mok_X5_survey : MOK Y_X5_survey 0 := ⟨mU_6 17 rfl rfl, mU_1 11 rfl rfl, by decide, by decide, by decide +kernel, by decide⟩
theorem ins_X5_survey : INST Y_X5_survey := ⟨mU_6 16 rfl rfl, mV_6 (n := 6) 0 rfl⟩
def k_X10_fits_68 : List CI := (68, .aload_n 0, 1) :: (69, .getfield 79, 3) :: (72, .getfield 277, 3) :: (75, .ireturn, 1) :: []
def k_X10_fits_60 : List CI := (60, .aload_n 0, 1) :: (61, .getfield 79, 3) :: (64, .getfield 274, 3) :: (67, .ireturn, 1) :: k_X10_fits_68
def k_X10_fits_52 : List CI := (52, .aload_n 0, 1) :: (53, .getfield 79, 3) :: (56, .getfield 271, 3) :: (59, .ireturn, 1) :: k_X10_fits_60
def k_X10_fits_15 : List CI := (15, .invokevirtual 101, 3) :: (18, .aload_n 0, 1) :: (19, .getfield 79, 3) :: (22, .invokevirtual 268, 3) :: (25, .iload_n 1, 1) :: (26, .lookupswitch 42 #[(0, 26), (1, 34)], 26) :: k_X10_fits_52
def k_X10_fits_14 : List CI := (14, .iconst 0, 1) :: k_X10_fits_15
def k_X10_fits : List CI := (0, .aload_n 0, 1) :: (1, .iload_n 1, 1) :: (2, .ifCond .lt 12, 3) :: (5, .iload_n 1, 1) :: (6, .iconst 2, 1) :: (7, .if_icmp .gt 7, 3) :: (10, .iconst 1, 1) :: (11, .goto 4, 3) :: k_X10_fits_14
def Y_X10_fits : MD := (yX10_fits, cX10_fits, 2, (some .int), k_X10_fits)
theorem cok_X10_fits : COK Y_X10_fits.2.1 Y_X10_fits.code = true := by decide +kernel
theorem mok_X10_fits : MOK Y_X10_fits 1 := ⟨mU_6 13 rfl rfl, mU_1 1 rfl rfl, by decide, by decide, by decide +kernel, by decide⟩
theorem ins_X10_fits : INST Y_X10_fits := ⟨mU_6 11 rfl rfl, mU_6 12 rfl rfl⟩
def k_X5_leftAtWorst_40 : List CI := (40, .ireturn, 1) :: []
def k_X5_leftAtWorst_20 : List CI := (20, .aload_n 0, 1) :: (21, .getfield 9, 3) :: (24, .iload_n 1, 1) :: (25, .iaload, 1) :: (26, .aload_n 0, 1) :: (27, .getfield 23, 3) :: (30, .aload_n 0, 1) :: (31, .getfield 9, 3) :: (34, .iload_n 1, 1) :: (35, .iaload, 1) :: (36, .isub, 1) :: (37, .invokestatic 92, 3) :: k_X5_leftAtWorst_40
def k_X5_leftAtWorst_13 : List CI := (13, .aload_n 0, 1) :: (14, .getfield 23, 3) :: (17, .goto 23, 3) :: k_X5_leftAtWorst_20
def k_X5_leftAtWorst : List CI := (0, .iload_n 1, 1) :: (1, .ifCond .lt 12, 3) :: (4, .iload_n 1, 1) :: (5, .aload_n 0, 1) :: (6, .getfield 9, 3) :: (9, .arraylength, 1) :: (10, .if_icmp .lt 10, 3) :: k_X5_leftAtWorst_13
def Y_X5_leftAtWorst : MD := (yX5_leftAtWorst, cX5_leftAtWorst, 2, (some .int), k_X5_leftAtWorst)
theorem cok_X5_leftAtWorst : COK Y_X5_leftAtWorst.2.1 Y_X5_leftAtWorst.code = true := by decide +kernel
theorem mok_X5_leftAtWorst : MOK Y_X5_leftAtWorst 1 := ⟨mU_6 49 rfl rfl, mU_1 11 rfl rfl, by decide, by decide, by decide +kernel, by decide⟩
theorem ins_X5_leftAtWorst : INST Y_X5_leftAtWorst := ⟨mU_6 48 rfl rfl, mV_6 (n := 6) 4 rfl⟩
def k_X5_tellingLaw_44 : List CI := (44, .iload_n 1, 1) :: (45, .ireturn, 1) :: []
def k_X5_tellingLaw_38 : List CI := (38, .iinc 2 1, 3) :: (41, .goto (-37), 3) :: k_X5_tellingLaw_44
def k_X5_tellingLaw_36 : List CI := (36, .iload_n 2, 1) :: (37, .istore_n 1, 1) :: k_X5_tellingLaw_38
def k_X5_tellingLaw_4 : List CI := (4, .iload_n 2, 1) :: (5, .aload_n 0, 1) :: (6, .getfield 15, 3) :: (9, .getfield 56, 3) :: (12, .getfield 89, 3) :: (15, .if_icmp .ge 29, 3) :: (18, .iload_n 1, 1) :: (19, .iconst (-1), 1) :: (20, .if_icmp .eq 16, 3) :: (23, .aload_n 0, 1) :: (24, .iload_n 2, 1) :: (25, .invokevirtual 98, 3) :: (28, .aload_n 0, 1) :: (29, .iload_n 1, 1) :: (30, .invokevirtual 98, 3) :: (33, .if_icmp .ge 5, 3) :: k_X5_tellingLaw_36
def k_X5_tellingLaw : List CI := (0, .iconst (-1), 1) :: (1, .istore_n 1, 1) :: (2, .iconst 0, 1) :: (3, .istore_n 2, 1) :: k_X5_tellingLaw_4
def Y_X5_tellingLaw : MD := (yX5_tellingLaw, cX5_tellingLaw, 3, (some .int), k_X5_tellingLaw)
theorem cok_X5_tellingLaw : COK Y_X5_tellingLaw.2.1 Y_X5_tellingLaw.code = true := by decide +kernel
theorem mok_X5_tellingLaw : MOK Y_X5_tellingLaw 0 := ⟨mU_6 45 rfl rfl, mU_1 11 rfl rfl, by decide, by decide, by decide +kernel, by decide⟩
theorem ins_X5_tellingLaw : INST Y_X5_tellingLaw := ⟨mU_6 44 rfl rfl, mV_6 (n := 6) 3 rfl⟩
def k_X10_look_36 : List CI := (36, .ireturn, 1) :: []
def k_X10_look_28 : List CI := (28, .aload_n 0, 1) :: (29, .getfield 79, 3) :: (32, .iload_n 2, 1) :: (33, .invokevirtual 283, 3) :: k_X10_look_36
def k_X10_look : List CI := (0, .aload_n 0, 1) :: (1, .iload_n 1, 1) :: (2, .invokevirtual 158, 3) :: (5, .aload_n 0, 1) :: (6, .getfield 79, 3) :: (9, .invokevirtual 268, 3) :: (12, .aload_n 0, 1) :: (13, .getfield 79, 3) :: (16, .invokevirtual 280, 3) :: (19, .istore_n 2, 1) :: (20, .iload_n 1, 1) :: (21, .ifCond .ne 7, 3) :: (24, .iload_n 2, 1) :: (25, .goto 11, 3) :: k_X10_look_28
def Y_X10_look : MD := (yX10_look, cX10_look, 3, (some .int), k_X10_look)
theorem cok_X10_look : COK Y_X10_look.2.1 Y_X10_look.code = true := by decide +kernel
theorem mok_X10_look : MOK Y_X10_look 1 := ⟨mU_6 41 rfl rfl, mU_1 1 rfl rfl, by decide, by decide, by decide +kernel, by decide⟩
theorem ins_X10_look : INST Y_X10_look := ⟨mU_6 39 rfl rfl, mU_6 40 rfl rfl⟩
def k_X3_addDeed_11 : List CI := (11, .aload_n 0, 1) :: (12, .getfield 25, 3) :: (15, .aload_n 0, 1) :: (16, .getfield 56, 3) :: (19, .iload_n 1, 1) :: (20, .iastore, 1) :: (21, .aload_n 0, 1) :: (22, .getfield 28, 3) :: (25, .aload_n 0, 1) :: (26, .getfield 56, 3) :: (29, .iload_n 2, 1) :: (30, .iastore, 1) :: (31, .aload_n 0, 1) :: (32, .getfield 31, 3) :: (35, .aload_n 0, 1) :: (36, .getfield 56, 3) :: (39, .iload_n 3, 1) :: (40, .iastore, 1) :: (41, .aload_n 0, 1) :: (42, .getfield 34, 3) :: (45, .aload_n 0, 1) :: (46, .getfield 56, 3) :: (49, .iload 4, 2) :: (51, .bastore, 1) :: (52, .aload_n 0, 1) :: (53, .dup, 1) :: (54, .getfield 56, 3) :: (57, .iconst 1, 1) :: (58, .iadd, 1) :: (59, .putfield 56, 3) :: (62, .aload_n 0, 1) :: (63, .getfield 56, 3) :: (66, .ireturn, 1) :: []
def k_X3_addDeed : List CI := (0, .aload_n 0, 1) :: (1, .getfield 56, 3) :: (4, .bipush 20, 2) :: (6, .if_icmp .lt 5, 3) :: (9, .iconst (-1), 1) :: (10, .ireturn, 1) :: k_X3_addDeed_11
def Y_X3_addDeed : MD := (yX3_addDeed, cX3_addDeed, 5, (some .int), k_X3_addDeed)
theorem cok_X3_addDeed : COK Y_X3_addDeed.2.1 Y_X3_addDeed.code = true := by decide +kernel
theorem mok_X3_addDeed : MOK Y_X3_addDeed 4 := ⟨mU_6 62 rfl rfl, mU_1 6 rfl rfl, by decide, by decide, by decide +kernel, by decide⟩
theorem ins_X3_addDeed : INST Y_X3_addDeed := ⟨mU_6 61 rfl rfl, mV_6 (n := 13) 5 rfl⟩
def k_X10_did : List CI := (0, .aload_n 0, 1) :: (1, .iload_n 3, 1) :: (2, .invokevirtual 182, 3) :: (5, .aload_n 0, 1) :: (6, .iload_n 1, 1) :: (7, .invokevirtual 168, 3) :: (10, .aload_n 0, 1) :: (11, .iload_n 2, 1) :: (12, .invokevirtual 155, 3) :: (15, .aload_n 0, 1) :: (16, .getfield 34, 3) :: (19, .iload_n 1, 1) :: (20, .iload_n 2, 1) :: (21, .aload_n 0, 1) :: (22, .getfield 27, 3) :: (25, .iload_n 3, 1) :: (26, .invokevirtual 185, 3) :: (29, .iload 4, 2) :: (31, .invokevirtual 286, 3) :: (34, .ireturn, 1) :: []
def Y_X10_did : MD := (yX10_did, cX10_did, 5, (some .int), k_X10_did)
theorem cok_X10_did : COK Y_X10_did.2.1 Y_X10_did.code = true := by decide +kernel
theorem mok_X10_did : MOK Y_X10_did 4 := ⟨mU_6 58 rfl rfl, mU_1 1 rfl rfl, by decide, by decide, by decide +kernel, by decide⟩
theorem ins_X10_did : INST Y_X10_did := ⟨mU_6 56 rfl rfl, mU_6 57 rfl rfl⟩
def k_X10_explains_109 : List CI := (109, .iconst 1, 1) :: (110, .ireturn, 1) :: []
def k_X10_explains_103 : List CI := (103, .iinc 4 1, 3) :: (106, .goto (-103), 3) :: k_X10_explains_109
def k_X10_explains_61 : List CI := (61, .istore 6, 2) :: (63, .aload_n 0, 1) :: (64, .getfield 27, 3) :: (67, .getfield 128, 3) :: (70, .iload 5, 2) :: (72, .aload_n 0, 1) :: (73, .getfield 34, 3) :: (76, .getfield 398, 3) :: (79, .iload 4, 2) :: (81, .iaload, 1) :: (82, .iload 6, 2) :: (84, .iadd, 1) :: (85, .invokevirtual 388, 3) :: (88, .aload_n 0, 1) :: (89, .getfield 34, 3) :: (92, .getfield 401, 3) :: (95, .iload 4, 2) :: (97, .baload, 1) :: (98, .if_icmp .eq 5, 3) :: (101, .iconst 0, 1) :: (102, .ireturn, 1) :: k_X10_explains_103
def k_X10_explains_51 : List CI := (51, .aload_n 0, 1) :: (52, .getfield 34, 3) :: (55, .iload_n 1, 1) :: (56, .iload 5, 2) :: (58, .invokevirtual 171, 3) :: k_X10_explains_61
def k_X10_explains_3 : List CI := (3, .iload 4, 2) :: (5, .aload_n 0, 1) :: (6, .getfield 34, 3) :: (9, .getfield 304, 3) :: (12, .if_icmp .ge 97, 3) :: (15, .aload_n 0, 1) :: (16, .getfield 34, 3) :: (19, .getfield 391, 3) :: (22, .iload 4, 2) :: (24, .iaload, 1) :: (25, .iload_n 1, 1) :: (26, .if_icmp .ne 77, 3) :: (29, .aload_n 0, 1) :: (30, .getfield 34, 3) :: (33, .getfield 395, 3) :: (36, .iload 4, 2) :: (38, .iaload, 1) :: (39, .istore 5, 2) :: (41, .iload 5, 2) :: (43, .iload_n 2, 1) :: (44, .if_icmp .ne 7, 3) :: (47, .iload_n 3, 1) :: (48, .goto 13, 3) :: k_X10_explains_51
def k_X10_explains : List CI := (0, .iconst 0, 1) :: (1, .istore 4, 2) :: k_X10_explains_3
def Y_X10_explains : MD := (yX10_explains, cX10_explains, 7, (some .boolean), k_X10_explains)
theorem cok_X10_explains : COK Y_X10_explains.2.1 Y_X10_explains.code = true := by decide +kernel
theorem mok_X10_explains : MOK Y_X10_explains 3 := ⟨mU_6 73 rfl rfl, mU_1 1 rfl rfl, by decide, by decide, by decide +kernel, by decide⟩
theorem ins_X10_explains : INST Y_X10_explains := ⟨mU_6 72 rfl rfl, mV_6 (n := 17) 6 rfl⟩
def k_X10_slipped_190 : List CI := (190, .ireturn, 1) :: []
def k_X10_slipped_188 : List CI := (188, .iload 5, 2) :: k_X10_slipped_190
def k_X10_slipped_178 : List CI := (178, .iload_n 2, 1) :: (179, .iconst 1, 1) :: (180, .if_icmp .ne 8, 3) :: (183, .iload 4, 2) :: (185, .goto 5, 3) :: k_X10_slipped_188
def k_X10_slipped_170 : List CI := (170, .iload_n 2, 1) :: (171, .ifCond .ne 7, 3) :: (174, .iload_n 3, 1) :: (175, .goto 15, 3) :: k_X10_slipped_178
def k_X10_slipped_164 : List CI := (164, .iinc 7 1, 3) :: (167, .goto (-130), 3) :: k_X10_slipped_170
def k_X10_slipped_158 : List CI := (158, .iinc 9 1, 3) :: (161, .goto (-92), 3) :: k_X10_slipped_164
def k_X10_slipped_147 : List CI := (147, .istore 5, 2) :: (149, .iload 6, 2) :: (151, .iload 10, 2) :: (153, .invokestatic 298, 3) :: (156, .istore 6, 2) :: k_X10_slipped_158
def k_X10_slipped_145 : List CI := (145, .iload 5, 2) :: k_X10_slipped_147
def k_X10_slipped_110 : List CI := (110, .istore 4, 2) :: (112, .bipush 24, 2) :: (114, .iload 9, 2) :: (116, .iload 8, 2) :: (118, .iload 9, 2) :: (120, .isub, 1) :: (121, .invokestatic 293, 3) :: (124, .isub, 1) :: (125, .istore 10, 2) :: (127, .iload 10, 2) :: (129, .iload 6, 2) :: (131, .if_icmp .le 14, 3) :: (134, .bipush 100, 2) :: (136, .iload 7, 2) :: (138, .imul, 1) :: (139, .iload 9, 2) :: (141, .iadd, 1) :: (142, .goto 5, 3) :: k_X10_slipped_145
def k_X10_slipped_108 : List CI := (108, .iload 4, 2) :: k_X10_slipped_110
def k_X10_slipped_69 : List CI := (69, .iload 9, 2) :: (71, .iload 8, 2) :: (73, .if_icmp .ge 91, 3) :: (76, .aload_n 0, 1) :: (77, .iload_n 1, 1) :: (78, .iload 7, 2) :: (80, .iload 9, 2) :: (82, .invokevirtual 290, 3) :: (85, .ifCond .eq 73, 3) :: (88, .iinc 3 1, 3) :: (91, .iload 4, 2) :: (93, .iconst (-1), 1) :: (94, .if_icmp .ne 14, 3) :: (97, .bipush 100, 2) :: (99, .iload 7, 2) :: (101, .imul, 1) :: (102, .iload 9, 2) :: (104, .iadd, 1) :: (105, .goto 5, 3) :: k_X10_slipped_108
def k_X10_slipped_37 : List CI := (37, .iload 7, 2) :: (39, .aload_n 0, 1) :: (40, .getfield 27, 3) :: (43, .getfield 128, 3) :: (46, .getfield 132, 3) :: (49, .if_icmp .ge 121, 3) :: (52, .aload_n 0, 1) :: (53, .getfield 27, 3) :: (56, .getfield 128, 3) :: (59, .iload 7, 2) :: (61, .invokevirtual 161, 3) :: (64, .istore 8, 2) :: (66, .iconst 0, 1) :: (67, .istore 9, 2) :: k_X10_slipped_69
def k_X10_slipped_20 : List CI := (20, .invokevirtual 101, 3) :: (23, .iconst 0, 1) :: (24, .istore_n 3, 1) :: (25, .iconst (-1), 1) :: (26, .istore 4, 2) :: (28, .iconst (-1), 1) :: (29, .istore 5, 2) :: (31, .iconst 0, 1) :: (32, .istore 6, 2) :: (34, .iconst 0, 1) :: (35, .istore 7, 2) :: k_X10_slipped_37
def k_X10_slipped_19 : List CI := (19, .iconst 0, 1) :: k_X10_slipped_20
def k_X10_slipped : List CI := (0, .aload_n 0, 1) :: (1, .iload_n 1, 1) :: (2, .invokevirtual 168, 3) :: (5, .aload_n 0, 1) :: (6, .iload_n 2, 1) :: (7, .ifCond .lt 12, 3) :: (10, .iload_n 2, 1) :: (11, .iconst 2, 1) :: (12, .if_icmp .gt 7, 3) :: (15, .iconst 1, 1) :: (16, .goto 4, 3) :: k_X10_slipped_19
def Y_X10_slipped : MD := (yX10_slipped, cX10_slipped, 11, (some .int), k_X10_slipped)
theorem cok_X10_slipped : COK Y_X10_slipped.2.1 Y_X10_slipped.code = true := by decide +kernel
theorem mok_X10_slipped : MOK Y_X10_slipped 2 := ⟨mU_6 69 rfl rfl, mU_1 1 rfl rfl, by decide, by decide, by decide +kernel, by decide⟩
theorem ins_X10_slipped : INST Y_X10_slipped := ⟨mU_6 67 rfl rfl, mU_6 68 rfl rfl⟩
def k_X10_forget : List CI := (0, .aload_n 0, 1) :: (1, .getfield 34, 3) :: (4, .getfield 301, 3) :: (7, .aload_n 0, 1) :: (8, .getfield 34, 3) :: (11, .getfield 304, 3) :: (14, .iadd, 1) :: (15, .istore_n 1, 1) :: (16, .aload_n 0, 1) :: (17, .getfield 34, 3) :: (20, .iconst 0, 1) :: (21, .putfield 301, 3) :: (24, .aload_n 0, 1) :: (25, .getfield 34, 3) :: (28, .iconst 0, 1) :: (29, .putfield 304, 3) :: (32, .iload_n 1, 1) :: (33, .ireturn, 1) :: []
def Y_X10_forget : MD := (yX10_forget, cX10_forget, 2, (some .int), k_X10_forget)
theorem cok_X10_forget : COK Y_X10_forget.2.1 Y_X10_forget.code = true := by decide +kernel
theorem mok_X10_forget : MOK Y_X10_forget 0 := ⟨mU_2 199 rfl rfl, mU_1 1 rfl rfl, by decide, by decide, by decide +kernel, by decide⟩
theorem ins_X10_forget : INST Y_X10_forget := ⟨mU_2 197 rfl rfl, mU_2 198 rfl rfl⟩
def k_X3_areAlike_31 : List CI := (31, .iconst 1, 1) :: (32, .ireturn, 1) :: []
def k_X3_areAlike_25 : List CI := (25, .iinc 3 1, 3) :: (28, .goto (-26), 3) :: k_X3_areAlike_31
def k_X3_areAlike_2 : List CI := (2, .iload_n 3, 1) :: (3, .bipush 12, 2) :: (5, .if_icmp .ge 26, 3) :: (8, .aload_n 0, 1) :: (9, .iload_n 1, 1) :: (10, .iload_n 3, 1) :: (11, .invokevirtual 66, 3) :: (14, .aload_n 0, 1) :: (15, .iload_n 2, 1) :: (16, .iload_n 3, 1) :: (17, .invokevirtual 66, 3) :: (20, .if_icmp .eq 5, 3) :: (23, .iconst 0, 1) :: (24, .ireturn, 1) :: k_X3_areAlike_25
def k_X3_areAlike : List CI := (0, .iconst 0, 1) :: (1, .istore_n 3, 1) :: k_X3_areAlike_2
def Y_X3_areAlike : MD := (yX3_areAlike, cX3_areAlike, 4, (some .boolean), k_X3_areAlike)
theorem cok_X3_areAlike : COK Y_X3_areAlike.2.1 Y_X3_areAlike.code = true := by decide +kernel
theorem mok_X3_areAlike : MOK Y_X3_areAlike 2 := ⟨mU_6 89 rfl rfl, mU_1 6 rfl rfl, by decide, by decide, by decide +kernel, by decide⟩
theorem ins_X3_areAlike : INST Y_X3_areAlike := ⟨mU_6 88 rfl rfl, mV_6 (n := 13) 8 rfl⟩
def k_X10_housesAlike_43 : List CI := (43, .iload_n 2, 1) :: (44, .ireturn, 1) :: []
def k_X10_housesAlike_35 : List CI := (35, .ior, 1) :: (36, .istore_n 2, 1) :: (37, .iinc 3 1, 3) :: (40, .goto (-36), 3) :: k_X10_housesAlike_43
def k_X10_housesAlike_34 : List CI := (34, .iconst 0, 1) :: k_X10_housesAlike_35
def k_X10_housesAlike_4 : List CI := (4, .iload_n 3, 1) :: (5, .aload_n 0, 1) :: (6, .getfield 27, 3) :: (9, .getfield 143, 3) :: (12, .if_icmp .ge 31, 3) :: (15, .iload_n 2, 1) :: (16, .aload_n 0, 1) :: (17, .getfield 34, 3) :: (20, .iload_n 3, 1) :: (21, .iload_n 1, 1) :: (22, .invokevirtual 405, 3) :: (25, .ifCond .eq 9, 3) :: (28, .iconst 1, 1) :: (29, .iload_n 3, 1) :: (30, .ishl, 1) :: (31, .goto 4, 3) :: k_X10_housesAlike_34
def k_X10_housesAlike : List CI := (0, .iconst 0, 1) :: (1, .istore_n 2, 1) :: (2, .iconst 0, 1) :: (3, .istore_n 3, 1) :: k_X10_housesAlike_4
def Y_X10_housesAlike : MD := (yX10_housesAlike, cX10_housesAlike, 4, (some .int), k_X10_housesAlike)
theorem cok_X10_housesAlike : COK Y_X10_housesAlike.2.1 Y_X10_housesAlike.code = true := by decide +kernel
theorem mok_X10_housesAlike : MOK Y_X10_housesAlike 1 := ⟨mU_6 85 rfl rfl, mU_1 1 rfl rfl, by decide, by decide, by decide +kernel, by decide⟩
theorem ins_X10_housesAlike : INST Y_X10_housesAlike := ⟨mU_6 84 rfl rfl, mV_6 (n := 17) 7 rfl⟩
def k_X10_right_68 : List CI := (68, .ireturn, 1) :: []
def k_X10_right_67 : List CI := (67, .iload_n 2, 1) :: k_X10_right_68
def k_X10_right_48 : List CI := (48, .iload_n 1, 1) :: (49, .ifCond .ne 18, 3) :: (52, .aload_n 0, 1) :: (53, .getfield 27, 3) :: (56, .getfield 143, 3) :: (59, .iload_n 2, 1) :: (60, .invokestatic 217, 3) :: (63, .isub, 1) :: (64, .goto 4, 3) :: k_X10_right_67
def k_X10_right_42 : List CI := (42, .iinc 3 1, 3) :: (45, .goto (-36), 3) :: k_X10_right_48
def k_X10_right_9 : List CI := (9, .iload_n 3, 1) :: (10, .aload_n 0, 1) :: (11, .getfield 27, 3) :: (14, .getfield 143, 3) :: (17, .if_icmp .ge 31, 3) :: (20, .aload_n 0, 1) :: (21, .iload_n 3, 1) :: (22, .invokevirtual 307, 3) :: (25, .istore 4, 2) :: (27, .iload 4, 2) :: (29, .invokestatic 217, 3) :: (32, .iload_n 2, 1) :: (33, .invokestatic 217, 3) :: (36, .if_icmp .le 6, 3) :: (39, .iload 4, 2) :: (41, .istore_n 2, 1) :: k_X10_right_42
def k_X10_right : List CI := (0, .aload_n 0, 1) :: (1, .iload_n 1, 1) :: (2, .invokevirtual 158, 3) :: (5, .iconst 0, 1) :: (6, .istore_n 2, 1) :: (7, .iconst 0, 1) :: (8, .istore_n 3, 1) :: k_X10_right_9
def Y_X10_right : MD := (yX10_right, cX10_right, 5, (some .int), k_X10_right)
theorem cok_X10_right : COK Y_X10_right.2.1 Y_X10_right.code = true := by decide +kernel
theorem mok_X10_right : MOK Y_X10_right 1 := ⟨mU_6 81 rfl rfl, mU_1 1 rfl rfl, by decide, by decide, by decide +kernel, by decide⟩
theorem ins_X10_right : INST Y_X10_right := ⟨mU_6 79 rfl rfl, mU_6 80 rfl rfl⟩
def k_X3_addWork_11 : List CI := (11, .aload_n 0, 1) :: (12, .getfield 37, 3) :: (15, .aload_n 0, 1) :: (16, .getfield 59, 3) :: (19, .iload_n 1, 1) :: (20, .iastore, 1) :: (21, .aload_n 0, 1) :: (22, .getfield 40, 3) :: (25, .aload_n 0, 1) :: (26, .getfield 59, 3) :: (29, .iload_n 2, 1) :: (30, .iastore, 1) :: (31, .aload_n 0, 1) :: (32, .dup, 1) :: (33, .getfield 59, 3) :: (36, .iconst 1, 1) :: (37, .iadd, 1) :: (38, .putfield 59, 3) :: (41, .aload_n 0, 1) :: (42, .getfield 59, 3) :: (45, .iconst 1, 1) :: (46, .isub, 1) :: (47, .ireturn, 1) :: []
def k_X3_addWork : List CI := (0, .aload_n 0, 1) :: (1, .getfield 59, 3) :: (4, .bipush 8, 2) :: (6, .if_icmp .lt 5, 3) :: (9, .iconst (-1), 1) :: (10, .ireturn, 1) :: k_X3_addWork_11
def Y_X3_addWork : MD := (yX3_addWork, cX3_addWork, 3, (some .int), k_X3_addWork)
theorem cok_X3_addWork : COK Y_X3_addWork.2.1 Y_X3_addWork.code = true := by decide +kernel
theorem mok_X3_addWork : MOK Y_X3_addWork 2 := ⟨mU_6 101 rfl rfl, mU_1 6 rfl rfl, by decide, by decide, by decide +kernel, by decide⟩
theorem ins_X3_addWork : INST Y_X3_addWork := ⟨mU_6 100 rfl rfl, mV_6 (n := 13) 9 rfl⟩
def k_X10_work_17 : List CI := (17, .invokevirtual 101, 3) :: (20, .aload_n 0, 1) :: (21, .iload_n 2, 1) :: (22, .invokevirtual 201, 3) :: (25, .aload_n 0, 1) :: (26, .getfield 34, 3) :: (29, .iload_n 1, 1) :: (30, .iload_n 2, 1) :: (31, .invokevirtual 310, 3) :: (34, .ireturn, 1) :: []
def k_X10_work_16 : List CI := (16, .iconst 0, 1) :: k_X10_work_17
def k_X10_work : List CI := (0, .aload_n 0, 1) :: (1, .iload_n 1, 1) :: (2, .iconst 1, 1) :: (3, .if_icmp .lt 13, 3) :: (6, .iload_n 1, 1) :: (7, .bipush 60, 2) :: (9, .if_icmp .gt 7, 3) :: (12, .iconst 1, 1) :: (13, .goto 4, 3) :: k_X10_work_16
def Y_X10_work : MD := (yX10_work, cX10_work, 3, (some .int), k_X10_work)
theorem cok_X10_work : COK Y_X10_work.2.1 Y_X10_work.code = true := by decide +kernel
theorem mok_X10_work : MOK Y_X10_work 2 := ⟨mU_6 97 rfl rfl, mU_1 1 rfl rfl, by decide, by decide, by decide +kernel, by decide⟩
theorem ins_X10_work : INST Y_X10_work := ⟨mU_6 95 rfl rfl, mU_6 96 rfl rfl⟩
def k_X10_needWork_21 : List CI := (21, .invokevirtual 381, 3) :: (24, .return_, 1) :: []
def k_X10_needWork_20 : List CI := (20, .iconst 0, 1) :: k_X10_needWork_21
def k_X10_needWork : List CI := (0, .aload_n 0, 1) :: (1, .iload_n 1, 1) :: (2, .ifCond .lt 18, 3) :: (5, .iload_n 1, 1) :: (6, .aload_n 0, 1) :: (7, .getfield 34, 3) :: (10, .getfield 333, 3) :: (13, .if_icmp .ge 7, 3) :: (16, .iconst 1, 1) :: (17, .goto 4, 3) :: k_X10_needWork_20
def Y_X10_needWork : MD := (yX10_needWork, cX10_needWork, 2, none, k_X10_needWork)
theorem cok_X10_needWork : COK Y_X10_needWork.2.1 Y_X10_needWork.code = true := by decide +kernel
theorem mok_X10_needWork : MOK Y_X10_needWork 1 := ⟨mU_6 112 rfl rfl, mU_1 1 rfl rfl, by decide, by decide, by decide +kernel, by decide⟩
theorem ins_X10_needWork : INST Y_X10_needWork := ⟨mU_6 111 rfl rfl, mV_6 (n := 17) 10 rfl⟩
def k_X9_isWork_26 : List CI := (26, .ireturn, 1) :: []
def k_X9_isWork_25 : List CI := (25, .iconst 0, 1) :: k_X9_isWork_26
def k_X9_isWork : List CI := (0, .iload_n 1, 1) :: (1, .ifCond .lt 24, 3) :: (4, .iload_n 1, 1) :: (5, .aload_n 0, 1) :: (6, .getfield 25, 3) :: (9, .getfield 29, 3) :: (12, .if_icmp .ge 13, 3) :: (15, .iload_n 1, 1) :: (16, .bipush 8, 2) :: (18, .if_icmp .ge 7, 3) :: (21, .iconst 1, 1) :: (22, .goto 4, 3) :: k_X9_isWork_25
def Y_X9_isWork : MD := (yX9_isWork, cX9_isWork, 2, (some .boolean), k_X9_isWork)
theorem cok_X9_isWork : COK Y_X9_isWork.2.1 Y_X9_isWork.code = true := by decide +kernel
theorem mok_X9_isWork : MOK Y_X9_isWork 1 := ⟨mU_6 120 rfl rfl, mU_1 10 rfl rfl, by decide, by decide, by decide +kernel, by decide⟩
theorem ins_X9_isWork : INST Y_X9_isWork := ⟨mU_6 119 rfl rfl, mV_6 (n := 5) 12 rfl⟩
def k_X1_patience : List CI := (0, .aload_n 0, 1) :: (1, .getfield 15, 3) :: (4, .iconst 3, 1) :: (5, .iadd, 1) :: (6, .ireturn, 1) :: []
def Y_X1_patience : MD := (yX1_patience, cX1_patience, 1, (some .int), k_X1_patience)
theorem cok_X1_patience : COK Y_X1_patience.2.1 Y_X1_patience.code = true := by decide +kernel
theorem mok_X1_patience : MOK Y_X1_patience 0 := ⟨mU_6 129 rfl rfl, mU_1 7 rfl rfl, by decide, by decide, by decide +kernel, by decide⟩
theorem ins_X1_patience : INST Y_X1_patience := ⟨mU_6 128 rfl rfl, mV_6 (n := 8) 14 rfl⟩
def k_X1_nthFrom_119 : List CI := (119, .iconst (-1), 1) :: (120, .ireturn, 1) :: []
def k_X1_nthFrom_103 : List CI := (103, .istore 4, 2) :: (105, .iload 6, 2) :: (107, .iload 5, 2) :: (109, .iconst 1, 1) :: (110, .invokestatic 79, 3) :: (113, .iadd, 1) :: (114, .istore 6, 2) :: (116, .goto (-102), 3) :: k_X1_nthFrom_119
def k_X1_nthFrom_98 : List CI := (98, .iload 4, 2) :: (100, .iload 5, 2) :: (102, .isub, 1) :: k_X1_nthFrom_103
def k_X1_nthFrom_81 : List CI := (81, .iload_n 3, 1) :: (82, .iload 9, 2) :: (84, .isub, 1) :: (85, .istore_n 3, 1) :: (86, .iload 9, 2) :: (88, .ifCond .le 10, 3) :: (91, .aload_n 0, 1) :: (92, .invokevirtual 50, 3) :: (95, .goto 8, 3) :: k_X1_nthFrom_98
def k_X1_nthFrom_14 : List CI := (14, .iload 6, 2) :: (16, .ldc 54, 2) :: (18, .if_icmp .gt 101, 3) :: (21, .iload 4, 2) :: (23, .ifCond .le 96, 3) :: (26, .aload_n 0, 1) :: (27, .getfield 19, 3) :: (30, .iload 6, 2) :: (32, .invokevirtual 55, 3) :: (35, .istore 5, 2) :: (37, .aload_n 0, 1) :: (38, .aload_n 0, 1) :: (39, .getfield 19, 3) :: (42, .iload 6, 2) :: (44, .invokevirtual 59, 3) :: (47, .invokevirtual 62, 3) :: (50, .iload 5, 2) :: (52, .invokestatic 66, 3) :: (55, .land, 1) :: (56, .lstore 7, 2) :: (58, .lload 7, 2) :: (60, .invokestatic 69, 3) :: (63, .istore 9, 2) :: (65, .iload 9, 2) :: (67, .iload_n 3, 1) :: (68, .if_icmp .lt 13, 3) :: (71, .iload 6, 2) :: (73, .lload 7, 2) :: (75, .iload_n 3, 1) :: (76, .invokestatic 75, 3) :: (79, .iadd, 1) :: (80, .ireturn, 1) :: k_X1_nthFrom_81
def k_X1_nthFrom : List CI := (0, .iload_n 2, 1) :: (1, .istore_n 3, 1) :: (2, .aload_n 0, 1) :: (3, .invokevirtual 50, 3) :: (6, .istore 4, 2) :: (8, .iconst 1, 1) :: (9, .istore 5, 2) :: (11, .iload_n 1, 1) :: (12, .istore 6, 2) :: k_X1_nthFrom_14
def Y_X1_nthFrom : MD := (yX1_nthFrom, cX1_nthFrom, 10, (some .int), k_X1_nthFrom)
theorem cok_X1_nthFrom : COK Y_X1_nthFrom.2.1 Y_X1_nthFrom.code = true := by decide +kernel
theorem mok_X1_nthFrom : MOK Y_X1_nthFrom 2 := ⟨mU_6 125 rfl rfl, mU_1 7 rfl rfl, by decide, by decide, by decide +kernel, by decide⟩
theorem ins_X1_nthFrom : INST Y_X1_nthFrom := ⟨mU_6 124 rfl rfl, mV_6 (n := 8) 13 rfl⟩
def k_X9_endOf_10 : List CI := (10, .aload_n 0, 1) :: (11, .getfield 21, 3) :: (14, .aload_n 0, 1) :: (15, .getfield 25, 3) :: (18, .getfield 39, 3) :: (21, .iload_n 1, 1) :: (22, .iaload, 1) :: (23, .iconst 0, 1) :: (24, .invokevirtual 42, 3) :: (27, .aload_n 0, 1) :: (28, .getfield 21, 3) :: (31, .iload_n 2, 1) :: (32, .aload_n 0, 1) :: (33, .getfield 25, 3) :: (36, .getfield 48, 3) :: (39, .iload_n 1, 1) :: (40, .iaload, 1) :: (41, .invokevirtual 51, 3) :: (44, .ireturn, 1) :: []
def k_X9_endOf : List CI := (0, .aload_n 0, 1) :: (1, .iload_n 1, 1) :: (2, .invokevirtual 35, 3) :: (5, .ifCond .ne 5, 3) :: (8, .iconst (-1), 1) :: (9, .ireturn, 1) :: k_X9_endOf_10
def Y_X9_endOf : MD := (yX9_endOf, cX9_endOf, 3, (some .int), k_X9_endOf)
theorem cok_X9_endOf : COK Y_X9_endOf.2.1 Y_X9_endOf.code = true := by decide +kernel
theorem mok_X9_endOf : MOK Y_X9_endOf 2 := ⟨mU_6 116 rfl rfl, mU_1 10 rfl rfl, by decide, by decide, by decide +kernel, by decide⟩
theorem ins_X9_endOf : INST Y_X9_endOf := ⟨mU_6 115 rfl rfl, mV_6 (n := 5) 11 rfl⟩
def k_X10_done : List CI := (0, .aload_n 0, 1) :: (1, .iload_n 2, 1) :: (2, .invokevirtual 182, 3) :: (5, .aload_n 0, 1) :: (6, .iload_n 1, 1) :: (7, .invokevirtual 313, 3) :: (10, .aload_n 0, 1) :: (11, .getfield 72, 3) :: (14, .iload_n 1, 1) :: (15, .iload_n 2, 1) :: (16, .invokevirtual 316, 3) :: (19, .ireturn, 1) :: []
def Y_X10_done : MD := (yX10_done, cX10_done, 3, (some .int), k_X10_done)
theorem cok_X10_done : COK Y_X10_done.2.1 Y_X10_done.code = true := by decide +kernel
theorem mok_X10_done : MOK Y_X10_done 2 := ⟨mU_6 108 rfl rfl, mU_1 1 rfl rfl, by decide, by decide, by decide +kernel, by decide⟩
theorem ins_X10_done : INST Y_X10_done := ⟨mU_6 106 rfl rfl, mU_6 107 rfl rfl⟩
def k_X1_walkFrom : List CI := (0, .aload_n 0, 1) :: (1, .iload_n 1, 1) :: (2, .putfield 84, 3) :: (5, .aload_n 0, 1) :: (6, .iload_n 1, 1) :: (7, .putfield 87, 3) :: (10, .aload_n 0, 1) :: (11, .lconst 0, 1) :: (12, .putfield 90, 3) :: (15, .return_, 1) :: []
def Y_X1_walkFrom : MD := (yX1_walkFrom, cX1_walkFrom, 2, none, k_X1_walkFrom)
theorem cok_X1_walkFrom : COK Y_X1_walkFrom.2.1 Y_X1_walkFrom.code = true := by decide +kernel
theorem mok_X1_walkFrom : MOK Y_X1_walkFrom 1 := ⟨mU_6 145 rfl rfl, mU_1 7 rfl rfl, by decide, by decide, by decide +kernel, by decide⟩
theorem ins_X1_walkFrom : INST Y_X1_walkFrom := ⟨mU_6 144 rfl rfl, mV_7 (n := 8) 0 rfl⟩
def k_X1_walkOn_105 : List CI := (105, .aload_n 0, 1) :: (106, .getfield 84, 3) :: (109, .aload_n 0, 1) :: (110, .getfield 90, 3) :: (113, .invokestatic 94, 3) :: (116, .iadd, 1) :: (117, .istore_n 3, 1) :: (118, .aload_n 0, 1) :: (119, .dup, 1) :: (120, .getfield 90, 3) :: (123, .aload_n 0, 1) :: (124, .getfield 90, 3) :: (127, .lconst 1, 1) :: (128, .lsub, 1) :: (129, .land, 1) :: (130, .putfield 90, 3) :: (133, .iload_n 3, 1) :: (134, .ireturn, 1) :: []
def k_X1_walkOn_94 : List CI := (94, .aload_n 0, 1) :: (95, .getfield 90, 3) :: (98, .lconst 0, 1) :: (99, .lcmp, 1) :: (100, .ifCond .ne 5, 3) :: (103, .iconst (-1), 1) :: (104, .ireturn, 1) :: k_X1_walkOn_105
def k_X1_walkOn_7 : List CI := (7, .aload_n 0, 1) :: (8, .getfield 90, 3) :: (11, .lconst 0, 1) :: (12, .lcmp, 1) :: (13, .ifCond .ne 81, 3) :: (16, .aload_n 0, 1) :: (17, .getfield 87, 3) :: (20, .ldc 54, 2) :: (22, .if_icmp .gt 72, 3) :: (25, .iload_n 2, 1) :: (26, .ifCond .le 68, 3) :: (29, .aload_n 0, 1) :: (30, .getfield 19, 3) :: (33, .aload_n 0, 1) :: (34, .getfield 87, 3) :: (37, .invokevirtual 55, 3) :: (40, .istore_n 1, 1) :: (41, .aload_n 0, 1) :: (42, .aload_n 0, 1) :: (43, .getfield 87, 3) :: (46, .putfield 84, 3) :: (49, .aload_n 0, 1) :: (50, .aload_n 0, 1) :: (51, .aload_n 0, 1) :: (52, .getfield 19, 3) :: (55, .aload_n 0, 1) :: (56, .getfield 84, 3) :: (59, .invokevirtual 59, 3) :: (62, .invokevirtual 62, 3) :: (65, .iload_n 1, 1) :: (66, .invokestatic 66, 3) :: (69, .land, 1) :: (70, .putfield 90, 3) :: (73, .aload_n 0, 1) :: (74, .aload_n 0, 1) :: (75, .getfield 84, 3) :: (78, .iload_n 1, 1) :: (79, .iadd, 1) :: (80, .putfield 87, 3) :: (83, .iload_n 2, 1) :: (84, .iload_n 1, 1) :: (85, .iconst 1, 1) :: (86, .invokestatic 79, 3) :: (89, .isub, 1) :: (90, .istore_n 2, 1) :: (91, .goto (-84), 3) :: k_X1_walkOn_94
def k_X1_walkOn : List CI := (0, .iconst 1, 1) :: (1, .istore_n 1, 1) :: (2, .aload_n 0, 1) :: (3, .invokevirtual 50, 3) :: (6, .istore_n 2, 1) :: k_X1_walkOn_7
def Y_X1_walkOn : MD := (yX1_walkOn, cX1_walkOn, 4, (some .int), k_X1_walkOn)
theorem cok_X1_walkOn : COK Y_X1_walkOn.2.1 Y_X1_walkOn.code = true := by decide +kernel
theorem mok_X1_walkOn : MOK Y_X1_walkOn 0 := ⟨mU_6 151 rfl rfl, mU_1 7 rfl rfl, by decide, by decide, by decide +kernel, by decide⟩
theorem ins_X1_walkOn : INST Y_X1_walkOn := ⟨mU_6 150 rfl rfl, mV_7 (n := 8) 1 rfl⟩
def k_X9_bestBegin_187 : List CI := (187, .iload 5, 2) :: (189, .ireturn, 1) :: []
def k_X9_bestBegin_181 : List CI := (181, .iinc 7 1, 3) :: (184, .goto (-128), 3) :: k_X9_bestBegin_187
def k_X9_bestBegin_178 : List CI := (178, .iload 5, 2) :: (180, .ireturn, 1) :: k_X9_bestBegin_181
def k_X9_bestBegin_165 : List CI := (165, .iload 9, 2) :: (167, .iload_n 3, 1) :: (168, .if_icmp .gt 10, 3) :: (171, .iload 6, 2) :: (173, .iload 4, 2) :: (175, .if_icmp .ne 6, 3) :: k_X9_bestBegin_178
def k_X9_bestBegin_97 : List CI := (97, .aload_n 0, 1) :: (98, .getfield 18, 3) :: (101, .iload 7, 2) :: (103, .iload 4, 2) :: (105, .irem, 1) :: (106, .iload 8, 2) :: (108, .iastore, 1) :: (109, .iload 7, 2) :: (111, .iload 4, 2) :: (113, .iconst 1, 1) :: (114, .isub, 1) :: (115, .if_icmp .lt 66, 3) :: (118, .aload_n 0, 1) :: (119, .getfield 18, 3) :: (122, .iload 7, 2) :: (124, .iconst 1, 1) :: (125, .iadd, 1) :: (126, .iload 4, 2) :: (128, .irem, 1) :: (129, .iaload, 1) :: (130, .istore 9, 2) :: (132, .iload 9, 2) :: (134, .iload_n 3, 1) :: (135, .invokestatic 69, 3) :: (138, .istore 10, 2) :: (140, .iload 8, 2) :: (142, .iload 10, 2) :: (144, .isub, 1) :: (145, .iconst 1, 1) :: (146, .iadd, 1) :: (147, .iload 6, 2) :: (149, .if_icmp .ge 16, 3) :: (152, .iload 10, 2) :: (154, .istore 5, 2) :: (156, .iload 8, 2) :: (158, .iload 10, 2) :: (160, .isub, 1) :: (161, .iconst 1, 1) :: (162, .iadd, 1) :: (163, .istore 6, 2) :: k_X9_bestBegin_165
def k_X9_bestBegin_94 : List CI := (94, .iload 5, 2) :: (96, .ireturn, 1) :: k_X9_bestBegin_97
def k_X9_bestBegin_56 : List CI := (56, .iload 7, 2) :: (58, .ldc 64, 2) :: (60, .if_icmp .gt 127, 3) :: (63, .aload_n 0, 1) :: (64, .getfield 21, 3) :: (67, .invokevirtual 65, 3) :: (70, .istore 8, 2) :: (72, .iload 8, 2) :: (74, .iconst (-1), 1) :: (75, .if_icmp .eq 19, 3) :: (78, .iload 4, 2) :: (80, .iconst 1, 1) :: (81, .if_icmp .lt 13, 3) :: (84, .iload 4, 2) :: (86, .aload_n 0, 1) :: (87, .getfield 18, 3) :: (90, .arraylength, 1) :: (91, .if_icmp .le 6, 3) :: k_X9_bestBegin_94
def k_X9_bestBegin_10 : List CI := (10, .aload_n 0, 1) :: (11, .getfield 25, 3) :: (14, .getfield 48, 3) :: (17, .iload_n 1, 1) :: (18, .iaload, 1) :: (19, .istore 4, 2) :: (21, .aload_n 0, 1) :: (22, .getfield 21, 3) :: (25, .aload_n 0, 1) :: (26, .getfield 25, 3) :: (29, .getfield 39, 3) :: (32, .iload_n 1, 1) :: (33, .iaload, 1) :: (34, .iconst 0, 1) :: (35, .invokevirtual 42, 3) :: (38, .aload_n 0, 1) :: (39, .getfield 21, 3) :: (42, .iload_n 2, 1) :: (43, .invokevirtual 59, 3) :: (46, .iconst (-1), 1) :: (47, .istore 5, 2) :: (49, .ldc 63, 2) :: (51, .istore 6, 2) :: (53, .iconst 0, 1) :: (54, .istore 7, 2) :: k_X9_bestBegin_56
def k_X9_bestBegin : List CI := (0, .aload_n 0, 1) :: (1, .iload_n 1, 1) :: (2, .invokevirtual 35, 3) :: (5, .ifCond .ne 5, 3) :: (8, .iconst (-1), 1) :: (9, .ireturn, 1) :: k_X9_bestBegin_10
def Y_X9_bestBegin : MD := (yX9_bestBegin, cX9_bestBegin, 11, (some .int), k_X9_bestBegin)
theorem cok_X9_bestBegin : COK Y_X9_bestBegin.2.1 Y_X9_bestBegin.code = true := by decide +kernel
theorem mok_X9_bestBegin : MOK Y_X9_bestBegin 3 := ⟨mU_6 141 rfl rfl, mU_1 10 rfl rfl, by decide, by decide, by decide +kernel, by decide⟩
theorem ins_X9_bestBegin : INST Y_X9_bestBegin := ⟨mU_6 140 rfl rfl, mV_6 (n := 5) 15 rfl⟩
def k_X10_begun : List CI := (0, .aload_n 0, 1) :: (1, .iload_n 2, 1) :: (2, .invokevirtual 182, 3) :: (5, .aload_n 0, 1) :: (6, .iload_n 1, 1) :: (7, .invokevirtual 313, 3) :: (10, .aload_n 0, 1) :: (11, .getfield 72, 3) :: (14, .iload_n 1, 1) :: (15, .iload_n 2, 1) :: (16, .iload_n 2, 1) :: (17, .aload_n 0, 1) :: (18, .getfield 27, 3) :: (21, .getfield 149, 3) :: (24, .iadd, 1) :: (25, .iconst 1, 1) :: (26, .isub, 1) :: (27, .ldc_w 319, 3) :: (30, .invokestatic 293, 3) :: (33, .invokevirtual 320, 3) :: (36, .ireturn, 1) :: []
def Y_X10_begun : MD := (yX10_begun, cX10_begun, 3, (some .int), k_X10_begun)
theorem cok_X10_begun : COK Y_X10_begun.2.1 Y_X10_begun.code = true := by decide +kernel
theorem mok_X10_begun : MOK Y_X10_begun 2 := ⟨mU_6 137 rfl rfl, mU_1 1 rfl rfl, by decide, by decide, by decide +kernel, by decide⟩
theorem ins_X10_begun : INST Y_X10_begun := ⟨mU_6 135 rfl rfl, mU_6 136 rfl rfl⟩
def k_X9_earliestBehind_90 : List CI := (90, .iload_n 2, 1) :: (91, .ireturn, 1) :: []
def k_X9_earliestBehind_84 : List CI := (84, .iinc 3 1, 3) :: (87, .goto (-83), 3) :: k_X9_earliestBehind_90
def k_X9_earliestBehind_83 : List CI := (83, .istore_n 2, 1) :: k_X9_earliestBehind_84
def k_X9_earliestBehind_82 : List CI := (82, .iload_n 2, 1) :: k_X9_earliestBehind_83
def k_X9_earliestBehind_75 : List CI := (75, .iload 5, 2) :: (77, .iconst 1, 1) :: (78, .iadd, 1) :: (79, .goto 4, 3) :: k_X9_earliestBehind_82
def k_X9_earliestBehind_4 : List CI := (4, .iload_n 3, 1) :: (5, .aload_n 0, 1) :: (6, .getfield 25, 3) :: (9, .getfield 29, 3) :: (12, .if_icmp .ge 78, 3) :: (15, .aload_n 0, 1) :: (16, .getfield 11, 3) :: (19, .iload_n 1, 1) :: (20, .iconst 1, 1) :: (21, .iload_n 3, 1) :: (22, .ishl, 1) :: (23, .iconst (-1), 1) :: (24, .ixor, 1) :: (25, .iand, 1) :: (26, .sipush 255, 3) :: (29, .iand, 1) :: (30, .iaload, 1) :: (31, .istore 4, 2) :: (33, .iload_n 3, 1) :: (34, .iload_n 1, 1) :: (35, .invokestatic 81, 3) :: (38, .ifCond .eq 46, 3) :: (41, .iload 4, 2) :: (43, .iconst (-1), 1) :: (44, .if_icmp .eq 40, 3) :: (47, .aload_n 0, 1) :: (48, .iload_n 3, 1) :: (49, .iload 4, 2) :: (51, .invokevirtual 85, 3) :: (54, .istore 5, 2) :: (56, .iload 5, 2) :: (58, .iconst (-1), 1) :: (59, .if_icmp .eq 23, 3) :: (62, .iload_n 2, 1) :: (63, .iconst (-1), 1) :: (64, .if_icmp .eq 11, 3) :: (67, .iload 5, 2) :: (69, .iconst 1, 1) :: (70, .iadd, 1) :: (71, .iload_n 2, 1) :: (72, .if_icmp .ge 10, 3) :: k_X9_earliestBehind_75
def k_X9_earliestBehind : List CI := (0, .iconst (-1), 1) :: (1, .istore_n 2, 1) :: (2, .iconst 0, 1) :: (3, .istore_n 3, 1) :: k_X9_earliestBehind_4
def Y_X9_earliestBehind : MD := (yX9_earliestBehind, cX9_earliestBehind, 6, (some .int), k_X9_earliestBehind)
theorem cok_X9_earliestBehind : COK Y_X9_earliestBehind.2.1 Y_X9_earliestBehind.code = true := by decide +kernel
theorem mok_X9_earliestBehind : MOK Y_X9_earliestBehind 1 := ⟨mU_6 168 rfl rfl, mU_1 10 rfl rfl, by decide, by decide, by decide +kernel, by decide⟩
theorem ins_X9_earliestBehind : INST Y_X9_earliestBehind := ⟨mU_6 167 rfl rfl, mV_7 (n := 5) 3 rfl⟩
def k_X9_plan_47 : List CI := (47, .return_, 1) :: []
def k_X9_plan_9 : List CI := (9, .iload_n 2, 1) :: (10, .aload_n 0, 1) :: (11, .getfield 25, 3) :: (14, .getfield 29, 3) :: (17, .invokestatic 74, 3) :: (20, .if_icmp .gt 27, 3) :: (23, .iload_n 2, 1) :: (24, .sipush 256, 3) :: (27, .if_icmp .ge 20, 3) :: (30, .aload_n 0, 1) :: (31, .getfield 11, 3) :: (34, .iload_n 2, 1) :: (35, .aload_n 0, 1) :: (36, .iload_n 2, 1) :: (37, .invokevirtual 78, 3) :: (40, .iastore, 1) :: (41, .iinc 2 1, 3) :: (44, .goto (-35), 3) :: k_X9_plan_47
def k_X9_plan : List CI := (0, .aload_n 0, 1) :: (1, .getfield 11, 3) :: (4, .iconst 0, 1) :: (5, .iload_n 1, 1) :: (6, .iastore, 1) :: (7, .iconst 1, 1) :: (8, .istore_n 2, 1) :: k_X9_plan_9
def Y_X9_plan : MD := (yX9_plan, cX9_plan, 3, none, k_X9_plan)
theorem cok_X9_plan : COK Y_X9_plan.2.1 Y_X9_plan.code = true := by decide +kernel
theorem mok_X9_plan : MOK Y_X9_plan 1 := ⟨mU_6 163 rfl rfl, mU_1 10 rfl rfl, by decide, by decide, by decide +kernel, by decide⟩
theorem ins_X9_plan : INST Y_X9_plan := ⟨mU_6 162 rfl rfl, mV_7 (n := 5) 2 rfl⟩
def k_X9_firstInTime_74 : List CI := (74, .iconst 0, 1) :: (75, .ireturn, 1) :: []
def k_X9_firstInTime_68 : List CI := (68, .iinc 3 1, 3) :: (71, .goto (-69), 3) :: k_X9_firstInTime_74
def k_X9_firstInTime_2 : List CI := (2, .iload_n 3, 1) :: (3, .aload_n 0, 1) :: (4, .getfield 25, 3) :: (7, .getfield 29, 3) :: (10, .if_icmp .ge 64, 3) :: (13, .aload_n 0, 1) :: (14, .getfield 15, 3) :: (17, .iload_n 1, 1) :: (18, .iconst 1, 1) :: (19, .iload_n 3, 1) :: (20, .ishl, 1) :: (21, .iconst (-1), 1) :: (22, .ixor, 1) :: (23, .iand, 1) :: (24, .sipush 255, 3) :: (27, .iand, 1) :: (28, .iaload, 1) :: (29, .istore 4, 2) :: (31, .iload_n 3, 1) :: (32, .iload_n 1, 1) :: (33, .invokestatic 81, 3) :: (36, .ifCond .eq 32, 3) :: (39, .iload 4, 2) :: (41, .iconst (-1), 1) :: (42, .if_icmp .eq 26, 3) :: (45, .aload_n 0, 1) :: (46, .iload_n 3, 1) :: (47, .iload_n 2, 1) :: (48, .invokevirtual 85, 3) :: (51, .istore 5, 2) :: (53, .iload 5, 2) :: (55, .iconst (-1), 1) :: (56, .if_icmp .eq 12, 3) :: (59, .iload 5, 2) :: (61, .iload 4, 2) :: (63, .if_icmp .ge 5, 3) :: (66, .iload_n 3, 1) :: (67, .ireturn, 1) :: k_X9_firstInTime_68
def k_X9_firstInTime : List CI := (0, .iconst 0, 1) :: (1, .istore_n 3, 1) :: k_X9_firstInTime_2
def Y_X9_firstInTime : MD := (yX9_firstInTime, cX9_firstInTime, 6, (some .int), k_X9_firstInTime)
theorem cok_X9_firstInTime : COK Y_X9_firstInTime.2.1 Y_X9_firstInTime.code = true := by decide +kernel
theorem mok_X9_firstInTime : MOK Y_X9_firstInTime 2 := ⟨mU_6 199 rfl rfl, mU_1 10 rfl rfl, by decide, by decide, by decide +kernel, by decide⟩
theorem ins_X9_firstInTime : INST Y_X9_firstInTime := ⟨mU_6 198 rfl rfl, mV_7 (n := 5) 10 rfl⟩
def k_X0_stretchTo_54 : List CI := (54, .iload_n 1, 1) :: (55, .iload_n 2, 1) :: (56, .isub, 1) :: (57, .iconst 1, 1) :: (58, .iadd, 1) :: (59, .ireturn, 1) :: []
def k_X0_stretchTo_47 : List CI := (47, .istore_n 2, 1) :: (48, .iinc 3 1, 3) :: (51, .goto (-38), 3) :: k_X0_stretchTo_54
def k_X0_stretchTo_46 : List CI := (46, .iload_n 2, 1) :: k_X0_stretchTo_47
def k_X0_stretchTo_13 : List CI := (13, .iload_n 3, 1) :: (14, .aload_n 0, 1) :: (15, .getfield 50, 3) :: (18, .if_icmp .ge 36, 3) :: (21, .aload_n 0, 1) :: (22, .getfield 27, 3) :: (25, .iload_n 3, 1) :: (26, .iaload, 1) :: (27, .iload_n 1, 1) :: (28, .if_icmp .ge 18, 3) :: (31, .iload_n 2, 1) :: (32, .aload_n 0, 1) :: (33, .getfield 27, 3) :: (36, .iload_n 3, 1) :: (37, .iaload, 1) :: (38, .iconst 1, 1) :: (39, .iadd, 1) :: (40, .invokestatic 53, 3) :: (43, .goto 4, 3) :: k_X0_stretchTo_46
def k_X0_stretchTo : List CI := (0, .iload_n 1, 1) :: (1, .bipush 64, 2) :: (3, .isub, 1) :: (4, .iconst 1, 1) :: (5, .iadd, 1) :: (6, .iconst 0, 1) :: (7, .invokestatic 53, 3) :: (10, .istore_n 2, 1) :: (11, .iconst 0, 1) :: (12, .istore_n 3, 1) :: k_X0_stretchTo_13
def Y_X0_stretchTo : MD := (yX0_stretchTo, cX0_stretchTo, 4, (some .int), k_X0_stretchTo)
theorem cok_X0_stretchTo : COK Y_X0_stretchTo.2.1 Y_X0_stretchTo.code = true := by decide +kernel
theorem mok_X0_stretchTo : MOK Y_X0_stretchTo 1 := ⟨mU_6 194 rfl rfl, mU_1 3 rfl rfl, by decide, by decide, by decide +kernel, by decide⟩
theorem ins_X0_stretchTo : INST Y_X0_stretchTo := ⟨mU_6 193 rfl rfl, mV_7 (n := 8) 9 rfl⟩
def k_X1_nthBack_121 : List CI := (121, .iconst (-1), 1) :: (122, .ireturn, 1) :: []
def k_X1_nthBack_100 : List CI := (100, .iload 4, 2) :: (102, .iload 10, 2) :: (104, .isub, 1) :: (105, .istore 4, 2) :: (107, .iload 6, 2) :: (109, .iload 5, 2) :: (111, .iconst 1, 1) :: (112, .invokestatic 79, 3) :: (115, .isub, 1) :: (116, .istore 6, 2) :: (118, .goto (-109), 3) :: k_X1_nthBack_121
def k_X1_nthBack_99 : List CI := (99, .ireturn, 1) :: k_X1_nthBack_100
def k_X1_nthBack_98 : List CI := (98, .iconst (-1), 1) :: k_X1_nthBack_99
def k_X1_nthBack_9 : List CI := (9, .iload 6, 2) :: (11, .iload_n 3, 1) :: (12, .if_icmp .lt 109, 3) :: (15, .aload_n 0, 1) :: (16, .getfield 19, 3) :: (19, .iload 6, 2) :: (21, .invokevirtual 97, 3) :: (24, .istore 5, 2) :: (26, .iload 6, 2) :: (28, .iload 5, 2) :: (30, .isub, 1) :: (31, .iconst 1, 1) :: (32, .iadd, 1) :: (33, .istore 7, 2) :: (35, .aload_n 0, 1) :: (36, .aload_n 0, 1) :: (37, .getfield 19, 3) :: (40, .iload 7, 2) :: (42, .invokevirtual 59, 3) :: (45, .invokevirtual 62, 3) :: (48, .iload 5, 2) :: (50, .invokestatic 66, 3) :: (53, .land, 1) :: (54, .lstore 8, 2) :: (56, .lload 8, 2) :: (58, .invokestatic 69, 3) :: (61, .istore 10, 2) :: (63, .iload 10, 2) :: (65, .iload 4, 2) :: (67, .if_icmp .lt 33, 3) :: (70, .iload 7, 2) :: (72, .lload 8, 2) :: (74, .iload 10, 2) :: (76, .iload 4, 2) :: (78, .isub, 1) :: (79, .iconst 1, 1) :: (80, .iadd, 1) :: (81, .invokestatic 75, 3) :: (84, .iadd, 1) :: (85, .istore 11, 2) :: (87, .iload 11, 2) :: (89, .iload_n 3, 1) :: (90, .if_icmp .lt 8, 3) :: (93, .iload 11, 2) :: (95, .goto 4, 3) :: k_X1_nthBack_98
def k_X1_nthBack : List CI := (0, .iload_n 2, 1) :: (1, .istore 4, 2) :: (3, .iconst 1, 1) :: (4, .istore 5, 2) :: (6, .iload_n 1, 1) :: (7, .istore 6, 2) :: k_X1_nthBack_9
def Y_X1_nthBack : MD := (yX1_nthBack, cX1_nthBack, 12, (some .int), k_X1_nthBack)
theorem cok_X1_nthBack : COK Y_X1_nthBack.2.1 Y_X1_nthBack.code = true := by decide +kernel
theorem mok_X1_nthBack : MOK Y_X1_nthBack 3 := ⟨mU_6 190 rfl rfl, mU_1 7 rfl rfl, by decide, by decide, by decide +kernel, by decide⟩
theorem ins_X1_nthBack : INST Y_X1_nthBack := ⟨mU_6 189 rfl rfl, mV_7 (n := 8) 8 rfl⟩
def k_X9_latestBegin_10 : List CI := (10, .aload_n 0, 1) :: (11, .getfield 21, 3) :: (14, .aload_n 0, 1) :: (15, .getfield 25, 3) :: (18, .getfield 39, 3) :: (21, .iload_n 1, 1) :: (22, .iaload, 1) :: (23, .iconst 0, 1) :: (24, .invokevirtual 42, 3) :: (27, .aload_n 0, 1) :: (28, .getfield 21, 3) :: (31, .iload_n 2, 1) :: (32, .aload_n 0, 1) :: (33, .getfield 25, 3) :: (36, .getfield 48, 3) :: (39, .iload_n 1, 1) :: (40, .iaload, 1) :: (41, .iload_n 3, 1) :: (42, .invokevirtual 55, 3) :: (45, .ireturn, 1) :: []
def k_X9_latestBegin : List CI := (0, .aload_n 0, 1) :: (1, .iload_n 1, 1) :: (2, .invokevirtual 35, 3) :: (5, .ifCond .ne 5, 3) :: (8, .iconst (-1), 1) :: (9, .ireturn, 1) :: k_X9_latestBegin_10
def Y_X9_latestBegin : MD := (yX9_latestBegin, cX9_latestBegin, 4, (some .int), k_X9_latestBegin)
theorem cok_X9_latestBegin : COK Y_X9_latestBegin.2.1 Y_X9_latestBegin.code = true := by decide +kernel
theorem mok_X9_latestBegin : MOK Y_X9_latestBegin 3 := ⟨mU_6 186 rfl rfl, mU_1 10 rfl rfl, by decide, by decide, by decide +kernel, by decide⟩
theorem ins_X9_latestBegin : INST Y_X9_latestBegin := ⟨mU_6 185 rfl rfl, mV_7 (n := 5) 7 rfl⟩
def k_X9_latestAheadOf_73 : List CI := (73, .iload_n 3, 1) :: (74, .ireturn, 1) :: []
def k_X9_latestAheadOf_67 : List CI := (67, .iinc 4 1, 3) :: (70, .goto (-65), 3) :: k_X9_latestAheadOf_73
def k_X9_latestAheadOf_5 : List CI := (5, .iload 4, 2) :: (7, .aload_n 0, 1) :: (8, .getfield 25, 3) :: (11, .getfield 29, 3) :: (14, .if_icmp .ge 59, 3) :: (17, .aload_n 0, 1) :: (18, .getfield 15, 3) :: (21, .iload_n 1, 1) :: (22, .iconst 1, 1) :: (23, .iload 4, 2) :: (25, .ishl, 1) :: (26, .iconst (-1), 1) :: (27, .ixor, 1) :: (28, .iand, 1) :: (29, .sipush 255, 3) :: (32, .iand, 1) :: (33, .iaload, 1) :: (34, .istore 5, 2) :: (36, .iload 4, 2) :: (38, .iload_n 1, 1) :: (39, .invokestatic 81, 3) :: (42, .ifCond .eq 25, 3) :: (45, .iload 5, 2) :: (47, .iconst (-1), 1) :: (48, .if_icmp .eq 19, 3) :: (51, .iload_n 3, 1) :: (52, .aload_n 0, 1) :: (53, .iload 4, 2) :: (55, .iload 5, 2) :: (57, .iconst 1, 1) :: (58, .isub, 1) :: (59, .iload_n 2, 1) :: (60, .invokevirtual 94, 3) :: (63, .invokestatic 97, 3) :: (66, .istore_n 3, 1) :: k_X9_latestAheadOf_67
def k_X9_latestAheadOf : List CI := (0, .iconst (-1), 1) :: (1, .istore_n 3, 1) :: (2, .iconst 0, 1) :: (3, .istore 4, 2) :: k_X9_latestAheadOf_5
def Y_X9_latestAheadOf : MD := (yX9_latestAheadOf, cX9_latestAheadOf, 6, (some .int), k_X9_latestAheadOf)
theorem cok_X9_latestAheadOf : COK Y_X9_latestAheadOf.2.1 Y_X9_latestAheadOf.code = true := by decide +kernel
theorem mok_X9_latestAheadOf : MOK Y_X9_latestAheadOf 2 := ⟨mU_6 182 rfl rfl, mU_1 10 rfl rfl, by decide, by decide, by decide +kernel, by decide⟩
theorem ins_X9_latestAheadOf : INST Y_X9_latestAheadOf := ⟨mU_6 181 rfl rfl, mV_7 (n := 5) 6 rfl⟩
def k_X9_firstOrder_135 : List CI := (135, .iload_n 3, 1) :: (136, .ireturn, 1) :: []
def k_X9_firstOrder_79 : List CI := (79, .iload 5, 2) :: (81, .aload_n 0, 1) :: (82, .getfield 25, 3) :: (85, .getfield 29, 3) :: (88, .if_icmp .ge 47, 3) :: (91, .aload_n 0, 1) :: (92, .iload_n 2, 1) :: (93, .iload 4, 2) :: (95, .invokevirtual 91, 3) :: (98, .istore 6, 2) :: (100, .bipush 10, 2) :: (102, .iload_n 3, 1) :: (103, .imul, 1) :: (104, .iload 6, 2) :: (106, .iadd, 1) :: (107, .istore_n 3, 1) :: (108, .aload_n 0, 1) :: (109, .iload 6, 2) :: (111, .iload 4, 2) :: (113, .invokevirtual 85, 3) :: (116, .iconst 1, 1) :: (117, .iadd, 1) :: (118, .istore 4, 2) :: (120, .iload_n 2, 1) :: (121, .iconst 1, 1) :: (122, .iload 6, 2) :: (124, .ishl, 1) :: (125, .iconst (-1), 1) :: (126, .ixor, 1) :: (127, .iand, 1) :: (128, .istore_n 2, 1) :: (129, .iinc 5 1, 3) :: (132, .goto (-53), 3) :: k_X9_firstOrder_135
def k_X9_firstOrder_71 : List CI := (71, .iconst 0, 1) :: (72, .istore_n 3, 1) :: (73, .iload_n 1, 1) :: (74, .istore 4, 2) :: (76, .iconst 0, 1) :: (77, .istore 5, 2) :: k_X9_firstOrder_79
def k_X9_firstOrder_41 : List CI := (41, .iload_n 3, 1) :: (42, .iload_n 2, 1) :: (43, .if_icmp .gt 28, 3) :: (46, .iload_n 3, 1) :: (47, .sipush 256, 3) :: (50, .if_icmp .ge 21, 3) :: (53, .aload_n 0, 1) :: (54, .getfield 15, 3) :: (57, .iload_n 3, 1) :: (58, .aload_n 0, 1) :: (59, .iload_n 3, 1) :: (60, .iload_n 1, 1) :: (61, .invokevirtual 88, 3) :: (64, .iastore, 1) :: (65, .iinc 3 1, 3) :: (68, .goto (-27), 3) :: k_X9_firstOrder_71
def k_X9_firstOrder_39 : List CI := (39, .iconst 1, 1) :: (40, .istore_n 3, 1) :: k_X9_firstOrder_41
def k_X9_firstOrder : List CI := (0, .aload_n 0, 1) :: (1, .getfield 25, 3) :: (4, .getfield 29, 3) :: (7, .invokestatic 74, 3) :: (10, .istore_n 2, 1) :: (11, .aload_n 0, 1) :: (12, .getfield 15, 3) :: (15, .iconst 0, 1) :: (16, .aload_n 0, 1) :: (17, .getfield 11, 3) :: (20, .iload_n 2, 1) :: (21, .sipush 255, 3) :: (24, .iand, 1) :: (25, .iaload, 1) :: (26, .iastore, 1) :: (27, .aload_n 0, 1) :: (28, .getfield 15, 3) :: (31, .iconst 0, 1) :: (32, .iaload, 1) :: (33, .iconst (-1), 1) :: (34, .if_icmp .ne 5, 3) :: (37, .iconst (-1), 1) :: (38, .ireturn, 1) :: k_X9_firstOrder_39
def Y_X9_firstOrder : MD := (yX9_firstOrder, cX9_firstOrder, 7, (some .int), k_X9_firstOrder)
theorem cok_X9_firstOrder : COK Y_X9_firstOrder.2.1 Y_X9_firstOrder.code = true := by decide +kernel
theorem mok_X9_firstOrder : MOK Y_X9_firstOrder 1 := ⟨mU_6 178 rfl rfl, mU_1 10 rfl rfl, by decide, by decide, by decide +kernel, by decide⟩
theorem ins_X9_firstOrder : INST Y_X9_firstOrder := ⟨mU_6 177 rfl rfl, mV_7 (n := 5) 5 rfl⟩
def k_X9_earliestEnd_32 : List CI := (32, .ireturn, 1) :: []
def k_X9_earliestEnd_29 : List CI := (29, .iload_n 1, 1) :: (30, .iconst 1, 1) :: (31, .isub, 1) :: k_X9_earliestEnd_32
def k_X9_earliestEnd : List CI := (0, .aload_n 0, 1) :: (1, .getfield 11, 3) :: (4, .aload_n 0, 1) :: (5, .getfield 25, 3) :: (8, .getfield 29, 3) :: (11, .invokestatic 74, 3) :: (14, .sipush 255, 3) :: (17, .iand, 1) :: (18, .iaload, 1) :: (19, .istore_n 1, 1) :: (20, .iload_n 1, 1) :: (21, .iconst (-1), 1) :: (22, .if_icmp .ne 7, 3) :: (25, .iconst (-1), 1) :: (26, .goto 6, 3) :: k_X9_earliestEnd_29
def Y_X9_earliestEnd : MD := (yX9_earliestEnd, cX9_earliestEnd, 2, (some .int), k_X9_earliestEnd)
theorem cok_X9_earliestEnd : COK Y_X9_earliestEnd.2.1 Y_X9_earliestEnd.code = true := by decide +kernel
theorem mok_X9_earliestEnd : MOK Y_X9_earliestEnd 0 := ⟨mU_6 174 rfl rfl, mU_1 10 rfl rfl, by decide, by decide, by decide +kernel, by decide⟩
theorem ins_X9_earliestEnd : INST Y_X9_earliestEnd := ⟨mU_6 173 rfl rfl, mV_7 (n := 5) 4 rfl⟩
def k_X10_soonest_40 : List CI := (40, .ireturn, 1) :: []
def k_X10_soonest_32 : List CI := (32, .aload_n 0, 1) :: (33, .getfield 72, 3) :: (36, .iload_n 1, 1) :: (37, .invokevirtual 330, 3) :: k_X10_soonest_40
def k_X10_soonest : List CI := (0, .aload_n 0, 1) :: (1, .iload_n 1, 1) :: (2, .invokevirtual 182, 3) :: (5, .aload_n 0, 1) :: (6, .iload_n 2, 1) :: (7, .invokevirtual 158, 3) :: (10, .aload_n 0, 1) :: (11, .getfield 72, 3) :: (14, .iload_n 1, 1) :: (15, .invokevirtual 324, 3) :: (18, .iload_n 2, 1) :: (19, .ifCond .ne 13, 3) :: (22, .aload_n 0, 1) :: (23, .getfield 72, 3) :: (26, .invokevirtual 327, 3) :: (29, .goto 11, 3) :: k_X10_soonest_32
def Y_X10_soonest : MD := (yX10_soonest, cX10_soonest, 3, (some .int), k_X10_soonest)
theorem cok_X10_soonest : COK Y_X10_soonest.2.1 Y_X10_soonest.code = true := by decide +kernel
theorem mok_X10_soonest : MOK Y_X10_soonest 2 := ⟨mU_6 159 rfl rfl, mU_1 1 rfl rfl, by decide, by decide, by decide +kernel, by decide⟩
theorem ins_X10_soonest : INST Y_X10_soonest := ⟨mU_6 157 rfl rfl, mU_6 158 rfl rfl⟩
def k_X10_rest : List CI := (0, .aload_n 0, 1) :: (1, .getfield 34, 3) :: (4, .getfield 333, 3) :: (7, .istore_n 1, 1) :: (8, .aload_n 0, 1) :: (9, .getfield 34, 3) :: (12, .iconst 0, 1) :: (13, .putfield 333, 3) :: (16, .iload_n 1, 1) :: (17, .ireturn, 1) :: []
def Y_X10_rest : MD := (yX10_rest, cX10_rest, 2, (some .int), k_X10_rest)
theorem cok_X10_rest : COK Y_X10_rest.2.1 Y_X10_rest.code = true := by decide +kernel
theorem mok_X10_rest : MOK Y_X10_rest 0 := ⟨mU_2 203 rfl rfl, mU_1 1 rfl rfl, by decide, by decide, by decide +kernel, by decide⟩
theorem ins_X10_rest : INST Y_X10_rest := ⟨mU_2 201 rfl rfl, mU_2 202 rfl rfl⟩
def k_X10_needTwoLaws_21 : List CI := (21, .invokevirtual 101, 3) :: (24, .return_, 1) :: []
def k_X10_needTwoLaws_20 : List CI := (20, .iconst 0, 1) :: k_X10_needTwoLaws_21
def k_X10_needTwoLaws : List CI := (0, .aload_n 0, 1) :: (1, .iload_n 1, 1) :: (2, .invokevirtual 155, 3) :: (5, .aload_n 0, 1) :: (6, .iload_n 2, 1) :: (7, .invokevirtual 155, 3) :: (10, .aload_n 0, 1) :: (11, .iload_n 1, 1) :: (12, .iload_n 2, 1) :: (13, .if_icmp .eq 7, 3) :: (16, .iconst 1, 1) :: (17, .goto 4, 3) :: k_X10_needTwoLaws_20
def Y_X10_needTwoLaws : MD := (yX10_needTwoLaws, cX10_needTwoLaws, 3, none, k_X10_needTwoLaws)
theorem cok_X10_needTwoLaws : COK Y_X10_needTwoLaws.2.1 Y_X10_needTwoLaws.code = true := by decide +kernel
theorem mok_X10_needTwoLaws : MOK Y_X10_needTwoLaws 2 := ⟨mU_6 210 rfl rfl, mU_1 1 rfl rfl, by decide, by decide, by decide +kernel, by decide⟩
theorem ins_X10_needTwoLaws : INST Y_X10_needTwoLaws := ⟨mU_6 209 rfl rfl, mV_7 (n := 17) 11 rfl⟩
def k_X2_daysWithout_59 : List CI := (59, .isub, 1) :: (60, .ireturn, 1) :: []
def k_X2_daysWithout_58 : List CI := (58, .iconst 0, 1) :: k_X2_daysWithout_59
def k_X2_daysWithout_32 : List CI := (32, .iload_n 3, 1) :: (33, .aload_n 0, 1) :: (34, .iload_n 1, 1) :: (35, .invokevirtual 105, 3) :: (38, .idiv, 1) :: (39, .iload_n 2, 1) :: (40, .aload_n 0, 1) :: (41, .iload_n 1, 1) :: (42, .invokevirtual 108, 3) :: (45, .invokestatic 61, 3) :: (48, .ifCond .eq 10, 3) :: (51, .iload_n 3, 1) :: (52, .iload 4, 2) :: (54, .idiv, 1) :: (55, .goto 4, 3) :: k_X2_daysWithout_58
def k_X2_daysWithout_30 : List CI := (30, .iconst 0, 1) :: (31, .ireturn, 1) :: k_X2_daysWithout_32
def k_X2_daysWithout : List CI := (0, .aload_n 0, 1) :: (1, .iload_n 1, 1) :: (2, .invokevirtual 105, 3) :: (5, .aload_n 0, 1) :: (6, .iload_n 2, 1) :: (7, .invokevirtual 105, 3) :: (10, .invokestatic 68, 3) :: (13, .istore 4, 2) :: (15, .iload 4, 2) :: (17, .iconst 1, 1) :: (18, .if_icmp .lt 12, 3) :: (21, .aload_n 0, 1) :: (22, .iload_n 1, 1) :: (23, .invokevirtual 105, 3) :: (26, .iconst 1, 1) :: (27, .if_icmp .ge 5, 3) :: k_X2_daysWithout_30
def Y_X2_daysWithout : MD := (yX2_daysWithout, cX2_daysWithout, 5, (some .int), k_X2_daysWithout)
theorem cok_X2_daysWithout : COK Y_X2_daysWithout.2.1 Y_X2_daysWithout.code = true := by decide +kernel
theorem mok_X2_daysWithout : MOK Y_X2_daysWithout 3 := ⟨mU_6 214 rfl rfl, mU_1 4 rfl rfl, by decide, by decide, by decide +kernel, by decide⟩
theorem ins_X2_daysWithout : INST Y_X2_daysWithout := ⟨mU_6 213 rfl rfl, mV_7 (n := 9) 12 rfl⟩
def k_X10_thief : List CI := (0, .aload_n 0, 1) :: (1, .iload_n 1, 1) :: (2, .iload_n 2, 1) :: (3, .invokevirtual 335, 3) :: (6, .aload_n 0, 1) :: (7, .getfield 27, 3) :: (10, .getfield 128, 3) :: (13, .iload_n 1, 1) :: (14, .iload_n 2, 1) :: (15, .aload_n 0, 1) :: (16, .getfield 27, 3) :: (19, .getfield 149, 3) :: (22, .invokevirtual 338, 3) :: (25, .ireturn, 1) :: []
def Y_X10_thief : MD := (yX10_thief, cX10_thief, 3, (some .int), k_X10_thief)
theorem cok_X10_thief : COK Y_X10_thief.2.1 Y_X10_thief.code = true := by decide +kernel
theorem mok_X10_thief : MOK Y_X10_thief 2 := ⟨mU_6 206 rfl rfl, mU_1 1 rfl rfl, by decide, by decide, by decide +kernel, by decide⟩
theorem ins_X10_thief : INST Y_X10_thief := ⟨mU_6 204 rfl rfl, mU_6 205 rfl rfl⟩
def k_X2_watchDay_103 : List CI := (103, .iload 6, 2) :: (105, .ireturn, 1) :: []
def k_X2_watchDay_86 : List CI := (86, .iload 7, 2) :: (88, .aload_n 0, 1) :: (89, .iload_n 1, 1) :: (90, .invokevirtual 105, 3) :: (93, .iconst 1, 1) :: (94, .invokestatic 9, 3) :: (97, .iadd, 1) :: (98, .istore 7, 2) :: (100, .goto (-58), 3) :: k_X2_watchDay_103
def k_X2_watchDay_82 : List CI := (82, .iload 8, 2) :: (84, .istore 6, 2) :: k_X2_watchDay_86
def k_X2_watchDay_42 : List CI := (42, .iload 7, 2) :: (44, .iload 5, 2) :: (46, .if_icmp .ge 57, 3) :: (49, .aload_n 0, 1) :: (50, .iload_n 2, 1) :: (51, .iload 7, 2) :: (53, .invokevirtual 71, 3) :: (56, .ifCond .ne 30, 3) :: (59, .iload 7, 2) :: (61, .iload_n 3, 1) :: (62, .invokestatic 54, 3) :: (65, .istore 8, 2) :: (67, .iload 6, 2) :: (69, .iconst (-1), 1) :: (70, .if_icmp .eq 12, 3) :: (73, .iload 6, 2) :: (75, .iload 8, 2) :: (77, .if_icmp .eq 5, 3) :: (80, .iconst (-1), 1) :: (81, .ireturn, 1) :: k_X2_watchDay_82
def k_X2_watchDay_30 : List CI := (30, .istore 5, 2) :: (32, .iconst (-1), 1) :: (33, .istore 6, 2) :: (35, .aload_n 0, 1) :: (36, .iload_n 1, 1) :: (37, .invokevirtual 111, 3) :: (40, .istore 7, 2) :: k_X2_watchDay_42
def k_X2_watchDay_29 : List CI := (29, .iconst 0, 1) :: k_X2_watchDay_30
def k_X2_watchDay : List CI := (0, .aload_n 0, 1) :: (1, .iload_n 1, 1) :: (2, .invokevirtual 105, 3) :: (5, .aload_n 0, 1) :: (6, .iload_n 2, 1) :: (7, .invokevirtual 105, 3) :: (10, .invokestatic 68, 3) :: (13, .istore 4, 2) :: (15, .iload 4, 2) :: (17, .iload_n 3, 1) :: (18, .invokestatic 54, 3) :: (21, .ifCond .ne 8, 3) :: (24, .iload 4, 2) :: (26, .goto 4, 3) :: k_X2_watchDay_29
def Y_X2_watchDay : MD := (yX2_watchDay, cX2_watchDay, 9, (some .int), k_X2_watchDay)
theorem cok_X2_watchDay : COK Y_X2_watchDay.2.1 Y_X2_watchDay.code = true := by decide +kernel
theorem mok_X2_watchDay : MOK Y_X2_watchDay 3 := ⟨mU_6 227 rfl rfl, mU_1 4 rfl rfl, by decide, by decide, by decide +kernel, by decide⟩
theorem ins_X2_watchDay : INST Y_X2_watchDay := ⟨mU_6 226 rfl rfl, mV_7 (n := 9) 13 rfl⟩
def k_X10_guard_49 : List CI := (49, .iconst (-1), 1) :: (50, .ireturn, 1) :: []
def k_X10_guard_43 : List CI := (43, .iinc 3 (-1), 3) :: (46, .goto (-37), 3) :: k_X10_guard_49
def k_X10_guard_9 : List CI := (9, .iload_n 3, 1) :: (10, .iconst 2, 1) :: (11, .if_icmp .lt 38, 3) :: (14, .aload_n 0, 1) :: (15, .getfield 27, 3) :: (18, .getfield 128, 3) :: (21, .iload_n 1, 1) :: (22, .iload_n 2, 1) :: (23, .iload_n 3, 1) :: (24, .invokevirtual 341, 3) :: (27, .istore 4, 2) :: (29, .iload 4, 2) :: (31, .iconst (-1), 1) :: (32, .if_icmp .eq 11, 3) :: (35, .bipush 100, 2) :: (37, .iload_n 3, 1) :: (38, .imul, 1) :: (39, .iload 4, 2) :: (41, .iadd, 1) :: (42, .ireturn, 1) :: k_X10_guard_43
def k_X10_guard : List CI := (0, .aload_n 0, 1) :: (1, .iload_n 1, 1) :: (2, .iload_n 2, 1) :: (3, .invokevirtual 335, 3) :: (6, .bipush 24, 2) :: (8, .istore_n 3, 1) :: k_X10_guard_9
def Y_X10_guard : MD := (yX10_guard, cX10_guard, 5, (some .int), k_X10_guard)
theorem cok_X10_guard : COK Y_X10_guard.2.1 Y_X10_guard.code = true := by decide +kernel
theorem mok_X10_guard : MOK Y_X10_guard 2 := ⟨mU_6 223 rfl rfl, mU_1 1 rfl rfl, by decide, by decide, by decide +kernel, by decide⟩
theorem ins_X10_guard : INST Y_X10_guard := ⟨mU_6 221 rfl rfl, mU_6 222 rfl rfl⟩
def k_X10_needOthers_26 : List CI := (26, .invokevirtual 101, 3) :: (29, .return_, 1) :: []
def k_X10_needOthers_25 : List CI := (25, .iconst 0, 1) :: k_X10_needOthers_26
def k_X10_needOthers : List CI := (0, .aload_n 0, 1) :: (1, .iload_n 1, 1) :: (2, .aload_n 0, 1) :: (3, .getfield 27, 3) :: (6, .getfield 140, 3) :: (9, .getfield 132, 3) :: (12, .invokestatic 237, 3) :: (15, .iconst (-1), 1) :: (16, .ixor, 1) :: (17, .iand, 1) :: (18, .ifCond .ne 7, 3) :: (21, .iconst 1, 1) :: (22, .goto 4, 3) :: k_X10_needOthers_25
def Y_X10_needOthers : MD := (yX10_needOthers, cX10_needOthers, 2, none, k_X10_needOthers)
theorem cok_X10_needOthers : COK Y_X10_needOthers.2.1 Y_X10_needOthers.code = true := by decide +kernel
theorem mok_X10_needOthers : MOK Y_X10_needOthers 1 := ⟨mU_6 239 rfl rfl, mU_1 1 rfl rfl, by decide, by decide, by decide +kernel, by decide⟩
theorem ins_X10_needOthers : INST Y_X10_needOthers := ⟨mU_6 238 rfl rfl, mV_7 (n := 17) 14 rfl⟩
def k_X10_trade_71 : List CI := (71, .iload_n 3, 1) :: (72, .ireturn, 1) :: []
def k_X10_trade_24 : List CI := (24, .iload 4, 2) :: (26, .aload_n 0, 1) :: (27, .getfield 27, 3) :: (30, .getfield 152, 3) :: (33, .if_icmp .ge 38, 3) :: (36, .iload_n 3, 1) :: (37, .aload_n 0, 1) :: (38, .getfield 63, 3) :: (41, .iload 4, 2) :: (43, .invokevirtual 347, 3) :: (46, .aload_n 0, 1) :: (47, .getfield 27, 3) :: (50, .getfield 152, 3) :: (53, .iload 4, 2) :: (55, .isub, 1) :: (56, .invokestatic 229, 3) :: (59, .land, 1) :: (60, .invokestatic 232, 3) :: (63, .iadd, 1) :: (64, .istore_n 3, 1) :: (65, .iinc 4 64, 3) :: (68, .goto (-44), 3) :: k_X10_trade_71
def k_X10_trade : List CI := (0, .aload_n 0, 1) :: (1, .iload_n 1, 1) :: (2, .invokevirtual 201, 3) :: (5, .aload_n 0, 1) :: (6, .iload_n 2, 1) :: (7, .invokevirtual 344, 3) :: (10, .aload_n 0, 1) :: (11, .getfield 63, 3) :: (14, .iload_n 1, 1) :: (15, .iload_n 2, 1) :: (16, .invokevirtual 240, 3) :: (19, .iconst 0, 1) :: (20, .istore_n 3, 1) :: (21, .iconst 0, 1) :: (22, .istore 4, 2) :: k_X10_trade_24
def Y_X10_trade : MD := (yX10_trade, cX10_trade, 5, (some .int), k_X10_trade)
theorem cok_X10_trade : COK Y_X10_trade.2.1 Y_X10_trade.code = true := by decide +kernel
theorem mok_X10_trade : MOK Y_X10_trade 2 := ⟨mU_6 235 rfl rfl, mU_1 1 rfl rfl, by decide, by decide, by decide +kernel, by decide⟩
theorem ins_X10_trade : INST Y_X10_trade := ⟨mU_6 233 rfl rfl, mU_6 234 rfl rfl⟩
def k_X10_market : List CI := (0, .aload_n 0, 1) :: (1, .iload_n 1, 1) :: (2, .invokevirtual 182, 3) :: (5, .aload_n 0, 1) :: (6, .iload_n 2, 1) :: (7, .invokevirtual 201, 3) :: (10, .aload_n 0, 1) :: (11, .iload_n 3, 1) :: (12, .invokevirtual 344, 3) :: (15, .aload_n 0, 1) :: (16, .getfield 63, 3) :: (19, .iload_n 2, 1) :: (20, .iload_n 3, 1) :: (21, .invokevirtual 240, 3) :: (24, .aload_n 0, 1) :: (25, .getfield 63, 3) :: (28, .iload_n 1, 1) :: (29, .iconst 1, 1) :: (30, .invokevirtual 349, 3) :: (33, .ireturn, 1) :: []
def Y_X10_market : MD := (yX10_market, cX10_market, 4, (some .int), k_X10_market)
theorem cok_X10_market : COK Y_X10_market.2.1 Y_X10_market.code = true := by decide +kernel
theorem mok_X10_market : MOK Y_X10_market 3 := ⟨mU_7 7 rfl rfl, mU_1 1 rfl rfl, by decide, by decide, by decide +kernel, by decide⟩
theorem ins_X10_market : INST Y_X10_market := ⟨mU_7 5 rfl rfl, mU_7 6 rfl rfl⟩
def k_X3_copy_198 : List CI := (198, .return_, 1) :: []
def k_X3_copy_160 : List CI := (160, .iload_n 2, 1) :: (161, .aload_n 0, 1) :: (162, .getfield 59, 3) :: (165, .if_icmp .ge 33, 3) :: (168, .aload_n 0, 1) :: (169, .getfield 37, 3) :: (172, .iload_n 2, 1) :: (173, .aload_n 1, 1) :: (174, .getfield 37, 3) :: (177, .iload_n 2, 1) :: (178, .iaload, 1) :: (179, .iastore, 1) :: (180, .aload_n 0, 1) :: (181, .getfield 40, 3) :: (184, .iload_n 2, 1) :: (185, .aload_n 1, 1) :: (186, .getfield 40, 3) :: (189, .iload_n 2, 1) :: (190, .iaload, 1) :: (191, .iastore, 1) :: (192, .iinc 2 1, 3) :: (195, .goto (-35), 3) :: k_X3_copy_198
def k_X3_copy_150 : List CI := (150, .aload_n 0, 1) :: (151, .aload_n 1, 1) :: (152, .getfield 59, 3) :: (155, .putfield 59, 3) :: (158, .iconst 0, 1) :: (159, .istore_n 2, 1) :: k_X3_copy_160
def k_X3_copy_88 : List CI := (88, .iload_n 2, 1) :: (89, .aload_n 0, 1) :: (90, .getfield 56, 3) :: (93, .if_icmp .ge 57, 3) :: (96, .aload_n 0, 1) :: (97, .getfield 25, 3) :: (100, .iload_n 2, 1) :: (101, .aload_n 1, 1) :: (102, .getfield 25, 3) :: (105, .iload_n 2, 1) :: (106, .iaload, 1) :: (107, .iastore, 1) :: (108, .aload_n 0, 1) :: (109, .getfield 28, 3) :: (112, .iload_n 2, 1) :: (113, .aload_n 1, 1) :: (114, .getfield 28, 3) :: (117, .iload_n 2, 1) :: (118, .iaload, 1) :: (119, .iastore, 1) :: (120, .aload_n 0, 1) :: (121, .getfield 31, 3) :: (124, .iload_n 2, 1) :: (125, .aload_n 1, 1) :: (126, .getfield 31, 3) :: (129, .iload_n 2, 1) :: (130, .iaload, 1) :: (131, .iastore, 1) :: (132, .aload_n 0, 1) :: (133, .getfield 34, 3) :: (136, .iload_n 2, 1) :: (137, .aload_n 1, 1) :: (138, .getfield 34, 3) :: (141, .iload_n 2, 1) :: (142, .baload, 1) :: (143, .bastore, 1) :: (144, .iinc 2 1, 3) :: (147, .goto (-59), 3) :: k_X3_copy_150
def k_X3_copy_78 : List CI := (78, .aload_n 0, 1) :: (79, .aload_n 1, 1) :: (80, .getfield 56, 3) :: (83, .putfield 56, 3) :: (86, .iconst 0, 1) :: (87, .istore_n 2, 1) :: k_X3_copy_88
def k_X3_copy_28 : List CI := (28, .iload_n 2, 1) :: (29, .aload_n 0, 1) :: (30, .getfield 52, 3) :: (33, .if_icmp .ge 45, 3) :: (36, .aload_n 0, 1) :: (37, .getfield 15, 3) :: (40, .iload_n 2, 1) :: (41, .aload_n 1, 1) :: (42, .getfield 15, 3) :: (45, .iload_n 2, 1) :: (46, .iaload, 1) :: (47, .iastore, 1) :: (48, .aload_n 0, 1) :: (49, .getfield 18, 3) :: (52, .iload_n 2, 1) :: (53, .aload_n 1, 1) :: (54, .getfield 18, 3) :: (57, .iload_n 2, 1) :: (58, .iaload, 1) :: (59, .iastore, 1) :: (60, .aload_n 0, 1) :: (61, .getfield 21, 3) :: (64, .iload_n 2, 1) :: (65, .aload_n 1, 1) :: (66, .getfield 21, 3) :: (69, .iload_n 2, 1) :: (70, .baload, 1) :: (71, .bastore, 1) :: (72, .iinc 2 1, 3) :: (75, .goto (-47), 3) :: k_X3_copy_78
def k_X3_copy : List CI := (0, .aload_n 1, 1) :: (1, .getfield 9, 3) :: (4, .iconst 0, 1) :: (5, .aload_n 0, 1) :: (6, .getfield 9, 3) :: (9, .iconst 0, 1) :: (10, .aload_n 0, 1) :: (11, .getfield 9, 3) :: (14, .arraylength, 1) :: (15, .invokestatic 46, 3) :: (18, .aload_n 0, 1) :: (19, .aload_n 1, 1) :: (20, .getfield 52, 3) :: (23, .putfield 52, 3) :: (26, .iconst 0, 1) :: (27, .istore_n 2, 1) :: k_X3_copy_28
def Y_X3_copy : MD := (yX3_copy, cX3_copy, 3, none, k_X3_copy)
theorem cok_X3_copy : COK Y_X3_copy.2.1 Y_X3_copy.code = true := by decide +kernel
theorem mok_X3_copy : MOK Y_X3_copy 1 := ⟨mU_2 211 rfl rfl, mU_1 6 rfl rfl, by decide, by decide, by decide +kernel, by decide⟩
theorem ins_X3_copy : INST Y_X3_copy := ⟨mU_2 210 rfl rfl, mV_1 (n := 13) 1 rfl⟩
def k_X10_image_14 : List CI := (14, .aload_n 0, 1) :: (15, .getfield 38, 3) :: (18, .aload_n 0, 1) :: (19, .getfield 125, 3) :: (22, .aaload, 1) :: (23, .aload_n 0, 1) :: (24, .getfield 34, 3) :: (27, .invokevirtual 352, 3) :: (30, .aload_n 0, 1) :: (31, .dup, 1) :: (32, .getfield 125, 3) :: (35, .iconst 1, 1) :: (36, .iadd, 1) :: (37, .putfield 125, 3) :: (40, .aload_n 0, 1) :: (41, .getfield 125, 3) :: (44, .ireturn, 1) :: []
def k_X10_image : List CI := (0, .aload_n 0, 1) :: (1, .getfield 125, 3) :: (4, .aload_n 0, 1) :: (5, .getfield 38, 3) :: (8, .arraylength, 1) :: (9, .if_icmp .lt 5, 3) :: (12, .iconst (-1), 1) :: (13, .ireturn, 1) :: k_X10_image_14
def Y_X10_image : MD := (yX10_image, cX10_image, 1, (some .int), k_X10_image)
theorem cok_X10_image : COK Y_X10_image.2.1 Y_X10_image.code = true := by decide +kernel
theorem mok_X10_image : MOK Y_X10_image 0 := ⟨mU_2 207 rfl rfl, mU_1 1 rfl rfl, by decide, by decide, by decide +kernel, by decide⟩
theorem ins_X10_image : INST Y_X10_image := ⟨mU_2 205 rfl rfl, mU_2 206 rfl rfl⟩
def k_X10_restore_22 : List CI := (22, .aload_n 0, 1) :: (23, .dup, 1) :: (24, .getfield 125, 3) :: (27, .iconst 1, 1) :: (28, .isub, 1) :: (29, .putfield 125, 3) :: (32, .aload_n 0, 1) :: (33, .getfield 34, 3) :: (36, .aload_n 0, 1) :: (37, .getfield 38, 3) :: (40, .aload_n 0, 1) :: (41, .getfield 125, 3) :: (44, .aaload, 1) :: (45, .invokevirtual 352, 3) :: (48, .aload_n 0, 1) :: (49, .getfield 125, 3) :: (52, .ireturn, 1) :: []
def k_X10_restore_20 : List CI := (20, .iconst (-1), 1) :: (21, .ireturn, 1) :: k_X10_restore_22
def k_X10_restore : List CI := (0, .aload_n 0, 1) :: (1, .getfield 125, 3) :: (4, .iconst 1, 1) :: (5, .if_icmp .lt 15, 3) :: (8, .aload_n 0, 1) :: (9, .getfield 125, 3) :: (12, .aload_n 0, 1) :: (13, .getfield 38, 3) :: (16, .arraylength, 1) :: (17, .if_icmp .le 5, 3) :: k_X10_restore_20
def Y_X10_restore : MD := (yX10_restore, cX10_restore, 1, (some .int), k_X10_restore)
theorem cok_X10_restore : COK Y_X10_restore.2.1 Y_X10_restore.code = true := by decide +kernel
theorem mok_X10_restore : MOK Y_X10_restore 0 := ⟨mU_2 218 rfl rfl, mU_1 1 rfl rfl, by decide, by decide, by decide +kernel, by decide⟩
theorem ins_X10_restore : INST Y_X10_restore := ⟨mU_2 216 rfl rfl, mU_2 217 rfl rfl⟩
def k_X10_status_43 : List CI := (43, .iconst (-1), 1) :: (44, .ireturn, 1) :: []
def k_X10_status_38 : List CI := (38, .aload_n 0, 1) :: (39, .getfield 361, 3) :: (42, .ireturn, 1) :: k_X10_status_43
def k_X10_status_33 : List CI := (33, .aload_n 0, 1) :: (34, .getfield 358, 3) :: (37, .ireturn, 1) :: k_X10_status_38
def k_X10_status_28 : List CI := (28, .aload_n 0, 1) :: (29, .getfield 355, 3) :: (32, .ireturn, 1) :: k_X10_status_33
def k_X10_status : List CI := (0, .iload_n 1, 1) :: (1, .tableswitch 42 0 2 #[27, 32, 37], 27) :: k_X10_status_28
def Y_X10_status : MD := (yX10_status, cX10_status, 2, (some .int), k_X10_status)
theorem cok_X10_status : COK Y_X10_status.2.1 Y_X10_status.code = true := by decide +kernel
theorem mok_X10_status : MOK Y_X10_status 1 := ⟨mU_2 222 rfl rfl, mU_1 1 rfl rfl, by decide, by decide, by decide +kernel, by decide⟩
theorem ins_X10_status : INST Y_X10_status := ⟨mU_2 220 rfl rfl, mU_2 221 rfl rfl⟩
def k_X10_sums_73 : List CI := (73, .iconst (-1), 1) :: (74, .ireturn, 1) :: []
def k_X10_sums_65 : List CI := (65, .aload_n 0, 1) :: (66, .getfield 21, 3) :: (69, .getfield 94, 3) :: (72, .ireturn, 1) :: k_X10_sums_73
def k_X10_sums_60 : List CI := (60, .aload_n 0, 1) :: (61, .getfield 125, 3) :: (64, .ireturn, 1) :: k_X10_sums_65
def k_X10_sums_52 : List CI := (52, .aload_n 0, 1) :: (53, .getfield 34, 3) :: (56, .getfield 333, 3) :: (59, .ireturn, 1) :: k_X10_sums_60
def k_X10_sums_44 : List CI := (44, .aload_n 0, 1) :: (45, .getfield 34, 3) :: (48, .getfield 304, 3) :: (51, .ireturn, 1) :: k_X10_sums_52
def k_X10_sums_36 : List CI := (36, .aload_n 0, 1) :: (37, .getfield 34, 3) :: (40, .getfield 301, 3) :: (43, .ireturn, 1) :: k_X10_sums_44
def k_X10_sums : List CI := (0, .iload_n 1, 1) :: (1, .tableswitch 72 0 4 #[35, 43, 51, 59, 64], 35) :: k_X10_sums_36
def Y_X10_sums : MD := (yX10_sums, cX10_sums, 2, (some .int), k_X10_sums)
theorem cok_X10_sums : COK Y_X10_sums.2.1 Y_X10_sums.code = true := by decide +kernel
theorem mok_X10_sums : MOK Y_X10_sums 1 := ⟨mU_2 226 rfl rfl, mU_1 1 rfl rfl, by decide, by decide, by decide +kernel, by decide⟩
theorem ins_X10_sums : INST Y_X10_sums := ⟨mU_2 224 rfl rfl, mU_2 225 rfl rfl⟩
def k_X11_thrown : List CI := (0, .aload_n 0, 1) :: (1, .getfield 107, 3) :: (4, .ireturn, 1) :: []
def Y_X11_thrown : MD := (yX11_thrown, cX11_thrown, 1, (some .int), k_X11_thrown)
theorem cok_X11_thrown : COK Y_X11_thrown.2.1 Y_X11_thrown.code = true := by decide +kernel
theorem mok_X11_thrown : MOK Y_X11_thrown 0 := ⟨mU_7 165 rfl rfl, mU_1 13 rfl rfl, by decide, by decide, by decide +kernel, by decide⟩
theorem ins_X11_thrown : INST Y_X11_thrown := ⟨mU_7 163 rfl rfl, mU_7 164 rfl rfl⟩
def k_X11_feed_120 : List CI := (120, .aload_n 0, 1) :: (121, .getfield 110, 3) :: (124, .ireturn, 1) :: []
def k_X11_feed_76 : List CI := (76, .istore 7, 2) :: (78, .aload_n 0, 1) :: (79, .getfield 13, 3) :: (82, .aload_n 0, 1) :: (83, .getfield 110, 3) :: (86, .iload 7, 2) :: (88, .bipush 24, 2) :: (90, .bipush 8, 2) :: (92, .iload 6, 2) :: (94, .iconst 4, 1) :: (95, .irem, 1) :: (96, .imul, 1) :: (97, .isub, 1) :: (98, .ishr, 1) :: (99, .sipush 255, 3) :: (102, .iand, 1) :: (103, .iastore, 1) :: (104, .aload_n 0, 1) :: (105, .dup, 1) :: (106, .getfield 110, 3) :: (109, .iconst 1, 1) :: (110, .iadd, 1) :: (111, .putfield 110, 3) :: (114, .iinc 6 1, 3) :: (117, .goto (-94), 3) :: k_X11_feed_120
def k_X11_feed_74 : List CI := (74, .iload 5, 2) :: k_X11_feed_76
def k_X11_feed_62 : List CI := (62, .iload 6, 2) :: (64, .bipush 16, 2) :: (66, .if_icmp .ge 8, 3) :: (69, .iload 4, 2) :: (71, .goto 5, 3) :: k_X11_feed_74
def k_X11_feed_51 : List CI := (51, .iload 6, 2) :: (53, .bipush 12, 2) :: (55, .if_icmp .ge 7, 3) :: (58, .iload_n 3, 1) :: (59, .goto 17, 3) :: k_X11_feed_62
def k_X11_feed_40 : List CI := (40, .iload 6, 2) :: (42, .bipush 8, 2) :: (44, .if_icmp .ge 7, 3) :: (47, .iload_n 2, 1) :: (48, .goto 28, 3) :: k_X11_feed_51
def k_X11_feed_23 : List CI := (23, .iload 6, 2) :: (25, .bipush 20, 2) :: (27, .if_icmp .ge 93, 3) :: (30, .iload 6, 2) :: (32, .iconst 4, 1) :: (33, .if_icmp .ge 7, 3) :: (36, .iload_n 1, 1) :: (37, .goto 39, 3) :: k_X11_feed_40
def k_X11_feed_20 : List CI := (20, .iconst 0, 1) :: (21, .istore 6, 2) :: k_X11_feed_23
def k_X11_feed : List CI := (0, .aload_n 0, 1) :: (1, .iconst 0, 1) :: (2, .putfield 107, 3) :: (5, .aload_n 0, 1) :: (6, .getfield 110, 3) :: (9, .bipush 20, 2) :: (11, .iadd, 1) :: (12, .sipush 500, 3) :: (15, .if_icmp .le 5, 3) :: (18, .iconst (-1), 1) :: (19, .ireturn, 1) :: k_X11_feed_20
def Y_X11_feed : MD := (yX11_feed, cX11_feed, 8, (some .int), k_X11_feed)
theorem cok_X11_feed : COK Y_X11_feed.2.1 Y_X11_feed.code = true := by decide +kernel
theorem mok_X11_feed : MOK Y_X11_feed 5 := ⟨mU_7 169 rfl rfl, mU_1 13 rfl rfl, by decide, by decide, by decide +kernel, by decide⟩
theorem ins_X11_feed : INST Y_X11_feed := ⟨mU_7 167 rfl rfl, mU_7 168 rfl rfl⟩
def k_X11_in_15 : List CI := (15, .ireturn, 1) :: []
def k_X11_in_14 : List CI := (14, .iconst 0, 1) :: k_X11_in_15
def k_X11_in : List CI := (0, .iload_n 0, 1) :: (1, .iload_n 1, 1) :: (2, .if_icmp .lt 12, 3) :: (5, .iload_n 0, 1) :: (6, .iload_n 2, 1) :: (7, .if_icmp .gt 7, 3) :: (10, .iconst 1, 1) :: (11, .goto 4, 3) :: k_X11_in_14
def Y_X11_in : MD := (yX11_in, cX11_in, 3, (some .boolean), k_X11_in)
theorem cok_X11_in : COK Y_X11_in.2.1 Y_X11_in.code = true := by decide +kernel
theorem mok_X11_in : MOK Y_X11_in 3 := ⟨mU_7 176 rfl rfl, mU_1 13 rfl rfl, by decide, by decide, by decide +kernel, by decide⟩
theorem sta_X11_in : STAT Y_X11_in := mU_7 175 rfl rfl
def k_X11_bad_38 : List CI := (38, .ireturn, 1) :: []
def k_X11_bad_37 : List CI := (37, .iconst 0, 1) :: k_X11_bad_38
def k_X11_bad_26 : List CI := (26, .aload_n 0, 1) :: (27, .getfield 107, 3) :: (30, .ifCond .eq 7, 3) :: (33, .iconst 1, 1) :: (34, .goto 4, 3) :: k_X11_bad_37
def k_X11_bad : List CI := (0, .iload_n 1, 1) :: (1, .ifCond .eq 25, 3) :: (4, .aload_n 0, 1) :: (5, .getfield 107, 3) :: (8, .ifCond .ne 18, 3) :: (11, .aload_n 0, 1) :: (12, .iload_n 2, 1) :: (13, .putfield 107, 3) :: (16, .aload_n 0, 1) :: (17, .getfield 17, 3) :: (20, .iload_n 3, 1) :: (21, .dup2, 1) :: (22, .iaload, 1) :: (23, .iconst 1, 1) :: (24, .iadd, 1) :: (25, .iastore, 1) :: k_X11_bad_26
def Y_X11_bad : MD := (yX11_bad, cX11_bad, 4, (some .boolean), k_X11_bad)
theorem cok_X11_bad : COK Y_X11_bad.2.1 Y_X11_bad.code = true := by decide +kernel
theorem mok_X11_bad : MOK Y_X11_bad 3 := ⟨mU_7 180 rfl rfl, mU_1 13 rfl rfl, by decide, by decide, by decide +kernel, by decide⟩
theorem ins_X11_bad : INST Y_X11_bad := ⟨mU_7 179 rfl rfl, mV_7 (n := 48) 15 rfl⟩
def k_X11_byteAt_18 : List CI := (18, .ireturn, 1) :: []
def k_X11_byteAt_12 : List CI := (12, .aload_n 0, 1) :: (13, .getfield 13, 3) :: (16, .iload_n 1, 1) :: (17, .iaload, 1) :: k_X11_byteAt_18
def k_X11_byteAt : List CI := (0, .iload_n 1, 1) :: (1, .aload_n 0, 1) :: (2, .getfield 113, 3) :: (5, .if_icmp .lt 7, 3) :: (8, .iconst (-1), 1) :: (9, .goto 9, 3) :: k_X11_byteAt_12
def Y_X11_byteAt : MD := (yX11_byteAt, cX11_byteAt, 2, (some .int), k_X11_byteAt)
theorem cok_X11_byteAt : COK Y_X11_byteAt.2.1 Y_X11_byteAt.code = true := by decide +kernel
theorem mok_X11_byteAt : MOK Y_X11_byteAt 1 := ⟨mU_7 192 rfl rfl, mU_1 13 rfl rfl, by decide, by decide, by decide +kernel, by decide⟩
theorem ins_X11_byteAt : INST Y_X11_byteAt := ⟨mU_7 191 rfl rfl, mV_8 (n := 48) 2 rfl⟩
def k_X11_blanks_26 : List CI := (26, .return_, 1) :: []
def k_X11_blanks : List CI := (0, .aload_n 0, 1) :: (1, .aload_n 0, 1) :: (2, .getfield 116, 3) :: (5, .invokevirtual 119, 3) :: (8, .bipush 32, 2) :: (10, .if_icmp .ne 16, 3) :: (13, .aload_n 0, 1) :: (14, .dup, 1) :: (15, .getfield 116, 3) :: (18, .iconst 1, 1) :: (19, .iadd, 1) :: (20, .putfield 116, 3) :: (23, .goto (-23), 3) :: k_X11_blanks_26
def Y_X11_blanks : MD := (yX11_blanks, cX11_blanks, 1, none, k_X11_blanks)
theorem cok_X11_blanks : COK Y_X11_blanks.2.1 Y_X11_blanks.code = true := by decide +kernel
theorem mok_X11_blanks : MOK Y_X11_blanks 0 := ⟨mU_7 188 rfl rfl, mU_1 13 rfl rfl, by decide, by decide, by decide +kernel, by decide⟩
theorem ins_X11_blanks : INST Y_X11_blanks := ⟨mU_7 187 rfl rfl, mV_8 (n := 48) 1 rfl⟩
def k_X11_starts : List CI := (0, .aload_n 0, 1) :: (1, .iconst 0, 1) :: (2, .putfield 110, 3) :: (5, .aload_n 0, 1) :: (6, .iload_n 1, 1) :: (7, .putfield 113, 3) :: (10, .aload_n 0, 1) :: (11, .iconst 0, 1) :: (12, .putfield 116, 3) :: (15, .aload_n 0, 1) :: (16, .iconst 0, 1) :: (17, .putfield 123, 3) :: (20, .aload_n 0, 1) :: (21, .iconst (-1), 1) :: (22, .putfield 126, 3) :: (25, .aload_n 0, 1) :: (26, .iconst 0, 1) :: (27, .putfield 160, 3) :: (30, .aload_n 0, 1) :: (31, .invokevirtual 129, 3) :: (34, .return_, 1) :: []
def Y_X11_starts : MD := (yX11_starts, cX11_starts, 2, none, k_X11_starts)
theorem cok_X11_starts : COK Y_X11_starts.2.1 Y_X11_starts.code = true := by decide +kernel
theorem mok_X11_starts : MOK Y_X11_starts 1 := ⟨mU_7 184 rfl rfl, mU_1 13 rfl rfl, by decide, by decide, by decide +kernel, by decide⟩
theorem ins_X11_starts : INST Y_X11_starts := ⟨mU_7 183 rfl rfl, mV_8 (n := 48) 0 rfl⟩
def k_X11_wrong_17 : List CI := (17, .return_, 1) :: []
def k_X11_wrong : List CI := (0, .aload_n 0, 1) :: (1, .getfield 123, 3) :: (4, .ifCond .ne 13, 3) :: (7, .aload_n 0, 1) :: (8, .iload_n 1, 1) :: (9, .putfield 123, 3) :: (12, .aload_n 0, 1) :: (13, .iload_n 2, 1) :: (14, .putfield 126, 3) :: k_X11_wrong_17
def Y_X11_wrong : MD := (yX11_wrong, cX11_wrong, 3, none, k_X11_wrong)
theorem cok_X11_wrong : COK Y_X11_wrong.2.1 Y_X11_wrong.code = true := by decide +kernel
theorem mok_X11_wrong : MOK Y_X11_wrong 2 := ⟨mU_7 211 rfl rfl, mU_1 13 rfl rfl, by decide, by decide, by decide +kernel, by decide⟩
theorem ins_X11_wrong : INST Y_X11_wrong := ⟨mU_7 210 rfl rfl, mV_8 (n := 48) 6 rfl⟩
def k_X11_common_21 : List CI := (21, .iload_n 2, 1) :: (22, .ireturn, 1) :: []
def k_X11_common_4 : List CI := (4, .iload_n 3, 1) :: (5, .ifCond .eq 16, 3) :: (8, .iload_n 2, 1) :: (9, .iload_n 3, 1) :: (10, .irem, 1) :: (11, .istore 4, 2) :: (13, .iload_n 3, 1) :: (14, .istore_n 2, 1) :: (15, .iload 4, 2) :: (17, .istore_n 3, 1) :: (18, .goto (-14), 3) :: k_X11_common_21
def k_X11_common : List CI := (0, .iload_n 0, 1) :: (1, .istore_n 2, 1) :: (2, .iload_n 1, 1) :: (3, .istore_n 3, 1) :: k_X11_common_4
def Y_X11_common : MD := (yX11_common, cX11_common, 5, (some .int), k_X11_common)
theorem cok_X11_common : COK Y_X11_common.2.1 Y_X11_common.code = true := by decide +kernel
theorem mok_X11_common : MOK Y_X11_common 2 := ⟨mU_7 239 rfl rfl, mU_1 13 rfl rfl, by decide, by decide, by decide +kernel, by decide⟩
theorem sta_X11_common : STAT Y_X11_common := mU_7 238 rfl rfl
def k_X11_both_30 : List CI := (30, .ireturn, 1) :: []
def k_X11_both_29 : List CI := (29, .iload_n 2, 1) :: k_X11_both_30
def k_X11_both_8 : List CI := (8, .iload_n 0, 1) :: (9, .iload_n 0, 1) :: (10, .iload_n 1, 1) :: (11, .invokestatic 164, 3) :: (14, .idiv, 1) :: (15, .iload_n 1, 1) :: (16, .imul, 1) :: (17, .istore_n 2, 1) :: (18, .iload_n 2, 1) :: (19, .ldc 163, 2) :: (21, .if_icmp .le 8, 3) :: (24, .ldc 168, 2) :: (26, .goto 4, 3) :: k_X11_both_29
def k_X11_both : List CI := (0, .iload_n 0, 1) :: (1, .ldc 163, 2) :: (3, .if_icmp .le 5, 3) :: (6, .iload_n 0, 1) :: (7, .ireturn, 1) :: k_X11_both_8
def Y_X11_both : MD := (yX11_both, cX11_both, 3, (some .int), k_X11_both)
theorem cok_X11_both : COK Y_X11_both.2.1 Y_X11_both.code = true := by decide +kernel
theorem mok_X11_both : MOK Y_X11_both 2 := ⟨mU_7 235 rfl rfl, mU_1 13 rfl rfl, by decide, by decide, by decide +kernel, by decide⟩
theorem sta_X11_both : STAT Y_X11_both := mU_7 234 rfl rfl
def k_X11_wordHere_86 : List CI := (86, .ireturn, 1) :: []
def k_X11_wordHere_85 : List CI := (85, .iload_n 1, 1) :: k_X11_wordHere_86
def k_X11_wordHere_75 : List CI := (75, .iload_n 2, 1) :: (76, .bipush 6, 2) :: (78, .if_icmp .le 7, 3) :: (81, .iconst (-1), 1) :: (82, .goto 4, 3) :: k_X11_wordHere_85
def k_X11_wordHere_68 : List CI := (68, .istore_n 1, 1) :: (69, .iinc 2 1, 3) :: (72, .goto (-64), 3) :: k_X11_wordHere_75
def k_X11_wordHere_67 : List CI := (67, .iload_n 1, 1) :: k_X11_wordHere_68
def k_X11_wordHere_8 : List CI := (8, .aload_n 0, 1) :: (9, .aload_n 0, 1) :: (10, .getfield 116, 3) :: (13, .iload_n 2, 1) :: (14, .iadd, 1) :: (15, .invokevirtual 119, 3) :: (18, .bipush 97, 2) :: (20, .if_icmp .lt 55, 3) :: (23, .aload_n 0, 1) :: (24, .aload_n 0, 1) :: (25, .getfield 116, 3) :: (28, .iload_n 2, 1) :: (29, .iadd, 1) :: (30, .invokevirtual 119, 3) :: (33, .bipush 122, 2) :: (35, .if_icmp .gt 40, 3) :: (38, .iload_n 2, 1) :: (39, .bipush 6, 2) :: (41, .if_icmp .ge 26, 3) :: (44, .bipush 27, 2) :: (46, .iload_n 1, 1) :: (47, .imul, 1) :: (48, .aload_n 0, 1) :: (49, .aload_n 0, 1) :: (50, .getfield 116, 3) :: (53, .iload_n 2, 1) :: (54, .iadd, 1) :: (55, .invokevirtual 119, 3) :: (58, .iadd, 1) :: (59, .bipush 97, 2) :: (61, .isub, 1) :: (62, .iconst 1, 1) :: (63, .iadd, 1) :: (64, .goto 4, 3) :: k_X11_wordHere_67
def k_X11_wordHere : List CI := (0, .aload_n 0, 1) :: (1, .invokevirtual 129, 3) :: (4, .iconst 0, 1) :: (5, .istore_n 1, 1) :: (6, .iconst 0, 1) :: (7, .istore_n 2, 1) :: k_X11_wordHere_8
def Y_X11_wordHere : MD := (yX11_wordHere, cX11_wordHere, 3, (some .int), k_X11_wordHere)
theorem cok_X11_wordHere : COK Y_X11_wordHere.2.1 Y_X11_wordHere.code = true := by decide +kernel
theorem mok_X11_wordHere : MOK Y_X11_wordHere 0 := ⟨mU_7 204 rfl rfl, mU_1 13 rfl rfl, by decide, by decide, by decide +kernel, by decide⟩
theorem ins_X11_wordHere : INST Y_X11_wordHere := ⟨mU_7 203 rfl rfl, mV_8 (n := 48) 5 rfl⟩
def k_X11_five_62 : List CI := (62, .ireturn, 1) :: []
def k_X11_five_54 : List CI := (54, .bipush 27, 2) :: (56, .iload 5, 2) :: (58, .imul, 1) :: (59, .iload 4, 2) :: (61, .iadd, 1) :: k_X11_five_62
def k_X11_five_42 : List CI := (42, .istore 5, 2) :: (44, .iload 4, 2) :: (46, .ifCond .ne 8, 3) :: (49, .iload 5, 2) :: (51, .goto 11, 3) :: k_X11_five_54
def k_X11_five_35 : List CI := (35, .bipush 27, 2) :: (37, .iload 5, 2) :: (39, .imul, 1) :: (40, .iload_n 3, 1) :: (41, .iadd, 1) :: k_X11_five_42
def k_X11_five_24 : List CI := (24, .istore 5, 2) :: (26, .iload_n 3, 1) :: (27, .ifCond .ne 8, 3) :: (30, .iload 5, 2) :: (32, .goto 10, 3) :: k_X11_five_35
def k_X11_five_17 : List CI := (17, .bipush 27, 2) :: (19, .iload 5, 2) :: (21, .imul, 1) :: (22, .iload_n 2, 1) :: (23, .iadd, 1) :: k_X11_five_24
def k_X11_five : List CI := (0, .bipush 27, 2) :: (2, .iload_n 0, 1) :: (3, .imul, 1) :: (4, .iload_n 1, 1) :: (5, .iadd, 1) :: (6, .istore 5, 2) :: (8, .iload_n 2, 1) :: (9, .ifCond .ne 8, 3) :: (12, .iload 5, 2) :: (14, .goto 10, 3) :: k_X11_five_17
def Y_X11_five : MD := (yX11_five, cX11_five, 6, (some .int), k_X11_five)
theorem cok_X11_five : COK Y_X11_five.2.1 Y_X11_five.code = true := by decide +kernel
theorem mok_X11_five : MOK Y_X11_five 5 := ⟨mU_7 207 rfl rfl, mU_1 13 rfl rfl, by decide, by decide, by decide +kernel, by decide⟩
theorem sta_X11_five : STAT Y_X11_five := mU_7 206 rfl rfl
def k_X11_isWord_29 : List CI := (29, .ireturn, 1) :: []
def k_X11_isWord_28 : List CI := (28, .iconst 0, 1) :: k_X11_isWord_29
def k_X11_isWord : List CI := (0, .aload_n 0, 1) :: (1, .getfield 123, 3) :: (4, .ifCond .ne 24, 3) :: (7, .aload_n 0, 1) :: (8, .invokevirtual 145, 3) :: (11, .iload_n 1, 1) :: (12, .iload_n 2, 1) :: (13, .iload_n 3, 1) :: (14, .iload 4, 2) :: (16, .iload 5, 2) :: (18, .invokestatic 149, 3) :: (21, .if_icmp .ne 7, 3) :: (24, .iconst 1, 1) :: (25, .goto 4, 3) :: k_X11_isWord_28
def Y_X11_isWord : MD := (yX11_isWord, cX11_isWord, 6, (some .boolean), k_X11_isWord)
theorem cok_X11_isWord : COK Y_X11_isWord.2.1 Y_X11_isWord.code = true := by decide +kernel
theorem mok_X11_isWord : MOK Y_X11_isWord 5 := ⟨mU_7 200 rfl rfl, mU_1 13 rfl rfl, by decide, by decide, by decide +kernel, by decide⟩
theorem ins_X11_isWord : INST Y_X11_isWord := ⟨mU_7 199 rfl rfl, mV_8 (n := 48) 4 rfl⟩
def k_X11_skipWord_39 : List CI := (39, .return_, 1) :: []
def k_X11_skipWord : List CI := (0, .aload_n 0, 1) :: (1, .aload_n 0, 1) :: (2, .getfield 116, 3) :: (5, .invokevirtual 119, 3) :: (8, .bipush 97, 2) :: (10, .if_icmp .lt 29, 3) :: (13, .aload_n 0, 1) :: (14, .aload_n 0, 1) :: (15, .getfield 116, 3) :: (18, .invokevirtual 119, 3) :: (21, .bipush 122, 2) :: (23, .if_icmp .gt 16, 3) :: (26, .aload_n 0, 1) :: (27, .dup, 1) :: (28, .getfield 116, 3) :: (31, .iconst 1, 1) :: (32, .iadd, 1) :: (33, .putfield 116, 3) :: (36, .goto (-36), 3) :: k_X11_skipWord_39
def Y_X11_skipWord : MD := (yX11_skipWord, cX11_skipWord, 1, none, k_X11_skipWord)
theorem cok_X11_skipWord : COK Y_X11_skipWord.2.1 Y_X11_skipWord.code = true := by decide +kernel
theorem mok_X11_skipWord : MOK Y_X11_skipWord 0 := ⟨mU_7 215 rfl rfl, mU_1 13 rfl rfl, by decide, by decide, by decide +kernel, by decide⟩
theorem ins_X11_skipWord : INST Y_X11_skipWord := ⟨mU_7 214 rfl rfl, mV_8 (n := 48) 7 rfl⟩
def k_X11_isDigit_17 : List CI := (17, .ireturn, 1) :: []
def k_X11_isDigit_16 : List CI := (16, .iconst 0, 1) :: k_X11_isDigit_17
def k_X11_isDigit : List CI := (0, .iload_n 0, 1) :: (1, .bipush 48, 2) :: (3, .if_icmp .lt 13, 3) :: (6, .iload_n 0, 1) :: (7, .bipush 57, 2) :: (9, .if_icmp .gt 7, 3) :: (12, .iconst 1, 1) :: (13, .goto 4, 3) :: k_X11_isDigit_16
def Y_X11_isDigit : MD := (yX11_isDigit, cX11_isDigit, 1, (some .boolean), k_X11_isDigit)
theorem cok_X11_isDigit : COK Y_X11_isDigit.2.1 Y_X11_isDigit.code = true := by decide +kernel
theorem mok_X11_isDigit : MOK Y_X11_isDigit 1 := ⟨mU_7 222 rfl rfl, mU_1 13 rfl rfl, by decide, by decide, by decide +kernel, by decide⟩
theorem sta_X11_isDigit : STAT Y_X11_isDigit := mU_7 221 rfl rfl
def k_X11_number_135 : List CI := (135, .ireturn, 1) :: []
def k_X11_number_134 : List CI := (134, .iconst 0, 1) :: k_X11_number_135
def k_X11_number_122 : List CI := (122, .aload_n 0, 1) :: (123, .getfield 123, 3) :: (126, .ifCond .ne 8, 3) :: (129, .iload 4, 2) :: (131, .goto 4, 3) :: k_X11_number_134
def k_X11_number_106 : List CI := (106, .iload 4, 2) :: (108, .iload_n 1, 1) :: (109, .iload_n 2, 1) :: (110, .invokestatic 141, 3) :: (113, .ifCond .ne 9, 3) :: (116, .aload_n 0, 1) :: (117, .iconst 2, 1) :: (118, .iload_n 3, 1) :: (119, .invokevirtual 136, 3) :: k_X11_number_122
def k_X11_number_91 : List CI := (91, .istore 4, 2) :: (93, .aload_n 0, 1) :: (94, .dup, 1) :: (95, .getfield 116, 3) :: (98, .iconst 1, 1) :: (99, .iadd, 1) :: (100, .putfield 116, 3) :: (103, .goto (-59), 3) :: k_X11_number_106
def k_X11_number_89 : List CI := (89, .iload 4, 2) :: k_X11_number_91
def k_X11_number_44 : List CI := (44, .aload_n 0, 1) :: (45, .aload_n 0, 1) :: (46, .getfield 116, 3) :: (49, .invokevirtual 119, 3) :: (52, .invokestatic 132, 3) :: (55, .ifCond .eq 51, 3) :: (58, .bipush 10, 2) :: (60, .iload 4, 2) :: (62, .imul, 1) :: (63, .aload_n 0, 1) :: (64, .aload_n 0, 1) :: (65, .getfield 116, 3) :: (68, .invokevirtual 119, 3) :: (71, .iadd, 1) :: (72, .bipush 48, 2) :: (74, .isub, 1) :: (75, .istore 4, 2) :: (77, .iload 4, 2) :: (79, .ldc 140, 2) :: (81, .if_icmp .le 8, 3) :: (84, .ldc 140, 2) :: (86, .goto 5, 3) :: k_X11_number_89
def k_X11_number_9 : List CI := (9, .aload_n 0, 1) :: (10, .invokevirtual 129, 3) :: (13, .aload_n 0, 1) :: (14, .getfield 116, 3) :: (17, .istore_n 3, 1) :: (18, .iconst 0, 1) :: (19, .istore 4, 2) :: (21, .aload_n 0, 1) :: (22, .aload_n 0, 1) :: (23, .getfield 116, 3) :: (26, .invokevirtual 119, 3) :: (29, .invokestatic 132, 3) :: (32, .ifCond .ne 12, 3) :: (35, .aload_n 0, 1) :: (36, .iconst 1, 1) :: (37, .aload_n 0, 1) :: (38, .getfield 116, 3) :: (41, .invokevirtual 136, 3) :: k_X11_number_44
def k_X11_number : List CI := (0, .aload_n 0, 1) :: (1, .getfield 123, 3) :: (4, .ifCond .eq 5, 3) :: (7, .iconst 0, 1) :: (8, .ireturn, 1) :: k_X11_number_9
def Y_X11_number : MD := (yX11_number, cX11_number, 5, (some .int), k_X11_number)
theorem cok_X11_number : COK Y_X11_number.2.1 Y_X11_number.code = true := by decide +kernel
theorem mok_X11_number : MOK Y_X11_number 2 := ⟨mU_7 219 rfl rfl, mU_1 13 rfl rfl, by decide, by decide, by decide +kernel, by decide⟩
theorem ins_X11_number : INST Y_X11_number := ⟨mU_7 218 rfl rfl, mV_8 (n := 48) 8 rfl⟩
def k_X11_sign_46 : List CI := (46, .return_, 1) :: []
def k_X11_sign_37 : List CI := (37, .aload_n 0, 1) :: (38, .iconst 1, 1) :: (39, .aload_n 0, 1) :: (40, .getfield 116, 3) :: (43, .invokevirtual 136, 3) :: k_X11_sign_46
def k_X11_sign_8 : List CI := (8, .aload_n 0, 1) :: (9, .invokevirtual 129, 3) :: (12, .aload_n 0, 1) :: (13, .aload_n 0, 1) :: (14, .getfield 116, 3) :: (17, .invokevirtual 119, 3) :: (20, .iload_n 1, 1) :: (21, .if_icmp .ne 16, 3) :: (24, .aload_n 0, 1) :: (25, .dup, 1) :: (26, .getfield 116, 3) :: (29, .iconst 1, 1) :: (30, .iadd, 1) :: (31, .putfield 116, 3) :: (34, .goto 12, 3) :: k_X11_sign_37
def k_X11_sign : List CI := (0, .aload_n 0, 1) :: (1, .getfield 123, 3) :: (4, .ifCond .eq 4, 3) :: (7, .return_, 1) :: k_X11_sign_8
def Y_X11_sign : MD := (yX11_sign, cX11_sign, 2, none, k_X11_sign)
theorem cok_X11_sign : COK Y_X11_sign.2.1 Y_X11_sign.code = true := by decide +kernel
theorem mok_X11_sign : MOK Y_X11_sign 1 := ⟨mU_7 232 rfl rfl, mU_1 13 rfl rfl, by decide, by decide, by decide +kernel, by decide⟩
theorem ins_X11_sign : INST Y_X11_sign := ⟨mU_7 231 rfl rfl, mV_8 (n := 48) 10 rfl⟩
def k_X11_stillHere_37 : List CI := (37, .aload_n 0, 1) :: (38, .getfield 26, 3) :: (41, .aload_n 0, 1) :: (42, .getfield 20, 3) :: (45, .iconst 3, 1) :: (46, .iaload, 1) :: (47, .iload_n 1, 1) :: (48, .iastore, 1) :: (49, .aload_n 0, 1) :: (50, .getfield 20, 3) :: (53, .iconst 3, 1) :: (54, .dup2, 1) :: (55, .iaload, 1) :: (56, .iconst 1, 1) :: (57, .iadd, 1) :: (58, .iastore, 1) :: (59, .return_, 1) :: []
def k_X11_stillHere_29 : List CI := (29, .aload_n 0, 1) :: (30, .getfield 123, 3) :: (33, .ifCond .eq 4, 3) :: (36, .return_, 1) :: k_X11_stillHere_37
def k_X11_stillHere_23 : List CI := (23, .iinc 2 1, 3) :: (26, .goto (-24), 3) :: k_X11_stillHere_29
def k_X11_stillHere_2 : List CI := (2, .iload_n 2, 1) :: (3, .aload_n 0, 1) :: (4, .getfield 20, 3) :: (7, .iconst 3, 1) :: (8, .iaload, 1) :: (9, .if_icmp .ge 20, 3) :: (12, .aload_n 0, 1) :: (13, .getfield 26, 3) :: (16, .iload_n 2, 1) :: (17, .iaload, 1) :: (18, .iload_n 1, 1) :: (19, .if_icmp .ne 4, 3) :: (22, .return_, 1) :: k_X11_stillHere_23
def k_X11_stillHere : List CI := (0, .iconst 0, 1) :: (1, .istore_n 2, 1) :: k_X11_stillHere_2
def Y_X11_stillHere : MD := (yX11_stillHere, cX11_stillHere, 3, none, k_X11_stillHere)
theorem cok_X11_stillHere : COK Y_X11_stillHere.2.1 Y_X11_stillHere.code = true := by decide +kernel
theorem mok_X11_stillHere : MOK Y_X11_stillHere 1 := ⟨mU_7 228 rfl rfl, mU_1 13 rfl rfl, by decide, by decide, by decide +kernel, by decide⟩
theorem ins_X11_stillHere : INST Y_X11_stillHere := ⟨mU_7 227 rfl rfl, mV_8 (n := 48) 9 rfl⟩
def k_X11_clause_467 : List CI := (467, .aload_n 0, 1) :: (468, .bipush 59, 2) :: (470, .invokevirtual 177, 3) :: (473, .return_, 1) :: []
def k_X11_clause_445 : List CI := (445, .invokevirtual 169, 3) :: (448, .istore 4, 2) :: (450, .aload_n 0, 1) :: (451, .getfield 123, 3) :: (454, .ifCond .ne 13, 3) :: (457, .aload_n 0, 1) :: (458, .getfield 58, 3) :: (461, .iload_n 2, 1) :: (462, .aaload, 1) :: (463, .iload_n 3, 1) :: (464, .iload 4, 2) :: (466, .iastore, 1) :: k_X11_clause_467
def k_X11_clause_444 : List CI := (444, .iconst 0, 1) :: k_X11_clause_445
def k_X11_clause_396 : List CI := (396, .aload_n 0, 1) :: (397, .iconst 0, 1) :: (398, .aload_n 0, 1) :: (399, .getfield 20, 3) :: (402, .iconst 2, 1) :: (403, .iaload, 1) :: (404, .iconst 1, 1) :: (405, .isub, 1) :: (406, .invokevirtual 169, 3) :: (409, .istore_n 2, 1) :: (410, .aload_n 0, 1) :: (411, .iconst 0, 1) :: (412, .aload_n 0, 1) :: (413, .getfield 20, 3) :: (416, .iconst 0, 1) :: (417, .iaload, 1) :: (418, .iconst 1, 1) :: (419, .isub, 1) :: (420, .invokevirtual 169, 3) :: (423, .istore_n 3, 1) :: (424, .aload_n 0, 1) :: (425, .iconst 0, 1) :: (426, .aload_n 0, 1) :: (427, .getfield 123, 3) :: (430, .ifCond .ne 14, 3) :: (433, .aload_n 0, 1) :: (434, .getfield 32, 3) :: (437, .iload_n 3, 1) :: (438, .iaload, 1) :: (439, .iconst 1, 1) :: (440, .isub, 1) :: (441, .goto 4, 3) :: k_X11_clause_444
def k_X11_clause_377 : List CI := (377, .iload_n 1, 1) :: (378, .iconst 3, 1) :: (379, .if_icmp .ne 17, 3) :: (382, .aload_n 0, 1) :: (383, .aload_n 0, 1) :: (384, .iconst 0, 1) :: (385, .ldc 172, 2) :: (387, .invokevirtual 169, 3) :: (390, .invokevirtual 173, 3) :: (393, .goto 74, 3) :: k_X11_clause_396
def k_X11_clause_364 : List CI := (364, .aload_n 0, 1) :: (365, .getfield 20, 3) :: (368, .iconst 2, 1) :: (369, .dup2, 1) :: (370, .iaload, 1) :: (371, .iconst 1, 1) :: (372, .iadd, 1) :: (373, .iastore, 1) :: (374, .goto 93, 3) :: k_X11_clause_377
def k_X11_clause_338 : List CI := (338, .iload_n 2, 1) :: (339, .bipush 12, 2) :: (341, .if_icmp .ge 23, 3) :: (344, .aload_n 0, 1) :: (345, .getfield 58, 3) :: (348, .aload_n 0, 1) :: (349, .getfield 20, 3) :: (352, .iconst 2, 1) :: (353, .iaload, 1) :: (354, .aaload, 1) :: (355, .iload_n 2, 1) :: (356, .iconst 0, 1) :: (357, .iastore, 1) :: (358, .iinc 2 1, 3) :: (361, .goto (-23), 3) :: k_X11_clause_364
def k_X11_clause_331 : List CI := (331, .iload_n 1, 1) :: (332, .iconst 2, 1) :: (333, .if_icmp .ne 44, 3) :: (336, .iconst 0, 1) :: (337, .istore_n 2, 1) :: k_X11_clause_338
def k_X11_clause_266 : List CI := (266, .iload_n 1, 1) :: (267, .iconst 1, 1) :: (268, .if_icmp .ne 63, 3) :: (271, .aload_n 0, 1) :: (272, .getfield 44, 3) :: (275, .aload_n 0, 1) :: (276, .getfield 20, 3) :: (279, .iconst 1, 1) :: (280, .iaload, 1) :: (281, .aload_n 0, 1) :: (282, .iconst 2, 1) :: (283, .bipush 24, 2) :: (285, .invokevirtual 169, 3) :: (288, .iastore, 1) :: (289, .aload_n 0, 1) :: (290, .getfield 50, 3) :: (293, .aload_n 0, 1) :: (294, .getfield 20, 3) :: (297, .iconst 1, 1) :: (298, .iaload, 1) :: (299, .aload_n 0, 1) :: (300, .iconst 0, 1) :: (301, .aload_n 0, 1) :: (302, .getfield 44, 3) :: (305, .aload_n 0, 1) :: (306, .getfield 20, 3) :: (309, .iconst 1, 1) :: (310, .iaload, 1) :: (311, .iaload, 1) :: (312, .iconst 1, 1) :: (313, .isub, 1) :: (314, .invokevirtual 169, 3) :: (317, .iastore, 1) :: (318, .aload_n 0, 1) :: (319, .getfield 20, 3) :: (322, .iconst 1, 1) :: (323, .dup2, 1) :: (324, .iaload, 1) :: (325, .iconst 1, 1) :: (326, .iadd, 1) :: (327, .iastore, 1) :: (328, .goto 139, 3) :: k_X11_clause_331
def k_X11_clause_188 : List CI := (188, .aload_n 0, 1) :: (189, .invokevirtual 157, 3) :: (192, .aload_n 0, 1) :: (193, .dup, 1) :: (194, .getfield 160, 3) :: (197, .iconst 1, 1) :: (198, .iadd, 1) :: (199, .putfield 160, 3) :: (202, .iload_n 1, 1) :: (203, .ifCond .ne 63, 3) :: (206, .aload_n 0, 1) :: (207, .getfield 32, 3) :: (210, .aload_n 0, 1) :: (211, .getfield 20, 3) :: (214, .iconst 0, 1) :: (215, .iaload, 1) :: (216, .aload_n 0, 1) :: (217, .iconst 2, 1) :: (218, .bipush 24, 2) :: (220, .invokevirtual 169, 3) :: (223, .iastore, 1) :: (224, .aload_n 0, 1) :: (225, .getfield 38, 3) :: (228, .aload_n 0, 1) :: (229, .getfield 20, 3) :: (232, .iconst 0, 1) :: (233, .iaload, 1) :: (234, .aload_n 0, 1) :: (235, .iconst 0, 1) :: (236, .aload_n 0, 1) :: (237, .getfield 32, 3) :: (240, .aload_n 0, 1) :: (241, .getfield 20, 3) :: (244, .iconst 0, 1) :: (245, .iaload, 1) :: (246, .iaload, 1) :: (247, .iconst 1, 1) :: (248, .isub, 1) :: (249, .invokevirtual 169, 3) :: (252, .iastore, 1) :: (253, .aload_n 0, 1) :: (254, .getfield 20, 3) :: (257, .iconst 0, 1) :: (258, .dup2, 1) :: (259, .iaload, 1) :: (260, .iconst 1, 1) :: (261, .iadd, 1) :: (262, .iastore, 1) :: (263, .goto 204, 3) :: k_X11_clause_266
def k_X11_clause_180 : List CI := (180, .aload_n 0, 1) :: (181, .getfield 123, 3) :: (184, .ifCond .eq 4, 3) :: (187, .return_, 1) :: k_X11_clause_188
def k_X11_clause_171 : List CI := (171, .aload_n 0, 1) :: (172, .iconst 3, 1) :: (173, .aload_n 0, 1) :: (174, .getfield 116, 3) :: (177, .invokevirtual 136, 3) :: k_X11_clause_180
def k_X11_clause_168 : List CI := (168, .if_icmp .ne 12, 3) :: k_X11_clause_171
def k_X11_clause_167 : List CI := (167, .iconst 3, 1) :: k_X11_clause_168
def k_X11_clause_157 : List CI := (157, .iload_n 1, 1) :: (158, .iconst 2, 1) :: (159, .if_icmp .ne 8, 3) :: (162, .bipush 10, 2) :: (164, .goto 4, 3) :: k_X11_clause_167
def k_X11_clause_147 : List CI := (147, .iload_n 1, 1) :: (148, .iconst 1, 1) :: (149, .if_icmp .ne 8, 3) :: (152, .bipush 6, 2) :: (154, .goto 14, 3) :: k_X11_clause_157
def k_X11_clause_118 : List CI := (118, .aload_n 0, 1) :: (119, .getfield 160, 3) :: (122, .bipush 60, 2) :: (124, .if_icmp .eq 47, 3) :: (127, .iload_n 1, 1) :: (128, .iconst 4, 1) :: (129, .if_icmp .ge 51, 3) :: (132, .aload_n 0, 1) :: (133, .getfield 20, 3) :: (136, .iload_n 1, 1) :: (137, .iaload, 1) :: (138, .iload_n 1, 1) :: (139, .ifCond .ne 8, 3) :: (142, .bipush 12, 2) :: (144, .goto 24, 3) :: k_X11_clause_147
def k_X11_clause_100 : List CI := (100, .istore_n 1, 1) :: (101, .iload_n 1, 1) :: (102, .iconst (-1), 1) :: (103, .if_icmp .ne 15, 3) :: (106, .aload_n 0, 1) :: (107, .iconst 1, 1) :: (108, .aload_n 0, 1) :: (109, .getfield 116, 3) :: (112, .invokevirtual 136, 3) :: (115, .goto 65, 3) :: k_X11_clause_118
def k_X11_clause_99 : List CI := (99, .iconst (-1), 1) :: k_X11_clause_100
def k_X11_clause_79 : List CI := (79, .aload_n 0, 1) :: (80, .bipush 19, 2) :: (82, .bipush 12, 2) :: (84, .bipush 9, 2) :: (86, .bipush 16, 2) :: (88, .iconst 0, 1) :: (89, .invokevirtual 153, 3) :: (92, .ifCond .eq 7, 3) :: (95, .iconst 4, 1) :: (96, .goto 4, 3) :: k_X11_clause_99
def k_X11_clause_58 : List CI := (58, .aload_n 0, 1) :: (59, .bipush 19, 2) :: (61, .bipush 20, 2) :: (63, .bipush 9, 2) :: (65, .bipush 12, 2) :: (67, .bipush 12, 2) :: (69, .invokevirtual 153, 3) :: (72, .ifCond .eq 7, 3) :: (75, .iconst 3, 1) :: (76, .goto 24, 3) :: k_X11_clause_79
def k_X11_clause_38 : List CI := (38, .aload_n 0, 1) :: (39, .bipush 8, 2) :: (41, .bipush 15, 2) :: (43, .bipush 21, 2) :: (45, .bipush 19, 2) :: (47, .iconst 5, 1) :: (48, .invokevirtual 153, 3) :: (51, .ifCond .eq 7, 3) :: (54, .iconst 2, 1) :: (55, .goto 45, 3) :: k_X11_clause_58
def k_X11_clause_18 : List CI := (18, .aload_n 0, 1) :: (19, .bipush 15, 2) :: (21, .bipush 20, 2) :: (23, .bipush 8, 2) :: (25, .iconst 5, 1) :: (26, .bipush 18, 2) :: (28, .invokevirtual 153, 3) :: (31, .ifCond .eq 7, 3) :: (34, .iconst 1, 1) :: (35, .goto 65, 3) :: k_X11_clause_38
def k_X11_clause : List CI := (0, .aload_n 0, 1) :: (1, .bipush 12, 2) :: (3, .iconst 1, 1) :: (4, .bipush 23, 2) :: (6, .iconst 0, 1) :: (7, .iconst 0, 1) :: (8, .invokevirtual 153, 3) :: (11, .ifCond .eq 7, 3) :: (14, .iconst 0, 1) :: (15, .goto 85, 3) :: k_X11_clause_18
def Y_X11_clause : MD := (yX11_clause, cX11_clause, 5, none, k_X11_clause)
theorem cok_X11_clause : COK Y_X11_clause.2.1 Y_X11_clause.code = true := by decide +kernel
theorem mok_X11_clause : MOK Y_X11_clause 0 := ⟨mU_7 196 rfl rfl, mU_1 13 rfl rfl, by decide, by decide, by decide +kernel, by decide⟩
theorem ins_X11_clause : INST Y_X11_clause := ⟨mU_7 195 rfl rfl, mV_8 (n := 48) 3 rfl⟩
def k_X11_calendar_429 : List CI := (429, .aload_n 0, 1) :: (430, .iconst 0, 1) :: (431, .putfield 193, 3) :: (434, .aload_n 0, 1) :: (435, .aload_n 0, 1) :: (436, .getfield 23, 3) :: (439, .iconst 5, 1) :: (440, .iaload, 1) :: (441, .putfield 104, 3) :: (444, .aload_n 0, 1) :: (445, .iconst 0, 1) :: (446, .putfield 196, 3) :: (449, .aload_n 0, 1) :: (450, .iconst 0, 1) :: (451, .putfield 199, 3) :: (454, .aload_n 0, 1) :: (455, .iconst 0, 1) :: (456, .putfield 202, 3) :: (459, .aload_n 0, 1) :: (460, .iconst 0, 1) :: (461, .putfield 205, 3) :: (464, .aload_n 0, 1) :: (465, .getfield 23, 3) :: (468, .iconst 0, 1) :: (469, .iaload, 1) :: (470, .ireturn, 1) :: []
def k_X11_calendar_401 : List CI := (401, .iload_n 2, 1) :: (402, .aload_n 0, 1) :: (403, .getfield 23, 3) :: (406, .iconst 3, 1) :: (407, .iaload, 1) :: (408, .if_icmp .ge 21, 3) :: (411, .aload_n 0, 1) :: (412, .getfield 29, 3) :: (415, .iload_n 2, 1) :: (416, .aload_n 0, 1) :: (417, .getfield 26, 3) :: (420, .iload_n 2, 1) :: (421, .iaload, 1) :: (422, .iastore, 1) :: (423, .iinc 2 1, 3) :: (426, .goto (-25), 3) :: k_X11_calendar_429
def k_X11_calendar_399 : List CI := (399, .iconst 0, 1) :: (400, .istore_n 2, 1) :: k_X11_calendar_401
def k_X11_calendar_393 : List CI := (393, .iinc 2 1, 3) :: (396, .goto (-43), 3) :: k_X11_calendar_399
def k_X11_calendar_365 : List CI := (365, .iload_n 3, 1) :: (366, .bipush 12, 2) :: (368, .if_icmp .ge 25, 3) :: (371, .aload_n 0, 1) :: (372, .getfield 61, 3) :: (375, .iload_n 2, 1) :: (376, .aaload, 1) :: (377, .iload_n 3, 1) :: (378, .aload_n 0, 1) :: (379, .getfield 58, 3) :: (382, .iload_n 2, 1) :: (383, .aaload, 1) :: (384, .iload_n 3, 1) :: (385, .iaload, 1) :: (386, .iastore, 1) :: (387, .iinc 3 1, 3) :: (390, .goto (-25), 3) :: k_X11_calendar_393
def k_X11_calendar_353 : List CI := (353, .iload_n 2, 1) :: (354, .aload_n 0, 1) :: (355, .getfield 23, 3) :: (358, .iconst 2, 1) :: (359, .iaload, 1) :: (360, .if_icmp .ge 39, 3) :: (363, .iconst 0, 1) :: (364, .istore_n 3, 1) :: k_X11_calendar_365
def k_X11_calendar_351 : List CI := (351, .iconst 0, 1) :: (352, .istore_n 2, 1) :: k_X11_calendar_353
def k_X11_calendar_311 : List CI := (311, .iload_n 2, 1) :: (312, .aload_n 0, 1) :: (313, .getfield 23, 3) :: (316, .iconst 1, 1) :: (317, .iaload, 1) :: (318, .if_icmp .ge 33, 3) :: (321, .aload_n 0, 1) :: (322, .getfield 47, 3) :: (325, .iload_n 2, 1) :: (326, .aload_n 0, 1) :: (327, .getfield 44, 3) :: (330, .iload_n 2, 1) :: (331, .iaload, 1) :: (332, .iastore, 1) :: (333, .aload_n 0, 1) :: (334, .getfield 53, 3) :: (337, .iload_n 2, 1) :: (338, .aload_n 0, 1) :: (339, .getfield 50, 3) :: (342, .iload_n 2, 1) :: (343, .iaload, 1) :: (344, .iastore, 1) :: (345, .iinc 2 1, 3) :: (348, .goto (-37), 3) :: k_X11_calendar_351
def k_X11_calendar_309 : List CI := (309, .iconst 0, 1) :: (310, .istore_n 2, 1) :: k_X11_calendar_311
def k_X11_calendar_269 : List CI := (269, .iload_n 2, 1) :: (270, .aload_n 0, 1) :: (271, .getfield 23, 3) :: (274, .iconst 0, 1) :: (275, .iaload, 1) :: (276, .if_icmp .ge 33, 3) :: (279, .aload_n 0, 1) :: (280, .getfield 35, 3) :: (283, .iload_n 2, 1) :: (284, .aload_n 0, 1) :: (285, .getfield 32, 3) :: (288, .iload_n 2, 1) :: (289, .iaload, 1) :: (290, .iastore, 1) :: (291, .aload_n 0, 1) :: (292, .getfield 41, 3) :: (295, .iload_n 2, 1) :: (296, .aload_n 0, 1) :: (297, .getfield 38, 3) :: (300, .iload_n 2, 1) :: (301, .iaload, 1) :: (302, .iastore, 1) :: (303, .iinc 2 1, 3) :: (306, .goto (-37), 3) :: k_X11_calendar_309
def k_X11_calendar_267 : List CI := (267, .iconst 0, 1) :: (268, .istore_n 2, 1) :: k_X11_calendar_269
def k_X11_calendar_243 : List CI := (243, .iload_n 2, 1) :: (244, .bipush 6, 2) :: (246, .if_icmp .ge 21, 3) :: (249, .aload_n 0, 1) :: (250, .getfield 23, 3) :: (253, .iload_n 2, 1) :: (254, .aload_n 0, 1) :: (255, .getfield 20, 3) :: (258, .iload_n 2, 1) :: (259, .iaload, 1) :: (260, .iastore, 1) :: (261, .iinc 2 1, 3) :: (264, .goto (-21), 3) :: k_X11_calendar_267
def k_X11_calendar_241 : List CI := (241, .iconst 0, 1) :: (242, .istore_n 2, 1) :: k_X11_calendar_243
def k_X11_calendar_218 : List CI := (218, .aload_n 0, 1) :: (219, .aload_n 0, 1) :: (220, .getfield 126, 3) :: (223, .putfield 9, 3) :: (226, .aload_n 0, 1) :: (227, .getfield 123, 3) :: (230, .ifCond .eq 11, 3) :: (233, .aload_n 0, 1) :: (234, .getfield 123, 3) :: (237, .bipush 10, 2) :: (239, .isub, 1) :: (240, .ireturn, 1) :: k_X11_calendar_241
def k_X11_calendar_198 : List CI := (198, .aload_n 0, 1) :: (199, .getfield 20, 3) :: (202, .iconst 5, 1) :: (203, .iaload, 1) :: (204, .ldc 163, 2) :: (206, .if_icmp .le 12, 3) :: (209, .aload_n 0, 1) :: (210, .iconst 4, 1) :: (211, .aload_n 0, 1) :: (212, .getfield 113, 3) :: (215, .invokevirtual 136, 3) :: k_X11_calendar_218
def k_X11_calendar_154 : List CI := (154, .iload_n 2, 1) :: (155, .aload_n 0, 1) :: (156, .getfield 20, 3) :: (159, .iconst 1, 1) :: (160, .iaload, 1) :: (161, .if_icmp .ge 37, 3) :: (164, .aload_n 0, 1) :: (165, .getfield 123, 3) :: (168, .ifCond .ne 30, 3) :: (171, .aload_n 0, 1) :: (172, .getfield 20, 3) :: (175, .iconst 5, 1) :: (176, .aload_n 0, 1) :: (177, .getfield 20, 3) :: (180, .iconst 5, 1) :: (181, .iaload, 1) :: (182, .aload_n 0, 1) :: (183, .getfield 44, 3) :: (186, .iload_n 2, 1) :: (187, .iaload, 1) :: (188, .invokestatic 190, 3) :: (191, .iastore, 1) :: (192, .iinc 2 1, 3) :: (195, .goto (-41), 3) :: k_X11_calendar_198
def k_X11_calendar_140 : List CI := (140, .aload_n 0, 1) :: (141, .getfield 20, 3) :: (144, .iconst 5, 1) :: (145, .aload_n 0, 1) :: (146, .getfield 20, 3) :: (149, .iconst 4, 1) :: (150, .iaload, 1) :: (151, .iastore, 1) :: (152, .iconst 0, 1) :: (153, .istore_n 2, 1) :: k_X11_calendar_154
def k_X11_calendar_96 : List CI := (96, .iload_n 2, 1) :: (97, .aload_n 0, 1) :: (98, .getfield 20, 3) :: (101, .iconst 0, 1) :: (102, .iaload, 1) :: (103, .if_icmp .ge 37, 3) :: (106, .aload_n 0, 1) :: (107, .getfield 123, 3) :: (110, .ifCond .ne 30, 3) :: (113, .aload_n 0, 1) :: (114, .getfield 20, 3) :: (117, .iconst 4, 1) :: (118, .aload_n 0, 1) :: (119, .getfield 20, 3) :: (122, .iconst 4, 1) :: (123, .iaload, 1) :: (124, .aload_n 0, 1) :: (125, .getfield 32, 3) :: (128, .iload_n 2, 1) :: (129, .iaload, 1) :: (130, .invokestatic 190, 3) :: (133, .iastore, 1) :: (134, .iinc 2 1, 3) :: (137, .goto (-41), 3) :: k_X11_calendar_140
def k_X11_calendar_87 : List CI := (87, .aload_n 0, 1) :: (88, .getfield 20, 3) :: (91, .iconst 4, 1) :: (92, .iconst 1, 1) :: (93, .iastore, 1) :: (94, .iconst 0, 1) :: (95, .istore_n 2, 1) :: k_X11_calendar_96
def k_X11_calendar_58 : List CI := (58, .aload_n 0, 1) :: (59, .getfield 123, 3) :: (62, .ifCond .ne 25, 3) :: (65, .aload_n 0, 1) :: (66, .getfield 116, 3) :: (69, .aload_n 0, 1) :: (70, .getfield 113, 3) :: (73, .if_icmp .ge 14, 3) :: (76, .aload_n 0, 1) :: (77, .invokevirtual 187, 3) :: (80, .aload_n 0, 1) :: (81, .invokevirtual 129, 3) :: (84, .goto (-26), 3) :: k_X11_calendar_87
def k_X11_calendar_40 : List CI := (40, .iload_n 2, 1) :: (41, .iconst 4, 1) :: (42, .if_icmp .ge 16, 3) :: (45, .aload_n 0, 1) :: (46, .getfield 20, 3) :: (49, .iload_n 2, 1) :: (50, .iconst 0, 1) :: (51, .iastore, 1) :: (52, .iinc 2 1, 3) :: (55, .goto (-15), 3) :: k_X11_calendar_58
def k_X11_calendar_33 : List CI := (33, .aload_n 0, 1) :: (34, .iload_n 1, 1) :: (35, .invokevirtual 184, 3) :: (38, .iconst 0, 1) :: (39, .istore_n 2, 1) :: k_X11_calendar_40
def k_X11_calendar_23 : List CI := (23, .iconst 1, 1) :: (24, .iconst 2, 1) :: (25, .invokevirtual 180, 3) :: (28, .ifCond .eq 5, 3) :: (31, .iconst 0, 1) :: (32, .ireturn, 1) :: k_X11_calendar_33
def k_X11_calendar_22 : List CI := (22, .iconst 0, 1) :: k_X11_calendar_23
def k_X11_calendar : List CI := (0, .aload_n 0, 1) :: (1, .iconst 0, 1) :: (2, .putfield 107, 3) :: (5, .aload_n 0, 1) :: (6, .iload_n 1, 1) :: (7, .iconst 0, 1) :: (8, .aload_n 0, 1) :: (9, .getfield 110, 3) :: (12, .invokestatic 141, 3) :: (15, .ifCond .ne 7, 3) :: (18, .iconst 1, 1) :: (19, .goto 4, 3) :: k_X11_calendar_22
def Y_X11_calendar : MD := (yX11_calendar, cX11_calendar, 4, (some .int), k_X11_calendar)
theorem cok_X11_calendar : COK Y_X11_calendar.2.1 Y_X11_calendar.code = true := by decide +kernel
theorem mok_X11_calendar : MOK Y_X11_calendar 1 := ⟨mU_7 173 rfl rfl, mU_1 13 rfl rfl, by decide, by decide, by decide +kernel, by decide⟩
theorem ins_X11_calendar : INST Y_X11_calendar := ⟨mU_7 171 rfl rfl, mU_7 172 rfl rfl⟩
def k_X11_takes_22 : List CI := (22, .iload 6, 2) :: (24, .ireturn, 1) :: []
def k_X11_takes : List CI := (0, .aload_n 0, 1) :: (1, .iload_n 1, 1) :: (2, .iload_n 2, 1) :: (3, .iload_n 3, 1) :: (4, .iload 4, 2) :: (6, .iload 5, 2) :: (8, .invokevirtual 153, 3) :: (11, .istore 6, 2) :: (13, .iload 6, 2) :: (15, .ifCond .eq 7, 3) :: (18, .aload_n 0, 1) :: (19, .invokevirtual 157, 3) :: k_X11_takes_22
def Y_X11_takes : MD := (yX11_takes, cX11_takes, 7, (some .boolean), k_X11_takes)
theorem cok_X11_takes : COK Y_X11_takes.2.1 Y_X11_takes.code = true := by decide +kernel
theorem mok_X11_takes : MOK Y_X11_takes 5 := ⟨mU_8 28 rfl rfl, mU_1 13 rfl rfl, by decide, by decide, by decide +kernel, by decide⟩
theorem ins_X11_takes : INST Y_X11_takes := ⟨mU_8 27 rfl rfl, mV_9 (n := 48) 0 rfl⟩
def k_X11_says_8 : List CI := (8, .aload_n 0, 1) :: (9, .getfield 67, 3) :: (12, .aload_n 0, 1) :: (13, .getfield 208, 3) :: (16, .aaload, 1) :: (17, .iconst 0, 1) :: (18, .iload_n 1, 1) :: (19, .iastore, 1) :: (20, .aload_n 0, 1) :: (21, .getfield 67, 3) :: (24, .aload_n 0, 1) :: (25, .getfield 208, 3) :: (28, .aaload, 1) :: (29, .iconst 1, 1) :: (30, .iload_n 2, 1) :: (31, .iastore, 1) :: (32, .aload_n 0, 1) :: (33, .getfield 67, 3) :: (36, .aload_n 0, 1) :: (37, .getfield 208, 3) :: (40, .aaload, 1) :: (41, .iconst 2, 1) :: (42, .iload_n 3, 1) :: (43, .iastore, 1) :: (44, .aload_n 0, 1) :: (45, .dup, 1) :: (46, .getfield 208, 3) :: (49, .iconst 1, 1) :: (50, .iadd, 1) :: (51, .putfield 208, 3) :: (54, .return_, 1) :: []
def k_X11_says : List CI := (0, .aload_n 0, 1) :: (1, .getfield 123, 3) :: (4, .ifCond .eq 4, 3) :: (7, .return_, 1) :: k_X11_says_8
def Y_X11_says : MD := (yX11_says, cX11_says, 4, none, k_X11_says)
theorem cok_X11_says : COK Y_X11_says.2.1 Y_X11_says.code = true := by decide +kernel
theorem mok_X11_says : MOK Y_X11_says 3 := ⟨mU_8 24 rfl rfl, mU_1 13 rfl rfl, by decide, by decide, by decide +kernel, by decide⟩
theorem ins_X11_says : INST Y_X11_says := ⟨mU_8 23 rfl rfl, mV_8 (n := 48) 15 rfl⟩
def k_X11_opens_31 : List CI := (31, .return_, 1) :: []
def k_X11_opens_21 : List CI := (21, .aload_n 0, 1) :: (22, .dup, 1) :: (23, .getfield 211, 3) :: (26, .iconst 1, 1) :: (27, .iadd, 1) :: (28, .putfield 211, 3) :: k_X11_opens_31
def k_X11_opens : List CI := (0, .aload_n 0, 1) :: (1, .getfield 211, 3) :: (4, .bipush 6, 2) :: (6, .if_icmp .ne 15, 3) :: (9, .aload_n 0, 1) :: (10, .iconst 3, 1) :: (11, .aload_n 0, 1) :: (12, .getfield 116, 3) :: (15, .invokevirtual 136, 3) :: (18, .goto 13, 3) :: k_X11_opens_21
def Y_X11_opens : MD := (yX11_opens, cX11_opens, 1, none, k_X11_opens)
theorem cok_X11_opens : COK Y_X11_opens.2.1 Y_X11_opens.code = true := by decide +kernel
theorem mok_X11_opens : MOK Y_X11_opens 0 := ⟨mU_8 20 rfl rfl, mU_1 13 rfl rfl, by decide, by decide, by decide +kernel, by decide⟩
theorem ins_X11_opens : INST Y_X11_opens := ⟨mU_8 19 rfl rfl, mV_8 (n := 48) 14 rfl⟩
def k_X11_one_349 : List CI := (349, .return_, 1) :: []
def k_X11_one_340 : List CI := (340, .aload_n 0, 1) :: (341, .iconst 1, 1) :: (342, .aload_n 0, 1) :: (343, .getfield 116, 3) :: (346, .invokevirtual 136, 3) :: k_X11_one_349
def k_X11_one_302 : List CI := (302, .aload_n 0, 1) :: (303, .bipush 20, 2) :: (305, .bipush 15, 2) :: (307, .bipush 23, 2) :: (309, .bipush 14, 2) :: (311, .iconst 0, 1) :: (312, .invokevirtual 217, 3) :: (315, .ifCond .eq 25, 3) :: (318, .aload_n 0, 1) :: (319, .iconst 4, 1) :: (320, .aload_n 0, 1) :: (321, .iconst 0, 1) :: (322, .aload_n 0, 1) :: (323, .getfield 23, 3) :: (326, .iconst 1, 1) :: (327, .iaload, 1) :: (328, .iconst 1, 1) :: (329, .isub, 1) :: (330, .invokevirtual 169, 3) :: (333, .iconst 0, 1) :: (334, .invokevirtual 220, 3) :: (337, .goto 12, 3) :: k_X11_one_340
def k_X11_one_248 : List CI := (248, .aload_n 0, 1) :: (249, .bipush 8, 2) :: (251, .bipush 15, 2) :: (253, .bipush 21, 2) :: (255, .bipush 19, 2) :: (257, .iconst 5, 1) :: (258, .invokevirtual 217, 3) :: (261, .ifCond .eq 41, 3) :: (264, .aload_n 0, 1) :: (265, .iconst 0, 1) :: (266, .aload_n 0, 1) :: (267, .getfield 23, 3) :: (270, .iconst 2, 1) :: (271, .iaload, 1) :: (272, .iconst 1, 1) :: (273, .isub, 1) :: (274, .invokevirtual 169, 3) :: (277, .istore_n 1, 1) :: (278, .aload_n 0, 1) :: (279, .iconst 0, 1) :: (280, .aload_n 0, 1) :: (281, .getfield 23, 3) :: (284, .iconst 0, 1) :: (285, .iaload, 1) :: (286, .iconst 1, 1) :: (287, .isub, 1) :: (288, .invokevirtual 169, 3) :: (291, .istore_n 2, 1) :: (292, .aload_n 0, 1) :: (293, .iconst 3, 1) :: (294, .iload_n 1, 1) :: (295, .iload_n 2, 1) :: (296, .invokevirtual 220, 3) :: (299, .goto 50, 3) :: k_X11_one_302
def k_X11_one_232 : List CI := (232, .invokestatic 190, 3) :: (235, .putfield 233, 3) :: (238, .aload_n 0, 1) :: (239, .iconst 2, 1) :: (240, .iload_n 1, 1) :: (241, .iload_n 2, 1) :: (242, .invokevirtual 220, 3) :: (245, .goto 104, 3) :: k_X11_one_248
def k_X11_one_231 : List CI := (231, .iload_n 1, 1) :: k_X11_one_232
def k_X11_one_188 : List CI := (188, .aload_n 0, 1) :: (189, .iconst 4, 1) :: (190, .iconst 1, 1) :: (191, .bipush 25, 2) :: (193, .iconst 0, 1) :: (194, .iconst 0, 1) :: (195, .invokevirtual 217, 3) :: (198, .ifCond .eq 50, 3) :: (201, .aload_n 0, 1) :: (202, .iconst 2, 1) :: (203, .bipush 99, 2) :: (205, .invokevirtual 169, 3) :: (208, .istore_n 1, 1) :: (209, .aload_n 0, 1) :: (210, .iconst 0, 1) :: (211, .iload_n 1, 1) :: (212, .iconst 1, 1) :: (213, .isub, 1) :: (214, .invokevirtual 169, 3) :: (217, .istore_n 2, 1) :: (218, .aload_n 0, 1) :: (219, .aload_n 0, 1) :: (220, .getfield 233, 3) :: (223, .iload_n 1, 1) :: (224, .ifCond .ne 7, 3) :: (227, .iconst 1, 1) :: (228, .goto 4, 3) :: k_X11_one_231
def k_X11_one_157 : List CI := (157, .aload_n 0, 1) :: (158, .bipush 13, 2) :: (160, .iconst 1, 1) :: (161, .bipush 14, 2) :: (163, .bipush 25, 2) :: (165, .iconst 0, 1) :: (166, .invokevirtual 217, 3) :: (169, .ifCond .eq 19, 3) :: (172, .aload_n 0, 1) :: (173, .iconst 1, 1) :: (174, .aload_n 0, 1) :: (175, .iconst 0, 1) :: (176, .bipush 12, 2) :: (178, .invokevirtual 169, 3) :: (181, .iconst 0, 1) :: (182, .invokevirtual 220, 3) :: (185, .goto 164, 3) :: k_X11_one_188
def k_X11_one_121 : List CI := (121, .aload_n 0, 1) :: (122, .bipush 12, 2) :: (124, .iconst 1, 1) :: (125, .bipush 23, 2) :: (127, .iconst 0, 1) :: (128, .iconst 0, 1) :: (129, .invokevirtual 217, 3) :: (132, .ifCond .eq 25, 3) :: (135, .aload_n 0, 1) :: (136, .iconst 0, 1) :: (137, .aload_n 0, 1) :: (138, .iconst 0, 1) :: (139, .aload_n 0, 1) :: (140, .getfield 23, 3) :: (143, .iconst 0, 1) :: (144, .iaload, 1) :: (145, .iconst 1, 1) :: (146, .isub, 1) :: (147, .invokevirtual 169, 3) :: (150, .iconst 0, 1) :: (151, .invokevirtual 220, 3) :: (154, .goto 195, 3) :: k_X11_one_157
def k_X11_one_90 : List CI := (90, .aload_n 0, 1) :: (91, .dup, 1) :: (92, .getfield 116, 3) :: (95, .iconst 1, 1) :: (96, .iadd, 1) :: (97, .putfield 116, 3) :: (100, .aload_n 0, 1) :: (101, .invokevirtual 230, 3) :: (104, .aload_n 0, 1) :: (105, .bipush 93, 2) :: (107, .invokevirtual 177, 3) :: (110, .aload_n 0, 1) :: (111, .dup, 1) :: (112, .getfield 211, 3) :: (115, .iconst 1, 1) :: (116, .isub, 1) :: (117, .putfield 211, 3) :: (120, .return_, 1) :: k_X11_one_121
def k_X11_one_65 : List CI := (65, .aload_n 0, 1) :: (66, .aload_n 0, 1) :: (67, .getfield 116, 3) :: (70, .invokevirtual 119, 3) :: (73, .bipush 91, 2) :: (75, .if_icmp .ne 46, 3) :: (78, .aload_n 0, 1) :: (79, .invokevirtual 227, 3) :: (82, .aload_n 0, 1) :: (83, .getfield 123, 3) :: (86, .ifCond .eq 4, 3) :: (89, .return_, 1) :: k_X11_one_90
def k_X11_one_39 : List CI := (39, .aload_n 0, 1) :: (40, .invokevirtual 157, 3) :: (43, .aload_n 0, 1) :: (44, .invokevirtual 224, 3) :: (47, .aload_n 0, 1) :: (48, .iconst 5, 1) :: (49, .iconst 0, 1) :: (50, .iconst 0, 1) :: (51, .invokevirtual 220, 3) :: (54, .aload_n 0, 1) :: (55, .dup, 1) :: (56, .getfield 211, 3) :: (59, .iconst 1, 1) :: (60, .isub, 1) :: (61, .putfield 211, 3) :: (64, .return_, 1) :: k_X11_one_65
def k_X11_one_8 : List CI := (8, .aload_n 0, 1) :: (9, .invokevirtual 129, 3) :: (12, .aload_n 0, 1) :: (13, .bipush 14, 2) :: (15, .bipush 15, 2) :: (17, .bipush 20, 2) :: (19, .iconst 0, 1) :: (20, .iconst 0, 1) :: (21, .invokevirtual 153, 3) :: (24, .ifCond .eq 41, 3) :: (27, .aload_n 0, 1) :: (28, .invokevirtual 227, 3) :: (31, .aload_n 0, 1) :: (32, .getfield 123, 3) :: (35, .ifCond .eq 4, 3) :: (38, .return_, 1) :: k_X11_one_39
def k_X11_one : List CI := (0, .aload_n 0, 1) :: (1, .getfield 123, 3) :: (4, .ifCond .eq 4, 3) :: (7, .return_, 1) :: k_X11_one_8
def Y_X11_one : MD := (yX11_one, cX11_one, 3, none, k_X11_one)
theorem cok_X11_one : COK Y_X11_one.2.1 Y_X11_one.code = true := by decide +kernel
theorem mok_X11_one : MOK Y_X11_one 0 := ⟨mU_8 16 rfl rfl, mU_1 13 rfl rfl, by decide, by decide, by decide +kernel, by decide⟩
theorem ins_X11_one : INST Y_X11_one := ⟨mU_8 15 rfl rfl, mV_8 (n := 48) 13 rfl⟩
def k_X11_andRow_32 : List CI := (32, .return_, 1) :: []
def k_X11_andRow_4 : List CI := (4, .aload_n 0, 1) :: (5, .iconst 1, 1) :: (6, .bipush 14, 2) :: (8, .iconst 4, 1) :: (9, .iconst 0, 1) :: (10, .iconst 0, 1) :: (11, .invokevirtual 217, 3) :: (14, .ifCond .eq 18, 3) :: (17, .aload_n 0, 1) :: (18, .invokevirtual 224, 3) :: (21, .aload_n 0, 1) :: (22, .bipush 6, 2) :: (24, .iconst 0, 1) :: (25, .iconst 0, 1) :: (26, .invokevirtual 220, 3) :: (29, .goto (-25), 3) :: k_X11_andRow_32
def k_X11_andRow : List CI := (0, .aload_n 0, 1) :: (1, .invokevirtual 224, 3) :: k_X11_andRow_4
def Y_X11_andRow : MD := (yX11_andRow, cX11_andRow, 1, none, k_X11_andRow)
theorem cok_X11_andRow : COK Y_X11_andRow.2.1 Y_X11_andRow.code = true := by decide +kernel
theorem mok_X11_andRow : MOK Y_X11_andRow 0 := ⟨mU_8 12 rfl rfl, mU_1 13 rfl rfl, by decide, by decide, by decide +kernel, by decide⟩
theorem ins_X11_andRow : INST Y_X11_andRow := ⟨mU_8 11 rfl rfl, mV_8 (n := 48) 12 rfl⟩
def k_X11_orRow_33 : List CI := (33, .return_, 1) :: []
def k_X11_orRow_4 : List CI := (4, .aload_n 0, 1) :: (5, .bipush 15, 2) :: (7, .bipush 18, 2) :: (9, .iconst 0, 1) :: (10, .iconst 0, 1) :: (11, .iconst 0, 1) :: (12, .invokevirtual 217, 3) :: (15, .ifCond .eq 18, 3) :: (18, .aload_n 0, 1) :: (19, .invokevirtual 214, 3) :: (22, .aload_n 0, 1) :: (23, .bipush 7, 2) :: (25, .iconst 0, 1) :: (26, .iconst 0, 1) :: (27, .invokevirtual 220, 3) :: (30, .goto (-26), 3) :: k_X11_orRow_33
def k_X11_orRow : List CI := (0, .aload_n 0, 1) :: (1, .invokevirtual 214, 3) :: k_X11_orRow_4
def Y_X11_orRow : MD := (yX11_orRow, cX11_orRow, 1, none, k_X11_orRow)
theorem cok_X11_orRow : COK Y_X11_orRow.2.1 Y_X11_orRow.code = true := by decide +kernel
theorem mok_X11_orRow : MOK Y_X11_orRow 0 := ⟨mU_8 8 rfl rfl, mU_1 13 rfl rfl, by decide, by decide, by decide +kernel, by decide⟩
theorem ins_X11_orRow : INST Y_X11_orRow := ⟨mU_8 7 rfl rfl, mV_8 (n := 48) 11 rfl⟩
def k_X11_wish_209 : List CI := (209, .iconst 1, 1) :: (210, .ireturn, 1) :: []
def k_X11_wish_203 : List CI := (203, .iinc 2 1, 3) :: (206, .goto (-40), 3) :: k_X11_wish_209
def k_X11_wish_176 : List CI := (176, .iload_n 3, 1) :: (177, .iconst 3, 1) :: (178, .if_icmp .ge 25, 3) :: (181, .aload_n 0, 1) :: (182, .getfield 64, 3) :: (185, .iload_n 2, 1) :: (186, .aaload, 1) :: (187, .iload_n 3, 1) :: (188, .aload_n 0, 1) :: (189, .getfield 67, 3) :: (192, .iload_n 2, 1) :: (193, .aaload, 1) :: (194, .iload_n 3, 1) :: (195, .iaload, 1) :: (196, .iastore, 1) :: (197, .iinc 3 1, 3) :: (200, .goto (-24), 3) :: k_X11_wish_203
def k_X11_wish_166 : List CI := (166, .iload_n 2, 1) :: (167, .aload_n 0, 1) :: (168, .getfield 193, 3) :: (171, .if_icmp .ge 38, 3) :: (174, .iconst 0, 1) :: (175, .istore_n 3, 1) :: k_X11_wish_176
def k_X11_wish_148 : List CI := (148, .aload_n 0, 1) :: (149, .aload_n 0, 1) :: (150, .getfield 208, 3) :: (153, .putfield 193, 3) :: (156, .aload_n 0, 1) :: (157, .aload_n 0, 1) :: (158, .getfield 233, 3) :: (161, .putfield 104, 3) :: (164, .iconst 0, 1) :: (165, .istore_n 2, 1) :: k_X11_wish_166
def k_X11_wish_125 : List CI := (125, .aload_n 0, 1) :: (126, .aload_n 0, 1) :: (127, .getfield 126, 3) :: (130, .putfield 9, 3) :: (133, .aload_n 0, 1) :: (134, .getfield 123, 3) :: (137, .ifCond .eq 11, 3) :: (140, .aload_n 0, 1) :: (141, .getfield 123, 3) :: (144, .bipush 10, 2) :: (146, .isub, 1) :: (147, .ireturn, 1) :: k_X11_wish_148
def k_X11_wish_100 : List CI := (100, .aload_n 0, 1) :: (101, .getfield 123, 3) :: (104, .ifCond .ne 21, 3) :: (107, .aload_n 0, 1) :: (108, .getfield 233, 3) :: (111, .ldc 163, 2) :: (113, .if_icmp .le 12, 3) :: (116, .aload_n 0, 1) :: (117, .iconst 4, 1) :: (118, .aload_n 0, 1) :: (119, .getfield 113, 3) :: (122, .invokevirtual 136, 3) :: k_X11_wish_125
def k_X11_wish_40 : List CI := (40, .aload_n 0, 1) :: (41, .iload_n 1, 1) :: (42, .invokevirtual 184, 3) :: (45, .aload_n 0, 1) :: (46, .iconst 0, 1) :: (47, .putfield 208, 3) :: (50, .aload_n 0, 1) :: (51, .aload_n 0, 1) :: (52, .getfield 23, 3) :: (55, .iconst 5, 1) :: (56, .iaload, 1) :: (57, .putfield 233, 3) :: (60, .aload_n 0, 1) :: (61, .iconst 0, 1) :: (62, .putfield 211, 3) :: (65, .aload_n 0, 1) :: (66, .invokevirtual 230, 3) :: (69, .aload_n 0, 1) :: (70, .invokevirtual 129, 3) :: (73, .aload_n 0, 1) :: (74, .getfield 123, 3) :: (77, .ifCond .ne 23, 3) :: (80, .aload_n 0, 1) :: (81, .getfield 116, 3) :: (84, .aload_n 0, 1) :: (85, .getfield 113, 3) :: (88, .if_icmp .ge 12, 3) :: (91, .aload_n 0, 1) :: (92, .iconst 1, 1) :: (93, .aload_n 0, 1) :: (94, .getfield 116, 3) :: (97, .invokevirtual 136, 3) :: k_X11_wish_100
def k_X11_wish_30 : List CI := (30, .iconst 1, 1) :: (31, .iconst 2, 1) :: (32, .invokevirtual 180, 3) :: (35, .ifCond .eq 5, 3) :: (38, .iconst 0, 1) :: (39, .ireturn, 1) :: k_X11_wish_40
def k_X11_wish_29 : List CI := (29, .iconst 0, 1) :: k_X11_wish_30
def k_X11_wish_25 : List CI := (25, .iconst 1, 1) :: (26, .goto 4, 3) :: k_X11_wish_29
def k_X11_wish : List CI := (0, .aload_n 0, 1) :: (1, .iconst 0, 1) :: (2, .putfield 107, 3) :: (5, .aload_n 0, 1) :: (6, .iload_n 1, 1) :: (7, .iconst 0, 1) :: (8, .aload_n 0, 1) :: (9, .getfield 110, 3) :: (12, .invokestatic 141, 3) :: (15, .ifCond .eq 10, 3) :: (18, .iload_n 1, 1) :: (19, .sipush 200, 3) :: (22, .if_icmp .le 7, 3) :: k_X11_wish_25
def Y_X11_wish : MD := (yX11_wish, cX11_wish, 4, (some .int), k_X11_wish)
theorem cok_X11_wish : COK Y_X11_wish.2.1 Y_X11_wish.code = true := by decide +kernel
theorem mok_X11_wish : MOK Y_X11_wish 1 := ⟨mU_8 4 rfl rfl, mU_1 13 rfl rfl, by decide, by decide, by decide +kernel, by decide⟩
theorem ins_X11_wish : INST Y_X11_wish := ⟨mU_8 2 rfl rfl, mU_8 3 rfl rfl⟩
def k_X11_fault : List CI := (0, .aload_n 0, 1) :: (1, .iconst 0, 1) :: (2, .putfield 107, 3) :: (5, .aload_n 0, 1) :: (6, .getfield 9, 3) :: (9, .ireturn, 1) :: []
def Y_X11_fault : MD := (yX11_fault, cX11_fault, 1, (some .int), k_X11_fault)
theorem cok_X11_fault : COK Y_X11_fault.2.1 Y_X11_fault.code = true := by decide +kernel
theorem mok_X11_fault : MOK Y_X11_fault 0 := ⟨mU_8 32 rfl rfl, mU_1 13 rfl rfl, by decide, by decide, by decide +kernel, by decide⟩
theorem ins_X11_fault : INST Y_X11_fault := ⟨mU_8 30 rfl rfl, mU_8 31 rfl rfl⟩
def k_X11_told_30 : List CI := (30, .aload_n 0, 1) :: (31, .getfield 23, 3) :: (34, .iload_n 1, 1) :: (35, .iaload, 1) :: (36, .ireturn, 1) :: []
def k_X11_told_20 : List CI := (20, .iconst 1, 1) :: (21, .iconst 2, 1) :: (22, .invokevirtual 180, 3) :: (25, .ifCond .eq 5, 3) :: (28, .iconst 0, 1) :: (29, .ireturn, 1) :: k_X11_told_30
def k_X11_told_19 : List CI := (19, .iconst 0, 1) :: k_X11_told_20
def k_X11_told : List CI := (0, .aload_n 0, 1) :: (1, .iconst 0, 1) :: (2, .putfield 107, 3) :: (5, .aload_n 0, 1) :: (6, .iload_n 1, 1) :: (7, .iconst 0, 1) :: (8, .iconst 5, 1) :: (9, .invokestatic 141, 3) :: (12, .ifCond .ne 7, 3) :: (15, .iconst 1, 1) :: (16, .goto 4, 3) :: k_X11_told_19
def Y_X11_told : MD := (yX11_told, cX11_told, 2, (some .int), k_X11_told)
theorem cok_X11_told : COK Y_X11_told.2.1 Y_X11_told.code = true := by decide +kernel
theorem mok_X11_told : MOK Y_X11_told 1 := ⟨mU_8 36 rfl rfl, mU_1 13 rfl rfl, by decide, by decide, by decide +kernel, by decide⟩
theorem ins_X11_told : INST Y_X11_told := ⟨mU_8 34 rfl rfl, mU_8 35 rfl rfl⟩
def k_X11_isLaw : List CI := (0, .iload_n 1, 1) :: (1, .iconst 0, 1) :: (2, .aload_n 0, 1) :: (3, .getfield 23, 3) :: (6, .iconst 0, 1) :: (7, .iaload, 1) :: (8, .iconst 1, 1) :: (9, .isub, 1) :: (10, .invokestatic 141, 3) :: (13, .ireturn, 1) :: []
def Y_X11_isLaw : MD := (yX11_isLaw, cX11_isLaw, 2, (some .boolean), k_X11_isLaw)
theorem cok_X11_isLaw : COK Y_X11_isLaw.2.1 Y_X11_isLaw.code = true := by decide +kernel
theorem mok_X11_isLaw : MOK Y_X11_isLaw 1 := ⟨mU_8 44 rfl rfl, mU_1 13 rfl rfl, by decide, by decide, by decide +kernel, by decide⟩
theorem ins_X11_isLaw : INST Y_X11_isLaw := ⟨mU_8 43 rfl rfl, mV_9 (n := 48) 1 rfl⟩
def k_X11_law_71 : List CI := (71, .ireturn, 1) :: []
def k_X11_law_65 : List CI := (65, .aload_n 0, 1) :: (66, .getfield 41, 3) :: (69, .iload_n 1, 1) :: (70, .iaload, 1) :: k_X11_law_71
def k_X11_law_52 : List CI := (52, .iload_n 2, 1) :: (53, .ifCond .ne 12, 3) :: (56, .aload_n 0, 1) :: (57, .getfield 35, 3) :: (60, .iload_n 1, 1) :: (61, .iaload, 1) :: (62, .goto 9, 3) :: k_X11_law_65
def k_X11_law_50 : List CI := (50, .iconst 0, 1) :: (51, .ireturn, 1) :: k_X11_law_52
def k_X11_law_42 : List CI := (42, .iconst 2, 1) :: (43, .iconst 2, 1) :: (44, .invokevirtual 180, 3) :: (47, .ifCond .eq 5, 3) :: k_X11_law_50
def k_X11_law_41 : List CI := (41, .iconst 0, 1) :: k_X11_law_42
def k_X11_law_19 : List CI := (19, .iconst 1, 1) :: (20, .iconst 1, 1) :: (21, .invokevirtual 180, 3) :: (24, .ifCond .ne 26, 3) :: (27, .aload_n 0, 1) :: (28, .iload_n 2, 1) :: (29, .iconst 0, 1) :: (30, .iconst 1, 1) :: (31, .invokestatic 141, 3) :: (34, .ifCond .ne 7, 3) :: (37, .iconst 1, 1) :: (38, .goto 4, 3) :: k_X11_law_41
def k_X11_law_18 : List CI := (18, .iconst 0, 1) :: k_X11_law_19
def k_X11_law : List CI := (0, .aload_n 0, 1) :: (1, .iconst 0, 1) :: (2, .putfield 107, 3) :: (5, .aload_n 0, 1) :: (6, .aload_n 0, 1) :: (7, .iload_n 1, 1) :: (8, .invokevirtual 236, 3) :: (11, .ifCond .ne 7, 3) :: (14, .iconst 1, 1) :: (15, .goto 4, 3) :: k_X11_law_18
def Y_X11_law : MD := (yX11_law, cX11_law, 3, (some .int), k_X11_law)
theorem cok_X11_law : COK Y_X11_law.2.1 Y_X11_law.code = true := by decide +kernel
theorem mok_X11_law : MOK Y_X11_law 2 := ⟨mU_8 40 rfl rfl, mU_1 13 rfl rfl, by decide, by decide, by decide +kernel, by decide⟩
theorem ins_X11_law : INST Y_X11_law := ⟨mU_8 38 rfl rfl, mU_8 39 rfl rfl⟩
def k_X11_isHouse : List CI := (0, .iload_n 1, 1) :: (1, .iconst 0, 1) :: (2, .aload_n 0, 1) :: (3, .getfield 23, 3) :: (6, .iconst 2, 1) :: (7, .iaload, 1) :: (8, .iconst 1, 1) :: (9, .isub, 1) :: (10, .invokestatic 141, 3) :: (13, .ireturn, 1) :: []
def Y_X11_isHouse : MD := (yX11_isHouse, cX11_isHouse, 2, (some .boolean), k_X11_isHouse)
theorem cok_X11_isHouse : COK Y_X11_isHouse.2.1 Y_X11_isHouse.code = true := by decide +kernel
theorem mok_X11_isHouse : MOK Y_X11_isHouse 1 := ⟨mU_8 52 rfl rfl, mU_1 13 rfl rfl, by decide, by decide, by decide +kernel, by decide⟩
theorem ins_X11_isHouse : INST Y_X11_isHouse := ⟨mU_8 51 rfl rfl, mV_9 (n := 48) 2 rfl⟩
def k_X11_slip_37 : List CI := (37, .aload_n 0, 1) :: (38, .getfield 61, 3) :: (41, .iload_n 1, 1) :: (42, .aaload, 1) :: (43, .iload_n 2, 1) :: (44, .iaload, 1) :: (45, .ireturn, 1) :: []
def k_X11_slip_27 : List CI := (27, .iconst 1, 1) :: (28, .iconst 1, 1) :: (29, .invokevirtual 180, 3) :: (32, .ifCond .eq 5, 3) :: (35, .iconst 0, 1) :: (36, .ireturn, 1) :: k_X11_slip_37
def k_X11_slip_26 : List CI := (26, .iconst 0, 1) :: k_X11_slip_27
def k_X11_slip_22 : List CI := (22, .iconst 1, 1) :: (23, .goto 4, 3) :: k_X11_slip_26
def k_X11_slip : List CI := (0, .aload_n 0, 1) :: (1, .iconst 0, 1) :: (2, .putfield 107, 3) :: (5, .aload_n 0, 1) :: (6, .aload_n 0, 1) :: (7, .iload_n 1, 1) :: (8, .invokevirtual 239, 3) :: (11, .ifCond .eq 11, 3) :: (14, .aload_n 0, 1) :: (15, .iload_n 2, 1) :: (16, .invokevirtual 236, 3) :: (19, .ifCond .ne 7, 3) :: k_X11_slip_22
def Y_X11_slip : MD := (yX11_slip, cX11_slip, 3, (some .int), k_X11_slip)
theorem cok_X11_slip : COK Y_X11_slip.2.1 Y_X11_slip.code = true := by decide +kernel
theorem mok_X11_slip : MOK Y_X11_slip 2 := ⟨mU_8 48 rfl rfl, mU_1 13 rfl rfl, by decide, by decide, by decide +kernel, by decide⟩
theorem ins_X11_slip : INST Y_X11_slip := ⟨mU_8 46 rfl rfl, mU_8 47 rfl rfl⟩
def k_X11_turn_62 : List CI := (62, .aload_n 0, 1) :: (63, .getfield 61, 3) :: (66, .iload_n 1, 1) :: (67, .aaload, 1) :: (68, .iload_n 2, 1) :: (69, .aload_n 0, 1) :: (70, .getfield 61, 3) :: (73, .iload_n 1, 1) :: (74, .aaload, 1) :: (75, .iload_n 2, 1) :: (76, .iaload, 1) :: (77, .iload_n 3, 1) :: (78, .iadd, 1) :: (79, .aload_n 0, 1) :: (80, .getfield 35, 3) :: (83, .iload_n 2, 1) :: (84, .iaload, 1) :: (85, .irem, 1) :: (86, .iastore, 1) :: (87, .aload_n 0, 1) :: (88, .getfield 61, 3) :: (91, .iload_n 1, 1) :: (92, .aaload, 1) :: (93, .iload_n 2, 1) :: (94, .iaload, 1) :: (95, .ireturn, 1) :: []
def k_X11_turn_60 : List CI := (60, .iconst 0, 1) :: (61, .ireturn, 1) :: k_X11_turn_62
def k_X11_turn_52 : List CI := (52, .iconst 2, 1) :: (53, .iconst 2, 1) :: (54, .invokevirtual 180, 3) :: (57, .ifCond .eq 5, 3) :: k_X11_turn_60
def k_X11_turn_51 : List CI := (51, .iconst 0, 1) :: k_X11_turn_52
def k_X11_turn_27 : List CI := (27, .iconst 1, 1) :: (28, .iconst 1, 1) :: (29, .invokevirtual 180, 3) :: (32, .ifCond .ne 28, 3) :: (35, .aload_n 0, 1) :: (36, .iload_n 3, 1) :: (37, .iconst 0, 1) :: (38, .sipush 999, 3) :: (41, .invokestatic 141, 3) :: (44, .ifCond .ne 7, 3) :: (47, .iconst 1, 1) :: (48, .goto 4, 3) :: k_X11_turn_51
def k_X11_turn_26 : List CI := (26, .iconst 0, 1) :: k_X11_turn_27
def k_X11_turn_22 : List CI := (22, .iconst 1, 1) :: (23, .goto 4, 3) :: k_X11_turn_26
def k_X11_turn : List CI := (0, .aload_n 0, 1) :: (1, .iconst 0, 1) :: (2, .putfield 107, 3) :: (5, .aload_n 0, 1) :: (6, .aload_n 0, 1) :: (7, .iload_n 1, 1) :: (8, .invokevirtual 239, 3) :: (11, .ifCond .eq 11, 3) :: (14, .aload_n 0, 1) :: (15, .iload_n 2, 1) :: (16, .invokevirtual 236, 3) :: (19, .ifCond .ne 7, 3) :: k_X11_turn_22
def Y_X11_turn : MD := (yX11_turn, cX11_turn, 4, (some .int), k_X11_turn)
theorem cok_X11_turn : COK Y_X11_turn.2.1 Y_X11_turn.code = true := by decide +kernel
theorem mok_X11_turn : MOK Y_X11_turn 3 := ⟨mU_8 56 rfl rfl, mU_1 13 rfl rfl, by decide, by decide, by decide +kernel, by decide⟩
theorem ins_X11_turn : INST Y_X11_turn := ⟨mU_8 54 rfl rfl, mU_8 55 rfl rfl⟩
def k_X11_isDay : List CI := (0, .iload_n 0, 1) :: (1, .iconst 0, 1) :: (2, .ldc 242, 2) :: (4, .invokestatic 141, 3) :: (7, .ireturn, 1) :: []
def Y_X11_isDay : MD := (yX11_isDay, cX11_isDay, 1, (some .boolean), k_X11_isDay)
theorem cok_X11_isDay : COK Y_X11_isDay.2.1 Y_X11_isDay.code = true := by decide +kernel
theorem mok_X11_isDay : MOK Y_X11_isDay 1 := ⟨mU_8 63 rfl rfl, mU_1 13 rfl rfl, by decide, by decide, by decide +kernel, by decide⟩
theorem sta_X11_isDay : STAT Y_X11_isDay := mU_8 62 rfl rfl
def k_X11_turnedOn_38 : List CI := (38, .iload_n 2, 1) :: (39, .ireturn, 1) :: []
def k_X11_turnedOn_30 : List CI := (30, .isub, 1) :: (31, .istore_n 2, 1) :: (32, .iinc 3 1, 3) :: (35, .goto (-31), 3) :: k_X11_turnedOn_38
def k_X11_turnedOn_29 : List CI := (29, .iconst 0, 1) :: k_X11_turnedOn_30
def k_X11_turnedOn_4 : List CI := (4, .iload_n 3, 1) :: (5, .aload_n 0, 1) :: (6, .getfield 23, 3) :: (9, .iconst 3, 1) :: (10, .iaload, 1) :: (11, .if_icmp .ge 27, 3) :: (14, .iload_n 2, 1) :: (15, .aload_n 0, 1) :: (16, .getfield 29, 3) :: (19, .iload_n 3, 1) :: (20, .iaload, 1) :: (21, .iload_n 1, 1) :: (22, .if_icmp .ge 7, 3) :: (25, .iconst 1, 1) :: (26, .goto 4, 3) :: k_X11_turnedOn_29
def k_X11_turnedOn : List CI := (0, .iload_n 1, 1) :: (1, .istore_n 2, 1) :: (2, .iconst 0, 1) :: (3, .istore_n 3, 1) :: k_X11_turnedOn_4
def Y_X11_turnedOn : MD := (yX11_turnedOn, cX11_turnedOn, 4, (some .int), k_X11_turnedOn)
theorem cok_X11_turnedOn : COK Y_X11_turnedOn.2.1 Y_X11_turnedOn.code = true := by decide +kernel
theorem mok_X11_turnedOn : MOK Y_X11_turnedOn 1 := ⟨mU_8 68 rfl rfl, mU_1 13 rfl rfl, by decide, by decide, by decide +kernel, by decide⟩
theorem ins_X11_turnedOn : INST Y_X11_turnedOn := ⟨mU_8 67 rfl rfl, mV_9 (n := 48) 3 rfl⟩
def k_X11_turned_28 : List CI := (28, .aload_n 0, 1) :: (29, .iload_n 1, 1) :: (30, .invokevirtual 250, 3) :: (33, .ireturn, 1) :: []
def k_X11_turned_18 : List CI := (18, .iconst 1, 1) :: (19, .iconst 0, 1) :: (20, .invokevirtual 180, 3) :: (23, .ifCond .eq 5, 3) :: (26, .iconst 0, 1) :: (27, .ireturn, 1) :: k_X11_turned_28
def k_X11_turned_17 : List CI := (17, .iconst 0, 1) :: k_X11_turned_18
def k_X11_turned : List CI := (0, .aload_n 0, 1) :: (1, .iconst 0, 1) :: (2, .putfield 107, 3) :: (5, .aload_n 0, 1) :: (6, .iload_n 1, 1) :: (7, .invokestatic 247, 3) :: (10, .ifCond .ne 7, 3) :: (13, .iconst 1, 1) :: (14, .goto 4, 3) :: k_X11_turned_17
def Y_X11_turned : MD := (yX11_turned, cX11_turned, 2, (some .int), k_X11_turned)
theorem cok_X11_turned : COK Y_X11_turned.2.1 Y_X11_turned.code = true := by decide +kernel
theorem mok_X11_turned : MOK Y_X11_turned 1 := ⟨mU_8 60 rfl rfl, mU_1 13 rfl rfl, by decide, by decide, by decide +kernel, by decide⟩
theorem ins_X11_turned : INST Y_X11_turned := ⟨mU_8 58 rfl rfl, mU_8 59 rfl rfl⟩
def k_X11_holdsAt_22 : List CI := (22, .ireturn, 1) :: []
def k_X11_holdsAt_21 : List CI := (21, .iconst 0, 1) :: k_X11_holdsAt_22
def k_X11_holdsAt : List CI := (0, .iload_n 2, 1) :: (1, .aload_n 0, 1) :: (2, .getfield 35, 3) :: (5, .iload_n 1, 1) :: (6, .iaload, 1) :: (7, .irem, 1) :: (8, .aload_n 0, 1) :: (9, .getfield 41, 3) :: (12, .iload_n 1, 1) :: (13, .iaload, 1) :: (14, .if_icmp .ne 7, 3) :: (17, .iconst 1, 1) :: (18, .goto 4, 3) :: k_X11_holdsAt_21
def Y_X11_holdsAt : MD := (yX11_holdsAt, cX11_holdsAt, 3, (some .boolean), k_X11_holdsAt)
theorem cok_X11_holdsAt : COK Y_X11_holdsAt.2.1 Y_X11_holdsAt.code = true := by decide +kernel
theorem mok_X11_holdsAt : MOK Y_X11_holdsAt 2 := ⟨mU_8 80 rfl rfl, mU_1 13 rfl rfl, by decide, by decide, by decide +kernel, by decide⟩
theorem ins_X11_holdsAt : INST Y_X11_holdsAt := ⟨mU_8 79 rfl rfl, mV_9 (n := 48) 5 rfl⟩
def k_X11_bitsAt_39 : List CI := (39, .iload_n 2, 1) :: (40, .ireturn, 1) :: []
def k_X11_bitsAt_31 : List CI := (31, .ior, 1) :: (32, .istore_n 2, 1) :: (33, .iinc 3 1, 3) :: (36, .goto (-32), 3) :: k_X11_bitsAt_39
def k_X11_bitsAt_30 : List CI := (30, .iconst 0, 1) :: k_X11_bitsAt_31
def k_X11_bitsAt_4 : List CI := (4, .iload_n 3, 1) :: (5, .aload_n 0, 1) :: (6, .getfield 23, 3) :: (9, .iconst 0, 1) :: (10, .iaload, 1) :: (11, .if_icmp .ge 28, 3) :: (14, .iload_n 2, 1) :: (15, .aload_n 0, 1) :: (16, .iload_n 3, 1) :: (17, .iload_n 1, 1) :: (18, .invokevirtual 243, 3) :: (21, .ifCond .eq 9, 3) :: (24, .iconst 1, 1) :: (25, .iload_n 3, 1) :: (26, .ishl, 1) :: (27, .goto 4, 3) :: k_X11_bitsAt_30
def k_X11_bitsAt : List CI := (0, .iconst 0, 1) :: (1, .istore_n 2, 1) :: (2, .iconst 0, 1) :: (3, .istore_n 3, 1) :: k_X11_bitsAt_4
def Y_X11_bitsAt : MD := (yX11_bitsAt, cX11_bitsAt, 4, (some .int), k_X11_bitsAt)
theorem cok_X11_bitsAt : COK Y_X11_bitsAt.2.1 Y_X11_bitsAt.code = true := by decide +kernel
theorem mok_X11_bitsAt : MOK Y_X11_bitsAt 1 := ⟨mU_8 76 rfl rfl, mU_1 13 rfl rfl, by decide, by decide, by decide +kernel, by decide⟩
theorem ins_X11_bitsAt : INST Y_X11_bitsAt := ⟨mU_8 75 rfl rfl, mV_9 (n := 48) 4 rfl⟩
def k_X11_holds_28 : List CI := (28, .aload_n 0, 1) :: (29, .aload_n 0, 1) :: (30, .iload_n 1, 1) :: (31, .invokevirtual 250, 3) :: (34, .invokevirtual 253, 3) :: (37, .ireturn, 1) :: []
def k_X11_holds_18 : List CI := (18, .iconst 1, 1) :: (19, .iconst 0, 1) :: (20, .invokevirtual 180, 3) :: (23, .ifCond .eq 5, 3) :: (26, .iconst 0, 1) :: (27, .ireturn, 1) :: k_X11_holds_28
def k_X11_holds_17 : List CI := (17, .iconst 0, 1) :: k_X11_holds_18
def k_X11_holds : List CI := (0, .aload_n 0, 1) :: (1, .iconst 0, 1) :: (2, .putfield 107, 3) :: (5, .aload_n 0, 1) :: (6, .iload_n 1, 1) :: (7, .invokestatic 247, 3) :: (10, .ifCond .ne 7, 3) :: (13, .iconst 1, 1) :: (14, .goto 4, 3) :: k_X11_holds_17
def Y_X11_holds : MD := (yX11_holds, cX11_holds, 2, (some .int), k_X11_holds)
theorem cok_X11_holds : COK Y_X11_holds.2.1 Y_X11_holds.code = true := by decide +kernel
theorem mok_X11_holds : MOK Y_X11_holds 1 := ⟨mU_8 72 rfl rfl, mU_1 13 rfl rfl, by decide, by decide, by decide +kernel, by decide⟩
theorem ins_X11_holds : INST Y_X11_holds := ⟨mU_8 70 rfl rfl, mU_8 71 rfl rfl⟩
def k_X11_inHouseAt_31 : List CI := (31, .ireturn, 1) :: []
def k_X11_inHouseAt_30 : List CI := (30, .iconst 0, 1) :: k_X11_inHouseAt_31
def k_X11_inHouseAt : List CI := (0, .iload_n 3, 1) :: (1, .aload_n 0, 1) :: (2, .getfield 61, 3) :: (5, .iload_n 1, 1) :: (6, .aaload, 1) :: (7, .iload_n 2, 1) :: (8, .iaload, 1) :: (9, .iadd, 1) :: (10, .aload_n 0, 1) :: (11, .getfield 35, 3) :: (14, .iload_n 2, 1) :: (15, .iaload, 1) :: (16, .irem, 1) :: (17, .aload_n 0, 1) :: (18, .getfield 41, 3) :: (21, .iload_n 2, 1) :: (22, .iaload, 1) :: (23, .if_icmp .ne 7, 3) :: (26, .iconst 1, 1) :: (27, .goto 4, 3) :: k_X11_inHouseAt_30
def Y_X11_inHouseAt : MD := (yX11_inHouseAt, cX11_inHouseAt, 4, (some .boolean), k_X11_inHouseAt)
theorem cok_X11_inHouseAt : COK Y_X11_inHouseAt.2.1 Y_X11_inHouseAt.code = true := by decide +kernel
theorem mok_X11_inHouseAt : MOK Y_X11_inHouseAt 3 := ⟨mU_8 92 rfl rfl, mU_1 13 rfl rfl, by decide, by decide, by decide +kernel, by decide⟩
theorem ins_X11_inHouseAt : INST Y_X11_inHouseAt := ⟨mU_8 91 rfl rfl, mV_9 (n := 48) 7 rfl⟩
def k_X11_inHouseBits_44 : List CI := (44, .iload_n 3, 1) :: (45, .ireturn, 1) :: []
def k_X11_inHouseBits_36 : List CI := (36, .ior, 1) :: (37, .istore_n 3, 1) :: (38, .iinc 4 1, 3) :: (41, .goto (-36), 3) :: k_X11_inHouseBits_44
def k_X11_inHouseBits_35 : List CI := (35, .iconst 0, 1) :: k_X11_inHouseBits_36
def k_X11_inHouseBits_5 : List CI := (5, .iload 4, 2) :: (7, .aload_n 0, 1) :: (8, .getfield 23, 3) :: (11, .iconst 0, 1) :: (12, .iaload, 1) :: (13, .if_icmp .ge 31, 3) :: (16, .iload_n 3, 1) :: (17, .aload_n 0, 1) :: (18, .iload_n 1, 1) :: (19, .iload 4, 2) :: (21, .iload_n 2, 1) :: (22, .invokevirtual 256, 3) :: (25, .ifCond .eq 10, 3) :: (28, .iconst 1, 1) :: (29, .iload 4, 2) :: (31, .ishl, 1) :: (32, .goto 4, 3) :: k_X11_inHouseBits_35
def k_X11_inHouseBits : List CI := (0, .iconst 0, 1) :: (1, .istore_n 3, 1) :: (2, .iconst 0, 1) :: (3, .istore 4, 2) :: k_X11_inHouseBits_5
def Y_X11_inHouseBits : MD := (yX11_inHouseBits, cX11_inHouseBits, 5, (some .int), k_X11_inHouseBits)
theorem cok_X11_inHouseBits : COK Y_X11_inHouseBits.2.1 Y_X11_inHouseBits.code = true := by decide +kernel
theorem mok_X11_inHouseBits : MOK Y_X11_inHouseBits 2 := ⟨mU_8 88 rfl rfl, mU_1 13 rfl rfl, by decide, by decide, by decide +kernel, by decide⟩
theorem ins_X11_inHouseBits : INST Y_X11_inHouseBits := ⟨mU_8 87 rfl rfl, mV_9 (n := 48) 6 rfl⟩
def k_X11_inHouse_50 : List CI := (50, .aload_n 0, 1) :: (51, .iload_n 2, 1) :: (52, .aload_n 0, 1) :: (53, .iload_n 1, 1) :: (54, .invokevirtual 250, 3) :: (57, .invokevirtual 259, 3) :: (60, .ireturn, 1) :: []
def k_X11_inHouse_48 : List CI := (48, .iconst 0, 1) :: (49, .ireturn, 1) :: k_X11_inHouse_50
def k_X11_inHouse_40 : List CI := (40, .iconst 2, 1) :: (41, .iconst 1, 1) :: (42, .invokevirtual 180, 3) :: (45, .ifCond .eq 5, 3) :: k_X11_inHouse_48
def k_X11_inHouse_39 : List CI := (39, .iconst 0, 1) :: k_X11_inHouse_40
def k_X11_inHouse_18 : List CI := (18, .iconst 1, 1) :: (19, .iconst 0, 1) :: (20, .invokevirtual 180, 3) :: (23, .ifCond .ne 25, 3) :: (26, .aload_n 0, 1) :: (27, .aload_n 0, 1) :: (28, .iload_n 2, 1) :: (29, .invokevirtual 239, 3) :: (32, .ifCond .ne 7, 3) :: (35, .iconst 1, 1) :: (36, .goto 4, 3) :: k_X11_inHouse_39
def k_X11_inHouse_17 : List CI := (17, .iconst 0, 1) :: k_X11_inHouse_18
def k_X11_inHouse : List CI := (0, .aload_n 0, 1) :: (1, .iconst 0, 1) :: (2, .putfield 107, 3) :: (5, .aload_n 0, 1) :: (6, .iload_n 1, 1) :: (7, .invokestatic 247, 3) :: (10, .ifCond .ne 7, 3) :: (13, .iconst 1, 1) :: (14, .goto 4, 3) :: k_X11_inHouse_17
def Y_X11_inHouse : MD := (yX11_inHouse, cX11_inHouse, 3, (some .int), k_X11_inHouse)
theorem cok_X11_inHouse : COK Y_X11_inHouse.2.1 Y_X11_inHouse.code = true := by decide +kernel
theorem mok_X11_inHouse : MOK Y_X11_inHouse 2 := ⟨mU_8 84 rfl rfl, mU_1 13 rfl rfl, by decide, by decide, by decide +kernel, by decide⟩
theorem ins_X11_inHouse : INST Y_X11_inHouse := ⟨mU_8 82 rfl rfl, mU_8 83 rfl rfl⟩
def k_X11_clashes_79 : List CI := (79, .iload_n 2, 1) :: (80, .ireturn, 1) :: []
def k_X11_clashes_71 : List CI := (71, .iadd, 1) :: (72, .istore_n 2, 1) :: (73, .iinc 4 1, 3) :: (76, .goto (-37), 3) :: k_X11_clashes_79
def k_X11_clashes_70 : List CI := (70, .iconst 1, 1) :: k_X11_clashes_71
def k_X11_clashes_39 : List CI := (39, .iload 4, 2) :: (41, .aload_n 0, 1) :: (42, .getfield 23, 3) :: (45, .iconst 2, 1) :: (46, .iaload, 1) :: (47, .if_icmp .ge 32, 3) :: (50, .iload_n 2, 1) :: (51, .aload_n 0, 1) :: (52, .iload 4, 2) :: (54, .iload_n 3, 1) :: (55, .invokevirtual 259, 3) :: (58, .aload_n 0, 1) :: (59, .iload_n 3, 1) :: (60, .invokevirtual 253, 3) :: (63, .if_icmp .ne 7, 3) :: (66, .iconst 0, 1) :: (67, .goto 4, 3) :: k_X11_clashes_70
def k_X11_clashes_28 : List CI := (28, .iconst 0, 1) :: (29, .istore_n 2, 1) :: (30, .aload_n 0, 1) :: (31, .iload_n 1, 1) :: (32, .invokevirtual 250, 3) :: (35, .istore_n 3, 1) :: (36, .iconst 0, 1) :: (37, .istore 4, 2) :: k_X11_clashes_39
def k_X11_clashes_18 : List CI := (18, .iconst 1, 1) :: (19, .iconst 0, 1) :: (20, .invokevirtual 180, 3) :: (23, .ifCond .eq 5, 3) :: (26, .iconst 0, 1) :: (27, .ireturn, 1) :: k_X11_clashes_28
def k_X11_clashes_17 : List CI := (17, .iconst 0, 1) :: k_X11_clashes_18
def k_X11_clashes : List CI := (0, .aload_n 0, 1) :: (1, .iconst 0, 1) :: (2, .putfield 107, 3) :: (5, .aload_n 0, 1) :: (6, .iload_n 1, 1) :: (7, .invokestatic 247, 3) :: (10, .ifCond .ne 7, 3) :: (13, .iconst 1, 1) :: (14, .goto 4, 3) :: k_X11_clashes_17
def Y_X11_clashes : MD := (yX11_clashes, cX11_clashes, 5, (some .int), k_X11_clashes)
theorem cok_X11_clashes : COK Y_X11_clashes.2.1 Y_X11_clashes.code = true := by decide +kernel
theorem mok_X11_clashes : MOK Y_X11_clashes 1 := ⟨mU_8 96 rfl rfl, mU_1 13 rfl rfl, by decide, by decide, by decide +kernel, by decide⟩
theorem ins_X11_clashes : INST Y_X11_clashes := ⟨mU_8 94 rfl rfl, mU_8 95 rfl rfl⟩
def k_X11_otherHoldsAt_22 : List CI := (22, .ireturn, 1) :: []
def k_X11_otherHoldsAt_21 : List CI := (21, .iconst 0, 1) :: k_X11_otherHoldsAt_22
def k_X11_otherHoldsAt : List CI := (0, .iload_n 2, 1) :: (1, .aload_n 0, 1) :: (2, .getfield 47, 3) :: (5, .iload_n 1, 1) :: (6, .iaload, 1) :: (7, .irem, 1) :: (8, .aload_n 0, 1) :: (9, .getfield 53, 3) :: (12, .iload_n 1, 1) :: (13, .iaload, 1) :: (14, .if_icmp .ne 7, 3) :: (17, .iconst 1, 1) :: (18, .goto 4, 3) :: k_X11_otherHoldsAt_21
def Y_X11_otherHoldsAt : MD := (yX11_otherHoldsAt, cX11_otherHoldsAt, 3, (some .boolean), k_X11_otherHoldsAt)
theorem cok_X11_otherHoldsAt : COK Y_X11_otherHoldsAt.2.1 Y_X11_otherHoldsAt.code = true := by decide +kernel
theorem mok_X11_otherHoldsAt : MOK Y_X11_otherHoldsAt 2 := ⟨mU_8 111 rfl rfl, mU_1 13 rfl rfl, by decide, by decide, by decide +kernel, by decide⟩
theorem ins_X11_otherHoldsAt : INST Y_X11_otherHoldsAt := ⟨mU_8 110 rfl rfl, mV_9 (n := 48) 9 rfl⟩
def k_X11_ones_24 : List CI := (24, .iload_n 1, 1) :: (25, .ireturn, 1) :: []
def k_X11_ones_4 : List CI := (4, .iload_n 2, 1) :: (5, .bipush 12, 2) :: (7, .if_icmp .ge 17, 3) :: (10, .iload_n 1, 1) :: (11, .iload_n 0, 1) :: (12, .iload_n 2, 1) :: (13, .ishr, 1) :: (14, .iconst 1, 1) :: (15, .iand, 1) :: (16, .iadd, 1) :: (17, .istore_n 1, 1) :: (18, .iinc 2 1, 3) :: (21, .goto (-17), 3) :: k_X11_ones_24
def k_X11_ones : List CI := (0, .iconst 0, 1) :: (1, .istore_n 1, 1) :: (2, .iconst 0, 1) :: (3, .istore_n 2, 1) :: k_X11_ones_4
def Y_X11_ones : MD := (yX11_ones, cX11_ones, 3, (some .int), k_X11_ones)
theorem cok_X11_ones : COK Y_X11_ones.2.1 Y_X11_ones.code = true := by decide +kernel
theorem mok_X11_ones : MOK Y_X11_ones 1 := ⟨mU_8 107 rfl rfl, mU_1 13 rfl rfl, by decide, by decide, by decide +kernel, by decide⟩
theorem sta_X11_ones : STAT Y_X11_ones := mU_8 106 rfl rfl
def k_X11_isSuch_354 : List CI := (354, .ireturn, 1) :: []
def k_X11_isSuch_353 : List CI := (353, .iconst 0, 1) :: k_X11_isSuch_354
def k_X11_isSuch_349 : List CI := (349, .iconst 1, 1) :: (350, .goto 4, 3) :: k_X11_isSuch_353
def k_X11_isSuch_336 : List CI := (336, .iload_n 3, 1) :: (337, .ifCond .eq 12, 3) :: (340, .aload_n 0, 1) :: (341, .getfield 70, 3) :: (344, .iconst 0, 1) :: (345, .baload, 1) :: (346, .ifCond .eq 7, 3) :: k_X11_isSuch_349
def k_X11_isSuch_328 : List CI := (328, .iadd, 1) :: (329, .istore_n 3, 1) :: (330, .iinc 4 1, 3) :: (333, .goto (-322), 3) :: k_X11_isSuch_336
def k_X11_isSuch_327 : List CI := (327, .iconst (-1), 1) :: k_X11_isSuch_328
def k_X11_isSuch_310 : List CI := (310, .aload_n 0, 1) :: (311, .getfield 64, 3) :: (314, .iload 4, 2) :: (316, .aaload, 1) :: (317, .iconst 0, 1) :: (318, .iaload, 1) :: (319, .iconst 5, 1) :: (320, .if_icmp .ne 7, 3) :: (323, .iconst 0, 1) :: (324, .goto 4, 3) :: k_X11_isSuch_327
def k_X11_isSuch_292 : List CI := (292, .iload_n 3, 1) :: (293, .aload_n 0, 1) :: (294, .getfield 64, 3) :: (297, .iload 4, 2) :: (299, .aaload, 1) :: (300, .iconst 0, 1) :: (301, .iaload, 1) :: (302, .iconst 5, 1) :: (303, .if_icmp .ge 7, 3) :: (306, .iconst 1, 1) :: (307, .goto 21, 3) :: k_X11_isSuch_310
def k_X11_isSuch_291 : List CI := (291, .bastore, 1) :: k_X11_isSuch_292
def k_X11_isSuch_290 : List CI := (290, .iconst 0, 1) :: k_X11_isSuch_291
def k_X11_isSuch_286 : List CI := (286, .iconst 1, 1) :: (287, .goto 4, 3) :: k_X11_isSuch_290
def k_X11_isSuch_257 : List CI := (257, .aload_n 0, 1) :: (258, .getfield 70, 3) :: (261, .iload_n 3, 1) :: (262, .iconst 2, 1) :: (263, .isub, 1) :: (264, .aload_n 0, 1) :: (265, .getfield 70, 3) :: (268, .iload_n 3, 1) :: (269, .iconst 2, 1) :: (270, .isub, 1) :: (271, .baload, 1) :: (272, .ifCond .ne 14, 3) :: (275, .aload_n 0, 1) :: (276, .getfield 70, 3) :: (279, .iload_n 3, 1) :: (280, .iconst 1, 1) :: (281, .isub, 1) :: (282, .baload, 1) :: (283, .ifCond .eq 7, 3) :: k_X11_isSuch_286
def k_X11_isSuch_253 : List CI := (253, .bastore, 1) :: (254, .goto 38, 3) :: k_X11_isSuch_257
def k_X11_isSuch_252 : List CI := (252, .iconst 0, 1) :: k_X11_isSuch_253
def k_X11_isSuch_219 : List CI := (219, .aload_n 0, 1) :: (220, .getfield 70, 3) :: (223, .iload_n 3, 1) :: (224, .iconst 2, 1) :: (225, .isub, 1) :: (226, .aload_n 0, 1) :: (227, .getfield 70, 3) :: (230, .iload_n 3, 1) :: (231, .iconst 2, 1) :: (232, .isub, 1) :: (233, .baload, 1) :: (234, .ifCond .eq 18, 3) :: (237, .aload_n 0, 1) :: (238, .getfield 70, 3) :: (241, .iload_n 3, 1) :: (242, .iconst 1, 1) :: (243, .isub, 1) :: (244, .baload, 1) :: (245, .ifCond .eq 7, 3) :: (248, .iconst 1, 1) :: (249, .goto 4, 3) :: k_X11_isSuch_252
def k_X11_isSuch_215 : List CI := (215, .bastore, 1) :: (216, .goto 76, 3) :: k_X11_isSuch_219
def k_X11_isSuch_214 : List CI := (214, .iconst 0, 1) :: k_X11_isSuch_215
def k_X11_isSuch_192 : List CI := (192, .aload_n 0, 1) :: (193, .getfield 70, 3) :: (196, .iload_n 3, 1) :: (197, .iconst 1, 1) :: (198, .isub, 1) :: (199, .aload_n 0, 1) :: (200, .getfield 70, 3) :: (203, .iload_n 3, 1) :: (204, .iconst 1, 1) :: (205, .isub, 1) :: (206, .baload, 1) :: (207, .ifCond .ne 7, 3) :: (210, .iconst 1, 1) :: (211, .goto 4, 3) :: k_X11_isSuch_214
def k_X11_isSuch_176 : List CI := (176, .aload_n 0, 1) :: (177, .getfield 70, 3) :: (180, .iload_n 3, 1) :: (181, .aload_n 0, 1) :: (182, .iload 5, 2) :: (184, .iload_n 2, 1) :: (185, .invokevirtual 265, 3) :: (188, .bastore, 1) :: (189, .goto 103, 3) :: k_X11_isSuch_192
def k_X11_isSuch_158 : List CI := (158, .aload_n 0, 1) :: (159, .getfield 70, 3) :: (162, .iload_n 3, 1) :: (163, .aload_n 0, 1) :: (164, .iload 5, 2) :: (166, .iload 6, 2) :: (168, .iload_n 2, 1) :: (169, .invokevirtual 256, 3) :: (172, .bastore, 1) :: (173, .goto 119, 3) :: k_X11_isSuch_176
def k_X11_isSuch_154 : List CI := (154, .bastore, 1) :: (155, .goto 137, 3) :: k_X11_isSuch_158
def k_X11_isSuch_153 : List CI := (153, .iconst 0, 1) :: k_X11_isSuch_154
def k_X11_isSuch_135 : List CI := (135, .aload_n 0, 1) :: (136, .getfield 70, 3) :: (139, .iload_n 3, 1) :: (140, .iload_n 1, 1) :: (141, .iload 5, 2) :: (143, .irem, 1) :: (144, .iload 6, 2) :: (146, .if_icmp .ne 7, 3) :: (149, .iconst 1, 1) :: (150, .goto 4, 3) :: k_X11_isSuch_153
def k_X11_isSuch_131 : List CI := (131, .bastore, 1) :: (132, .goto 160, 3) :: k_X11_isSuch_135
def k_X11_isSuch_130 : List CI := (130, .iconst 0, 1) :: k_X11_isSuch_131
def k_X11_isSuch_108 : List CI := (108, .aload_n 0, 1) :: (109, .getfield 70, 3) :: (112, .iload_n 3, 1) :: (113, .aload_n 0, 1) :: (114, .iload_n 2, 1) :: (115, .invokevirtual 253, 3) :: (118, .invokestatic 262, 3) :: (121, .iload 5, 2) :: (123, .if_icmp .ne 7, 3) :: (126, .iconst 1, 1) :: (127, .goto 4, 3) :: k_X11_isSuch_130
def k_X11_isSuch_92 : List CI := (92, .aload_n 0, 1) :: (93, .getfield 70, 3) :: (96, .iload_n 3, 1) :: (97, .aload_n 0, 1) :: (98, .iload 5, 2) :: (100, .iload_n 2, 1) :: (101, .invokevirtual 243, 3) :: (104, .bastore, 1) :: (105, .goto 187, 3) :: k_X11_isSuch_108
def k_X11_isSuch_11 : List CI := (11, .iload 4, 2) :: (13, .aload_n 0, 1) :: (14, .getfield 193, 3) :: (17, .if_icmp .ge 319, 3) :: (20, .aload_n 0, 1) :: (21, .getfield 64, 3) :: (24, .iload 4, 2) :: (26, .aaload, 1) :: (27, .iconst 1, 1) :: (28, .iaload, 1) :: (29, .istore 5, 2) :: (31, .aload_n 0, 1) :: (32, .getfield 64, 3) :: (35, .iload 4, 2) :: (37, .aaload, 1) :: (38, .iconst 2, 1) :: (39, .iaload, 1) :: (40, .istore 6, 2) :: (42, .aload_n 0, 1) :: (43, .getfield 64, 3) :: (46, .iload 4, 2) :: (48, .aaload, 1) :: (49, .iconst 0, 1) :: (50, .iaload, 1) :: (51, .tableswitch 206 0 6 #[41, 57, 84, 107, 125, 141, 168], 41) :: k_X11_isSuch_92
def k_X11_isSuch : List CI := (0, .aload_n 0, 1) :: (1, .iload_n 1, 1) :: (2, .invokevirtual 250, 3) :: (5, .istore_n 2, 1) :: (6, .iconst 0, 1) :: (7, .istore_n 3, 1) :: (8, .iconst 0, 1) :: (9, .istore 4, 2) :: k_X11_isSuch_11
def Y_X11_isSuch : MD := (yX11_isSuch, cX11_isSuch, 7, (some .boolean), k_X11_isSuch)
theorem cok_X11_isSuch : COK Y_X11_isSuch.2.1 Y_X11_isSuch.code = true := by decide +kernel
theorem mok_X11_isSuch : MOK Y_X11_isSuch 1 := ⟨mU_8 104 rfl rfl, mU_1 13 rfl rfl, by decide, by decide, by decide +kernel, by decide⟩
theorem ins_X11_isSuch : INST Y_X11_isSuch := ⟨mU_8 103 rfl rfl, mV_9 (n := 48) 8 rfl⟩
def k_X11_such_28 : List CI := (28, .aload_n 0, 1) :: (29, .iload_n 1, 1) :: (30, .invokevirtual 268, 3) :: (33, .ireturn, 1) :: []
def k_X11_such_18 : List CI := (18, .iconst 1, 1) :: (19, .iconst 0, 1) :: (20, .invokevirtual 180, 3) :: (23, .ifCond .eq 5, 3) :: (26, .iconst 0, 1) :: (27, .ireturn, 1) :: k_X11_such_28
def k_X11_such_17 : List CI := (17, .iconst 0, 1) :: k_X11_such_18
def k_X11_such : List CI := (0, .aload_n 0, 1) :: (1, .iconst 0, 1) :: (2, .putfield 107, 3) :: (5, .aload_n 0, 1) :: (6, .iload_n 1, 1) :: (7, .invokestatic 247, 3) :: (10, .ifCond .ne 7, 3) :: (13, .iconst 1, 1) :: (14, .goto 4, 3) :: k_X11_such_17
def Y_X11_such : MD := (yX11_such, cX11_such, 2, (some .boolean), k_X11_such)
theorem cok_X11_such : COK Y_X11_such.2.1 Y_X11_such.code = true := by decide +kernel
theorem mok_X11_such : MOK Y_X11_such 1 := ⟨mU_8 100 rfl rfl, mU_1 13 rfl rfl, by decide, by decide, by decide +kernel, by decide⟩
theorem ins_X11_such : INST Y_X11_such := ⟨mU_8 98 rfl rfl, mU_8 99 rfl rfl⟩
def k_X11_bound_29 : List CI := (29, .ireturn, 1) :: []
def k_X11_bound_26 : List CI := (26, .iload_n 2, 1) :: (27, .iload_n 1, 1) :: (28, .iadd, 1) :: k_X11_bound_29
def k_X11_bound_12 : List CI := (12, .istore_n 2, 1) :: (13, .iload_n 2, 1) :: (14, .ldc 242, 2) :: (16, .iload_n 1, 1) :: (17, .isub, 1) :: (18, .if_icmp .le 8, 3) :: (21, .ldc 242, 2) :: (23, .goto 6, 3) :: k_X11_bound_26
def k_X11_bound_10 : List CI := (10, .ldc 163, 2) :: k_X11_bound_12
def k_X11_bound : List CI := (0, .iload_n 0, 1) :: (1, .ldc 163, 2) :: (3, .if_icmp .le 7, 3) :: (6, .iload_n 0, 1) :: (7, .goto 5, 3) :: k_X11_bound_10
def Y_X11_bound : MD := (yX11_bound, cX11_bound, 3, (some .int), k_X11_bound)
theorem cok_X11_bound : COK Y_X11_bound.2.1 Y_X11_bound.code = true := by decide +kernel
theorem mok_X11_bound : MOK Y_X11_bound 2 := ⟨mU_8 118 rfl rfl, mU_1 13 rfl rfl, by decide, by decide, by decide +kernel, by decide⟩
theorem sta_X11_bound : STAT Y_X11_bound := mU_8 117 rfl rfl
def k_X11_next_60 : List CI := (60, .iconst (-1), 1) :: (61, .ireturn, 1) :: []
def k_X11_next_54 : List CI := (54, .iinc 3 1, 3) :: (57, .goto (-18), 3) :: k_X11_next_60
def k_X11_next_39 : List CI := (39, .iload_n 3, 1) :: (40, .iload_n 2, 1) :: (41, .if_icmp .gt 19, 3) :: (44, .aload_n 0, 1) :: (45, .iload_n 3, 1) :: (46, .invokevirtual 268, 3) :: (49, .ifCond .eq 5, 3) :: (52, .iload_n 3, 1) :: (53, .ireturn, 1) :: k_X11_next_54
def k_X11_next_28 : List CI := (28, .iload_n 1, 1) :: (29, .aload_n 0, 1) :: (30, .getfield 104, 3) :: (33, .invokestatic 271, 3) :: (36, .istore_n 2, 1) :: (37, .iload_n 1, 1) :: (38, .istore_n 3, 1) :: k_X11_next_39
def k_X11_next_18 : List CI := (18, .iconst 1, 1) :: (19, .iconst 0, 1) :: (20, .invokevirtual 180, 3) :: (23, .ifCond .eq 5, 3) :: (26, .iconst 0, 1) :: (27, .ireturn, 1) :: k_X11_next_28
def k_X11_next_17 : List CI := (17, .iconst 0, 1) :: k_X11_next_18
def k_X11_next : List CI := (0, .aload_n 0, 1) :: (1, .iconst 0, 1) :: (2, .putfield 107, 3) :: (5, .aload_n 0, 1) :: (6, .iload_n 1, 1) :: (7, .invokestatic 247, 3) :: (10, .ifCond .ne 7, 3) :: (13, .iconst 1, 1) :: (14, .goto 4, 3) :: k_X11_next_17
def Y_X11_next : MD := (yX11_next, cX11_next, 4, (some .int), k_X11_next)
theorem cok_X11_next : COK Y_X11_next.2.1 Y_X11_next.code = true := by decide +kernel
theorem mok_X11_next : MOK Y_X11_next 1 := ⟨mU_8 115 rfl rfl, mU_1 13 rfl rfl, by decide, by decide, by decide +kernel, by decide⟩
theorem ins_X11_next : INST Y_X11_next := ⟨mU_8 113 rfl rfl, mU_8 114 rfl rfl⟩
def k_X11_areLaws : List CI := (0, .iload_n 1, 1) :: (1, .iconst 0, 1) :: (2, .iconst 1, 1) :: (3, .aload_n 0, 1) :: (4, .getfield 23, 3) :: (7, .iconst 0, 1) :: (8, .iaload, 1) :: (9, .ishl, 1) :: (10, .iconst 1, 1) :: (11, .isub, 1) :: (12, .invokestatic 141, 3) :: (15, .ireturn, 1) :: []
def Y_X11_areLaws : MD := (yX11_areLaws, cX11_areLaws, 2, (some .boolean), k_X11_areLaws)
theorem cok_X11_areLaws : COK Y_X11_areLaws.2.1 Y_X11_areLaws.code = true := by decide +kernel
theorem mok_X11_areLaws : MOK Y_X11_areLaws 1 := ⟨mU_8 126 rfl rfl, mU_1 13 rfl rfl, by decide, by decide, by decide +kernel, by decide⟩
theorem ins_X11_areLaws : INST Y_X11_areLaws := ⟨mU_8 125 rfl rfl, mV_9 (n := 48) 10 rfl⟩
def k_X11_canBe_17 : List CI := (17, .ireturn, 1) :: []
def k_X11_canBe_16 : List CI := (16, .iconst 0, 1) :: k_X11_canBe_17
def k_X11_canBe : List CI := (0, .iload_n 1, 1) :: (1, .iload_n 3, 1) :: (2, .isub, 1) :: (3, .iload_n 0, 1) :: (4, .iload_n 2, 1) :: (5, .invokestatic 164, 3) :: (8, .irem, 1) :: (9, .ifCond .ne 7, 3) :: (12, .iconst 1, 1) :: (13, .goto 4, 3) :: k_X11_canBe_16
def Y_X11_canBe : MD := (yX11_canBe, cX11_canBe, 4, (some .boolean), k_X11_canBe)
theorem cok_X11_canBe : COK Y_X11_canBe.2.1 Y_X11_canBe.code = true := by decide +kernel
theorem mok_X11_canBe : MOK Y_X11_canBe 4 := ⟨mU_8 137 rfl rfl, mU_1 13 rfl rfl, by decide, by decide, by decide +kernel, by decide⟩
theorem sta_X11_canBe : STAT Y_X11_canBe := mU_8 136 rfl rfl
def k_X11_canBoth : List CI := (0, .aload_n 0, 1) :: (1, .getfield 35, 3) :: (4, .iload_n 1, 1) :: (5, .iaload, 1) :: (6, .aload_n 0, 1) :: (7, .getfield 41, 3) :: (10, .iload_n 1, 1) :: (11, .iaload, 1) :: (12, .aload_n 0, 1) :: (13, .getfield 35, 3) :: (16, .iload_n 2, 1) :: (17, .iaload, 1) :: (18, .aload_n 0, 1) :: (19, .getfield 41, 3) :: (22, .iload_n 2, 1) :: (23, .iaload, 1) :: (24, .invokestatic 274, 3) :: (27, .ireturn, 1) :: []
def Y_X11_canBoth : MD := (yX11_canBoth, cX11_canBoth, 3, (some .boolean), k_X11_canBoth)
theorem cok_X11_canBoth : COK Y_X11_canBoth.2.1 Y_X11_canBoth.code = true := by decide +kernel
theorem mok_X11_canBoth : MOK Y_X11_canBoth 2 := ⟨mU_8 134 rfl rfl, mU_1 13 rfl rfl, by decide, by decide, by decide +kernel, by decide⟩
theorem ins_X11_canBoth : INST Y_X11_canBoth := ⟨mU_8 133 rfl rfl, mV_9 (n := 48) 12 rfl⟩
def k_X11_neverOf_72 : List CI := (72, .iconst (-1), 1) :: (73, .ireturn, 1) :: []
def k_X11_neverOf_66 : List CI := (66, .iinc 2 1, 3) :: (69, .goto (-67), 3) :: k_X11_neverOf_72
def k_X11_neverOf_60 : List CI := (60, .iinc 3 1, 3) :: (63, .goto (-47), 3) :: k_X11_neverOf_66
def k_X11_neverOf_16 : List CI := (16, .iload_n 3, 1) :: (17, .aload_n 0, 1) :: (18, .getfield 23, 3) :: (21, .iconst 0, 1) :: (22, .iaload, 1) :: (23, .if_icmp .ge 43, 3) :: (26, .iload_n 1, 1) :: (27, .iload_n 2, 1) :: (28, .ishr, 1) :: (29, .iconst 1, 1) :: (30, .iand, 1) :: (31, .iconst 1, 1) :: (32, .if_icmp .ne 28, 3) :: (35, .iload_n 1, 1) :: (36, .iload_n 3, 1) :: (37, .ishr, 1) :: (38, .iconst 1, 1) :: (39, .iand, 1) :: (40, .iconst 1, 1) :: (41, .if_icmp .ne 19, 3) :: (44, .aload_n 0, 1) :: (45, .iload_n 2, 1) :: (46, .iload_n 3, 1) :: (47, .invokevirtual 278, 3) :: (50, .ifCond .ne 10, 3) :: (53, .bipush 100, 2) :: (55, .iload_n 2, 1) :: (56, .imul, 1) :: (57, .iload_n 3, 1) :: (58, .iadd, 1) :: (59, .ireturn, 1) :: k_X11_neverOf_60
def k_X11_neverOf_2 : List CI := (2, .iload_n 2, 1) :: (3, .aload_n 0, 1) :: (4, .getfield 23, 3) :: (7, .iconst 0, 1) :: (8, .iaload, 1) :: (9, .if_icmp .ge 63, 3) :: (12, .iload_n 2, 1) :: (13, .iconst 1, 1) :: (14, .iadd, 1) :: (15, .istore_n 3, 1) :: k_X11_neverOf_16
def k_X11_neverOf : List CI := (0, .iconst 0, 1) :: (1, .istore_n 2, 1) :: k_X11_neverOf_2
def Y_X11_neverOf : MD := (yX11_neverOf, cX11_neverOf, 4, (some .int), k_X11_neverOf)
theorem cok_X11_neverOf : COK Y_X11_neverOf.2.1 Y_X11_neverOf.code = true := by decide +kernel
theorem mok_X11_neverOf : MOK Y_X11_neverOf 1 := ⟨mU_8 130 rfl rfl, mU_1 13 rfl rfl, by decide, by decide, by decide +kernel, by decide⟩
theorem ins_X11_neverOf : INST Y_X11_neverOf := ⟨mU_8 129 rfl rfl, mV_9 (n := 48) 11 rfl⟩
def k_X11_never_29 : List CI := (29, .aload_n 0, 1) :: (30, .iload_n 1, 1) :: (31, .invokevirtual 284, 3) :: (34, .ireturn, 1) :: []
def k_X11_never_19 : List CI := (19, .iconst 1, 1) :: (20, .iconst 2, 1) :: (21, .invokevirtual 180, 3) :: (24, .ifCond .eq 5, 3) :: (27, .iconst 0, 1) :: (28, .ireturn, 1) :: k_X11_never_29
def k_X11_never_18 : List CI := (18, .iconst 0, 1) :: k_X11_never_19
def k_X11_never : List CI := (0, .aload_n 0, 1) :: (1, .iconst 0, 1) :: (2, .putfield 107, 3) :: (5, .aload_n 0, 1) :: (6, .aload_n 0, 1) :: (7, .iload_n 1, 1) :: (8, .invokevirtual 281, 3) :: (11, .ifCond .ne 7, 3) :: (14, .iconst 1, 1) :: (15, .goto 4, 3) :: k_X11_never_18
def Y_X11_never : MD := (yX11_never, cX11_never, 2, (some .int), k_X11_never)
theorem cok_X11_never : COK Y_X11_never.2.1 Y_X11_never.code = true := by decide +kernel
theorem mok_X11_never : MOK Y_X11_never 1 := ⟨mU_8 122 rfl rfl, mU_1 13 rfl rfl, by decide, by decide, by decide +kernel, by decide⟩
theorem ins_X11_never : INST Y_X11_never := ⟨mU_8 120 rfl rfl, mU_8 121 rfl rfl⟩
def k_X11_together_71 : List CI := (71, .iconst (-1), 1) :: (72, .ireturn, 1) :: []
def k_X11_together_65 : List CI := (65, .iinc 2 1, 3) :: (68, .goto (-26), 3) :: k_X11_together_71
def k_X11_together_42 : List CI := (42, .iload_n 2, 1) :: (43, .aload_n 0, 1) :: (44, .getfield 23, 3) :: (47, .iconst 4, 1) :: (48, .iaload, 1) :: (49, .if_icmp .ge 22, 3) :: (52, .aload_n 0, 1) :: (53, .iload_n 2, 1) :: (54, .invokevirtual 253, 3) :: (57, .iload_n 1, 1) :: (58, .iand, 1) :: (59, .iload_n 1, 1) :: (60, .if_icmp .ne 5, 3) :: (63, .iload_n 2, 1) :: (64, .ireturn, 1) :: k_X11_together_65
def k_X11_together_40 : List CI := (40, .iconst 0, 1) :: (41, .istore_n 2, 1) :: k_X11_together_42
def k_X11_together_29 : List CI := (29, .aload_n 0, 1) :: (30, .iload_n 1, 1) :: (31, .invokevirtual 284, 3) :: (34, .iconst (-1), 1) :: (35, .if_icmp .eq 5, 3) :: (38, .iconst (-1), 1) :: (39, .ireturn, 1) :: k_X11_together_40
def k_X11_together_19 : List CI := (19, .iconst 1, 1) :: (20, .iconst 2, 1) :: (21, .invokevirtual 180, 3) :: (24, .ifCond .eq 5, 3) :: (27, .iconst 0, 1) :: (28, .ireturn, 1) :: k_X11_together_29
def k_X11_together_18 : List CI := (18, .iconst 0, 1) :: k_X11_together_19
def k_X11_together : List CI := (0, .aload_n 0, 1) :: (1, .iconst 0, 1) :: (2, .putfield 107, 3) :: (5, .aload_n 0, 1) :: (6, .aload_n 0, 1) :: (7, .iload_n 1, 1) :: (8, .invokevirtual 281, 3) :: (11, .ifCond .ne 7, 3) :: (14, .iconst 1, 1) :: (15, .goto 4, 3) :: k_X11_together_18
def Y_X11_together : MD := (yX11_together, cX11_together, 3, (some .int), k_X11_together)
theorem cok_X11_together : COK Y_X11_together.2.1 Y_X11_together.code = true := by decide +kernel
theorem mok_X11_together : MOK Y_X11_together 1 := ⟨mU_8 141 rfl rfl, mU_1 13 rfl rfl, by decide, by decide, by decide +kernel, by decide⟩
theorem ins_X11_together : INST Y_X11_together := ⟨mU_8 139 rfl rfl, mU_8 140 rfl rfl⟩
def k_X11_most_86 : List CI := (86, .ireturn, 1) :: []
def k_X11_most_85 : List CI := (85, .iload_n 2, 1) :: k_X11_most_86
def k_X11_most_74 : List CI := (74, .iload_n 1, 1) :: (75, .ifCond .ne 10, 3) :: (78, .iload_n 2, 1) :: (79, .invokestatic 262, 3) :: (82, .goto 4, 3) :: k_X11_most_85
def k_X11_most_68 : List CI := (68, .iinc 3 1, 3) :: (71, .goto (-37), 3) :: k_X11_most_74
def k_X11_most_34 : List CI := (34, .iload_n 3, 1) :: (35, .iconst 1, 1) :: (36, .aload_n 0, 1) :: (37, .getfield 23, 3) :: (40, .iconst 0, 1) :: (41, .iaload, 1) :: (42, .ishl, 1) :: (43, .if_icmp .ge 31, 3) :: (46, .iload_n 3, 1) :: (47, .invokestatic 262, 3) :: (50, .iload_n 2, 1) :: (51, .invokestatic 262, 3) :: (54, .if_icmp .le 14, 3) :: (57, .aload_n 0, 1) :: (58, .iload_n 3, 1) :: (59, .invokevirtual 284, 3) :: (62, .iconst (-1), 1) :: (63, .if_icmp .ne 5, 3) :: (66, .iload_n 3, 1) :: (67, .istore_n 2, 1) :: k_X11_most_68
def k_X11_most_30 : List CI := (30, .iconst 0, 1) :: (31, .istore_n 2, 1) :: (32, .iconst 1, 1) :: (33, .istore_n 3, 1) :: k_X11_most_34
def k_X11_most_20 : List CI := (20, .iconst 1, 1) :: (21, .iconst 2, 1) :: (22, .invokevirtual 180, 3) :: (25, .ifCond .eq 5, 3) :: (28, .iconst 0, 1) :: (29, .ireturn, 1) :: k_X11_most_30
def k_X11_most_19 : List CI := (19, .iconst 0, 1) :: k_X11_most_20
def k_X11_most : List CI := (0, .aload_n 0, 1) :: (1, .iconst 0, 1) :: (2, .putfield 107, 3) :: (5, .aload_n 0, 1) :: (6, .iload_n 1, 1) :: (7, .iconst 0, 1) :: (8, .iconst 1, 1) :: (9, .invokestatic 141, 3) :: (12, .ifCond .ne 7, 3) :: (15, .iconst 1, 1) :: (16, .goto 4, 3) :: k_X11_most_19
def Y_X11_most : MD := (yX11_most, cX11_most, 4, (some .int), k_X11_most)
theorem cok_X11_most : COK Y_X11_most.2.1 Y_X11_most.code = true := by decide +kernel
theorem mok_X11_most : MOK Y_X11_most 1 := ⟨mU_8 145 rfl rfl, mU_1 13 rfl rfl, by decide, by decide, by decide +kernel, by decide⟩
theorem ins_X11_most : INST Y_X11_most := ⟨mU_8 143 rfl rfl, mU_8 144 rfl rfl⟩
def k_X11_count_71 : List CI := (71, .iload_n 2, 1) :: (72, .ireturn, 1) :: []
def k_X11_count_63 : List CI := (63, .iadd, 1) :: (64, .istore_n 2, 1) :: (65, .iinc 3 1, 3) :: (68, .goto (-33), 3) :: k_X11_count_71
def k_X11_count_62 : List CI := (62, .iconst 0, 1) :: k_X11_count_63
def k_X11_count_35 : List CI := (35, .iload_n 3, 1) :: (36, .aload_n 0, 1) :: (37, .getfield 23, 3) :: (40, .iconst 4, 1) :: (41, .iaload, 1) :: (42, .if_icmp .ge 29, 3) :: (45, .iload_n 2, 1) :: (46, .aload_n 0, 1) :: (47, .iload_n 3, 1) :: (48, .invokevirtual 253, 3) :: (51, .invokestatic 262, 3) :: (54, .iload_n 1, 1) :: (55, .if_icmp .ne 7, 3) :: (58, .iconst 1, 1) :: (59, .goto 4, 3) :: k_X11_count_62
def k_X11_count_31 : List CI := (31, .iconst 0, 1) :: (32, .istore_n 2, 1) :: (33, .iconst 0, 1) :: (34, .istore_n 3, 1) :: k_X11_count_35
def k_X11_count_21 : List CI := (21, .iconst 1, 1) :: (22, .iconst 2, 1) :: (23, .invokevirtual 180, 3) :: (26, .ifCond .eq 5, 3) :: (29, .iconst 0, 1) :: (30, .ireturn, 1) :: k_X11_count_31
def k_X11_count_20 : List CI := (20, .iconst 0, 1) :: k_X11_count_21
def k_X11_count : List CI := (0, .aload_n 0, 1) :: (1, .iconst 0, 1) :: (2, .putfield 107, 3) :: (5, .aload_n 0, 1) :: (6, .iload_n 1, 1) :: (7, .iconst 0, 1) :: (8, .bipush 12, 2) :: (10, .invokestatic 141, 3) :: (13, .ifCond .ne 7, 3) :: (16, .iconst 1, 1) :: (17, .goto 4, 3) :: k_X11_count_20
def Y_X11_count : MD := (yX11_count, cX11_count, 4, (some .int), k_X11_count)
theorem cok_X11_count : COK Y_X11_count.2.1 Y_X11_count.code = true := by decide +kernel
theorem mok_X11_count : MOK Y_X11_count 1 := ⟨mU_8 149 rfl rfl, mU_1 13 rfl rfl, by decide, by decide, by decide +kernel, by decide⟩
theorem ins_X11_count : INST Y_X11_count := ⟨mU_8 147 rfl rfl, mU_8 148 rfl rfl⟩
def k_X11_row_122 : List CI := (122, .iconst (-1), 1) :: (123, .ireturn, 1) :: []
def k_X11_row_116 : List CI := (116, .iinc 5 1, 3) :: (119, .goto (-45), 3) :: k_X11_row_122
def k_X11_row_101 : List CI := (101, .istore 4, 2) :: (103, .iload 4, 2) :: (105, .iload_n 2, 1) :: (106, .if_icmp .ne 10, 3) :: (109, .iload 5, 2) :: (111, .iload_n 2, 1) :: (112, .isub, 1) :: (113, .iconst 1, 1) :: (114, .iadd, 1) :: (115, .ireturn, 1) :: k_X11_row_116
def k_X11_row_100 : List CI := (100, .iconst 0, 1) :: k_X11_row_101
def k_X11_row_74 : List CI := (74, .iload 5, 2) :: (76, .iload_n 3, 1) :: (77, .if_icmp .gt 45, 3) :: (80, .aload_n 0, 1) :: (81, .aload_n 0, 1) :: (82, .iload 5, 2) :: (84, .invokevirtual 250, 3) :: (87, .invokevirtual 253, 3) :: (90, .ifCond .ne 10, 3) :: (93, .iload 4, 2) :: (95, .iconst 1, 1) :: (96, .iadd, 1) :: (97, .goto 4, 3) :: k_X11_row_100
def k_X11_row_52 : List CI := (52, .iload_n 1, 1) :: (53, .iconst 2, 1) :: (54, .aload_n 0, 1) :: (55, .getfield 23, 3) :: (58, .iconst 4, 1) :: (59, .iaload, 1) :: (60, .imul, 1) :: (61, .bipush 100, 2) :: (63, .iadd, 1) :: (64, .invokestatic 271, 3) :: (67, .istore_n 3, 1) :: (68, .iconst 0, 1) :: (69, .istore 4, 2) :: (71, .iload_n 1, 1) :: (72, .istore 5, 2) :: k_X11_row_74
def k_X11_row_50 : List CI := (50, .iconst 0, 1) :: (51, .ireturn, 1) :: k_X11_row_52
def k_X11_row_42 : List CI := (42, .iconst 2, 1) :: (43, .iconst 2, 1) :: (44, .invokevirtual 180, 3) :: (47, .ifCond .eq 5, 3) :: k_X11_row_50
def k_X11_row_41 : List CI := (41, .iconst 0, 1) :: k_X11_row_42
def k_X11_row_18 : List CI := (18, .iconst 1, 1) :: (19, .iconst 0, 1) :: (20, .invokevirtual 180, 3) :: (23, .ifCond .ne 27, 3) :: (26, .aload_n 0, 1) :: (27, .iload_n 2, 1) :: (28, .iconst 1, 1) :: (29, .bipush 99, 2) :: (31, .invokestatic 141, 3) :: (34, .ifCond .ne 7, 3) :: (37, .iconst 1, 1) :: (38, .goto 4, 3) :: k_X11_row_41
def k_X11_row_17 : List CI := (17, .iconst 0, 1) :: k_X11_row_18
def k_X11_row : List CI := (0, .aload_n 0, 1) :: (1, .iconst 0, 1) :: (2, .putfield 107, 3) :: (5, .aload_n 0, 1) :: (6, .iload_n 1, 1) :: (7, .invokestatic 247, 3) :: (10, .ifCond .ne 7, 3) :: (13, .iconst 1, 1) :: (14, .goto 4, 3) :: k_X11_row_17
def Y_X11_row : MD := (yX11_row, cX11_row, 6, (some .int), k_X11_row)
theorem cok_X11_row : COK Y_X11_row.2.1 Y_X11_row.code = true := by decide +kernel
theorem mok_X11_row : MOK Y_X11_row 2 := ⟨mU_8 153 rfl rfl, mU_1 13 rfl rfl, by decide, by decide, by decide +kernel, by decide⟩
theorem ins_X11_row : INST Y_X11_row := ⟨mU_8 151 rfl rfl, mU_8 152 rfl rfl⟩
def k_X11_free_217 : List CI := (217, .ireturn, 1) :: []
def k_X11_free_215 : List CI := (215, .iload 5, 2) :: k_X11_free_217
def k_X11_free_206 : List CI := (206, .iload_n 3, 1) :: (207, .ifCond .ne 8, 3) :: (210, .iload 4, 2) :: (212, .goto 5, 3) :: k_X11_free_215
def k_X11_free_200 : List CI := (200, .iinc 6 1, 3) :: (203, .goto (-134), 3) :: k_X11_free_206
def k_X11_free_194 : List CI := (194, .iinc 7 1, 3) :: (197, .goto (-110), 3) :: k_X11_free_200
def k_X11_free_189 : List CI := (189, .istore 5, 2) :: (191, .iinc 4 1, 3) :: k_X11_free_194
def k_X11_free_187 : List CI := (187, .iload 5, 2) :: k_X11_free_189
def k_X11_free_170 : List CI := (170, .iload 5, 2) :: (172, .iconst (-1), 1) :: (173, .if_icmp .ne 14, 3) :: (176, .bipush 100, 2) :: (178, .iload 6, 2) :: (180, .imul, 1) :: (181, .iload 7, 2) :: (183, .iadd, 1) :: (184, .goto 5, 3) :: k_X11_free_187
def k_X11_free_162 : List CI := (162, .iload 8, 2) :: (164, .ifCond .ne 6, 3) :: (167, .goto 27, 3) :: k_X11_free_170
def k_X11_free_154 : List CI := (154, .istore 8, 2) :: (156, .iinc 9 1, 3) :: (159, .goto (-59), 3) :: k_X11_free_162
def k_X11_free_153 : List CI := (153, .iconst 0, 1) :: k_X11_free_154
def k_X11_free_149 : List CI := (149, .iconst 1, 1) :: (150, .goto 4, 3) :: k_X11_free_153
def k_X11_free_100 : List CI := (100, .iload 9, 2) :: (102, .aload_n 0, 1) :: (103, .getfield 23, 3) :: (106, .iconst 0, 1) :: (107, .iaload, 1) :: (108, .if_icmp .ge 54, 3) :: (111, .iload 8, 2) :: (113, .ifCond .eq 49, 3) :: (116, .iload_n 1, 1) :: (117, .iload 9, 2) :: (119, .ishr, 1) :: (120, .iconst 1, 1) :: (121, .iand, 1) :: (122, .ifCond .eq 27, 3) :: (125, .iload 6, 2) :: (127, .iload 7, 2) :: (129, .aload_n 0, 1) :: (130, .getfield 35, 3) :: (133, .iload 9, 2) :: (135, .iaload, 1) :: (136, .aload_n 0, 1) :: (137, .getfield 41, 3) :: (140, .iload 9, 2) :: (142, .iaload, 1) :: (143, .invokestatic 274, 3) :: (146, .ifCond .ne 7, 3) :: k_X11_free_149
def k_X11_free_87 : List CI := (87, .iload 7, 2) :: (89, .iload 6, 2) :: (91, .if_icmp .ge 109, 3) :: (94, .iconst 1, 1) :: (95, .istore 8, 2) :: (97, .iconst 0, 1) :: (98, .istore 9, 2) :: k_X11_free_100
def k_X11_free_81 : List CI := (81, .if_icmp .gt 125, 3) :: (84, .iconst 0, 1) :: (85, .istore 7, 2) :: k_X11_free_87
def k_X11_free_80 : List CI := (80, .iload_n 2, 1) :: k_X11_free_81
def k_X11_free_69 : List CI := (69, .iload 6, 2) :: (71, .iload_n 2, 1) :: (72, .ifCond .ne 8, 3) :: (75, .bipush 24, 2) :: (77, .goto 4, 3) :: k_X11_free_80
def k_X11_free_67 : List CI := (67, .istore 6, 2) :: k_X11_free_69
def k_X11_free_66 : List CI := (66, .iload_n 2, 1) :: k_X11_free_67
def k_X11_free_52 : List CI := (52, .iconst 0, 1) :: (53, .istore 4, 2) :: (55, .iconst (-1), 1) :: (56, .istore 5, 2) :: (58, .iload_n 2, 1) :: (59, .ifCond .ne 7, 3) :: (62, .iconst 2, 1) :: (63, .goto 4, 3) :: k_X11_free_66
def k_X11_free_42 : List CI := (42, .iconst 1, 1) :: (43, .iconst 2, 1) :: (44, .invokevirtual 180, 3) :: (47, .ifCond .eq 5, 3) :: (50, .iconst 0, 1) :: (51, .ireturn, 1) :: k_X11_free_52
def k_X11_free_41 : List CI := (41, .iconst 0, 1) :: k_X11_free_42
def k_X11_free_37 : List CI := (37, .iconst 1, 1) :: (38, .goto 4, 3) :: k_X11_free_41
def k_X11_free_28 : List CI := (28, .iload_n 3, 1) :: (29, .iconst 0, 1) :: (30, .iconst 1, 1) :: (31, .invokestatic 141, 3) :: (34, .ifCond .ne 7, 3) :: k_X11_free_37
def k_X11_free : List CI := (0, .aload_n 0, 1) :: (1, .iconst 0, 1) :: (2, .putfield 107, 3) :: (5, .aload_n 0, 1) :: (6, .aload_n 0, 1) :: (7, .iload_n 1, 1) :: (8, .invokevirtual 281, 3) :: (11, .ifCond .eq 26, 3) :: (14, .iload_n 2, 1) :: (15, .ifCond .eq 13, 3) :: (18, .iload_n 2, 1) :: (19, .iconst 2, 1) :: (20, .bipush 24, 2) :: (22, .invokestatic 141, 3) :: (25, .ifCond .eq 12, 3) :: k_X11_free_28
def Y_X11_free : MD := (yX11_free, cX11_free, 10, (some .int), k_X11_free)
theorem cok_X11_free : COK Y_X11_free.2.1 Y_X11_free.code = true := by decide +kernel
theorem mok_X11_free : MOK Y_X11_free 3 := ⟨mU_8 157 rfl rfl, mU_1 13 rfl rfl, by decide, by decide, by decide +kernel, by decide⟩
theorem ins_X11_free : INST Y_X11_free := ⟨mU_8 155 rfl rfl, mU_8 156 rfl rfl⟩
def k_X11_turnOf_44 : List CI := (44, .iload_n 2, 1) :: (45, .ireturn, 1) :: []
def k_X11_turnOf_37 : List CI := (37, .istore_n 2, 1) :: (38, .iinc 3 1, 3) :: (41, .goto (-37), 3) :: k_X11_turnOf_44
def k_X11_turnOf_36 : List CI := (36, .iload_n 2, 1) :: k_X11_turnOf_37
def k_X11_turnOf_4 : List CI := (4, .iload_n 3, 1) :: (5, .aload_n 0, 1) :: (6, .getfield 23, 3) :: (9, .iconst 0, 1) :: (10, .iaload, 1) :: (11, .if_icmp .ge 33, 3) :: (14, .iload_n 1, 1) :: (15, .iload_n 3, 1) :: (16, .ishr, 1) :: (17, .iconst 1, 1) :: (18, .iand, 1) :: (19, .iconst 1, 1) :: (20, .if_icmp .ne 16, 3) :: (23, .iload_n 2, 1) :: (24, .aload_n 0, 1) :: (25, .getfield 35, 3) :: (28, .iload_n 3, 1) :: (29, .iaload, 1) :: (30, .invokestatic 190, 3) :: (33, .goto 4, 3) :: k_X11_turnOf_36
def k_X11_turnOf : List CI := (0, .iconst 1, 1) :: (1, .istore_n 2, 1) :: (2, .iconst 0, 1) :: (3, .istore_n 3, 1) :: k_X11_turnOf_4
def Y_X11_turnOf : MD := (yX11_turnOf, cX11_turnOf, 4, (some .int), k_X11_turnOf)
theorem cok_X11_turnOf : COK Y_X11_turnOf.2.1 Y_X11_turnOf.code = true := by decide +kernel
theorem mok_X11_turnOf : MOK Y_X11_turnOf 1 := ⟨mU_8 165 rfl rfl, mU_1 13 rfl rfl, by decide, by decide, by decide +kernel, by decide⟩
theorem ins_X11_turnOf : INST Y_X11_turnOf := ⟨mU_8 164 rfl rfl, mV_9 (n := 48) 13 rfl⟩
def k_X11_meeting_212 : List CI := (212, .iload_n 3, 1) :: (213, .ireturn, 1) :: []
def k_X11_meeting_206 : List CI := (206, .iinc 8 1, 3) :: (209, .goto (-161), 3) :: k_X11_meeting_212
def k_X11_meeting_200 : List CI := (200, .iinc 10 1, 3) :: (203, .goto (-69), 3) :: k_X11_meeting_206
def k_X11_meeting_183 : List CI := (183, .lload 11, 2) :: (185, .lstore 4, 2) :: (187, .lload 13, 2) :: (189, .lstore 6, 2) :: (191, .bipush 100, 2) :: (193, .iload 8, 2) :: (195, .imul, 1) :: (196, .iload 10, 2) :: (198, .iadd, 1) :: (199, .istore_n 3, 1) :: k_X11_meeting_200
def k_X11_meeting_134 : List CI := (134, .iload 10, 2) :: (136, .iload 8, 2) :: (138, .if_icmp .ge 68, 3) :: (141, .aload_n 0, 1) :: (142, .getfield 86, 3) :: (145, .iload 10, 2) :: (147, .iload 9, 2) :: (149, .irem, 1) :: (150, .iaload, 1) :: (151, .i2l, 1) :: (152, .iload 9, 2) :: (154, .i2l, 1) :: (155, .lmul, 1) :: (156, .lstore 11, 2) :: (158, .iload_n 2, 1) :: (159, .i2l, 1) :: (160, .iload 8, 2) :: (162, .i2l, 1) :: (163, .lmul, 1) :: (164, .lstore 13, 2) :: (166, .lload 11, 2) :: (168, .lload 6, 2) :: (170, .lmul, 1) :: (171, .lload 4, 2) :: (173, .lload 13, 2) :: (175, .lmul, 1) :: (176, .lcmp, 1) :: (177, .ifCond .gt 6, 3) :: (180, .goto 20, 3) :: k_X11_meeting_183
def k_X11_meeting_131 : List CI := (131, .iconst 0, 1) :: (132, .istore 10, 2) :: k_X11_meeting_134
def k_X11_meeting_123 : List CI := (123, .iadd, 1) :: (124, .iastore, 1) :: (125, .iinc 10 1, 3) :: (128, .goto (-38), 3) :: k_X11_meeting_131
def k_X11_meeting_122 : List CI := (122, .iconst 0, 1) :: k_X11_meeting_123
def k_X11_meeting_90 : List CI := (90, .iload 10, 2) :: (92, .iload_n 2, 1) :: (93, .if_icmp .ge 38, 3) :: (96, .aload_n 0, 1) :: (97, .getfield 86, 3) :: (100, .iload 10, 2) :: (102, .iload 9, 2) :: (104, .irem, 1) :: (105, .dup2, 1) :: (106, .iaload, 1) :: (107, .aload_n 0, 1) :: (108, .iload 10, 2) :: (110, .invokevirtual 253, 3) :: (113, .iload_n 1, 1) :: (114, .iand, 1) :: (115, .ifCond .eq 7, 3) :: (118, .iconst 1, 1) :: (119, .goto 4, 3) :: k_X11_meeting_122
def k_X11_meeting_87 : List CI := (87, .iconst 0, 1) :: (88, .istore 10, 2) :: k_X11_meeting_90
def k_X11_meeting_66 : List CI := (66, .iload 10, 2) :: (68, .iload 9, 2) :: (70, .if_icmp .ge 17, 3) :: (73, .aload_n 0, 1) :: (74, .getfield 86, 3) :: (77, .iload 10, 2) :: (79, .iconst 0, 1) :: (80, .iastore, 1) :: (81, .iinc 10 1, 3) :: (84, .goto (-18), 3) :: k_X11_meeting_87
def k_X11_meeting_48 : List CI := (48, .iload 8, 2) :: (50, .bipush 24, 2) :: (52, .if_icmp .gt 160, 3) :: (55, .iload 8, 2) :: (57, .iload_n 2, 1) :: (58, .invokestatic 164, 3) :: (61, .istore 9, 2) :: (63, .iconst 0, 1) :: (64, .istore 10, 2) :: k_X11_meeting_66
def k_X11_meeting_29 : List CI := (29, .aload_n 0, 1) :: (30, .iload_n 1, 1) :: (31, .invokevirtual 287, 3) :: (34, .istore_n 2, 1) :: (35, .sipush 200, 3) :: (38, .istore_n 3, 1) :: (39, .lconst 0, 1) :: (40, .lstore 4, 2) :: (42, .lconst 1, 1) :: (43, .lstore 6, 2) :: (45, .iconst 2, 1) :: (46, .istore 8, 2) :: k_X11_meeting_48
def k_X11_meeting_19 : List CI := (19, .iconst 1, 1) :: (20, .iconst 2, 1) :: (21, .invokevirtual 180, 3) :: (24, .ifCond .eq 5, 3) :: (27, .iconst 0, 1) :: (28, .ireturn, 1) :: k_X11_meeting_29
def k_X11_meeting_18 : List CI := (18, .iconst 0, 1) :: k_X11_meeting_19
def k_X11_meeting : List CI := (0, .aload_n 0, 1) :: (1, .iconst 0, 1) :: (2, .putfield 107, 3) :: (5, .aload_n 0, 1) :: (6, .aload_n 0, 1) :: (7, .iload_n 1, 1) :: (8, .invokevirtual 281, 3) :: (11, .ifCond .ne 7, 3) :: (14, .iconst 1, 1) :: (15, .goto 4, 3) :: k_X11_meeting_18
def Y_X11_meeting : MD := (yX11_meeting, cX11_meeting, 15, (some .int), k_X11_meeting)
theorem cok_X11_meeting : COK Y_X11_meeting.2.1 Y_X11_meeting.code = true := by decide +kernel
theorem mok_X11_meeting : MOK Y_X11_meeting 1 := ⟨mU_8 161 rfl rfl, mU_1 13 rfl rfl, by decide, by decide, by decide +kernel, by decide⟩
theorem ins_X11_meeting : INST Y_X11_meeting := ⟨mU_8 159 rfl rfl, mU_8 160 rfl rfl⟩
def k_X11_isCrowd_156 : List CI := (156, .iconst 0, 1) :: (157, .ireturn, 1) :: []
def k_X11_isCrowd_150 : List CI := (150, .iinc 5 1, 3) :: (153, .goto (-139), 3) :: k_X11_isCrowd_156
def k_X11_isCrowd_123 : List CI := (123, .iload 6, 2) :: (125, .ifCond .eq 25, 3) :: (128, .aload_n 0, 1) :: (129, .iload_n 1, 1) :: (130, .iload_n 2, 1) :: (131, .iload 5, 2) :: (133, .iconst 1, 1) :: (134, .iadd, 1) :: (135, .iload 4, 2) :: (137, .iconst 1, 1) :: (138, .iload 5, 2) :: (140, .ishl, 1) :: (141, .ior, 1) :: (142, .invokevirtual 290, 3) :: (145, .ifCond .eq 5, 3) :: (148, .iconst 1, 1) :: (149, .ireturn, 1) :: k_X11_isCrowd_150
def k_X11_isCrowd_115 : List CI := (115, .istore 6, 2) :: (117, .iinc 7 1, 3) :: (120, .goto (-66), 3) :: k_X11_isCrowd_123
def k_X11_isCrowd_114 : List CI := (114, .iconst 0, 1) :: k_X11_isCrowd_115
def k_X11_isCrowd_110 : List CI := (110, .iconst 1, 1) :: (111, .goto 4, 3) :: k_X11_isCrowd_114
def k_X11_isCrowd_54 : List CI := (54, .iload 7, 2) :: (56, .iload 5, 2) :: (58, .if_icmp .ge 65, 3) :: (61, .iload 6, 2) :: (63, .ifCond .eq 60, 3) :: (66, .iload 4, 2) :: (68, .iload 7, 2) :: (70, .ishr, 1) :: (71, .iconst 1, 1) :: (72, .iand, 1) :: (73, .ifCond .eq 37, 3) :: (76, .aload_n 0, 1) :: (77, .getfield 89, 3) :: (80, .iload 5, 2) :: (82, .iaload, 1) :: (83, .aload_n 0, 1) :: (84, .getfield 92, 3) :: (87, .iload 5, 2) :: (89, .iaload, 1) :: (90, .aload_n 0, 1) :: (91, .getfield 89, 3) :: (94, .iload 7, 2) :: (96, .iaload, 1) :: (97, .aload_n 0, 1) :: (98, .getfield 92, 3) :: (101, .iload 7, 2) :: (103, .iaload, 1) :: (104, .invokestatic 274, 3) :: (107, .ifCond .eq 7, 3) :: k_X11_isCrowd_110
def k_X11_isCrowd_14 : List CI := (14, .iload 5, 2) :: (16, .iload_n 1, 1) :: (17, .if_icmp .ge 139, 3) :: (20, .aload_n 0, 1) :: (21, .getfield 89, 3) :: (24, .iload 5, 2) :: (26, .iaload, 1) :: (27, .aload_n 0, 1) :: (28, .getfield 92, 3) :: (31, .iload 5, 2) :: (33, .iaload, 1) :: (34, .aload_n 0, 1) :: (35, .getfield 89, 3) :: (38, .iload_n 1, 1) :: (39, .iaload, 1) :: (40, .aload_n 0, 1) :: (41, .getfield 92, 3) :: (44, .iload_n 1, 1) :: (45, .iaload, 1) :: (46, .invokestatic 274, 3) :: (49, .istore 6, 2) :: (51, .iconst 0, 1) :: (52, .istore 7, 2) :: k_X11_isCrowd_54
def k_X11_isCrowd_11 : List CI := (11, .iload_n 3, 1) :: (12, .istore 5, 2) :: k_X11_isCrowd_14
def k_X11_isCrowd : List CI := (0, .iload 4, 2) :: (2, .invokestatic 262, 3) :: (5, .iload_n 2, 1) :: (6, .if_icmp .le 5, 3) :: (9, .iconst 1, 1) :: (10, .ireturn, 1) :: k_X11_isCrowd_11
def Y_X11_isCrowd : MD := (yX11_isCrowd, cX11_isCrowd, 8, (some .boolean), k_X11_isCrowd)
theorem cok_X11_isCrowd : COK Y_X11_isCrowd.2.1 Y_X11_isCrowd.code = true := by decide +kernel
theorem mok_X11_isCrowd : MOK Y_X11_isCrowd 4 := ⟨mU_8 178 rfl rfl, mU_1 13 rfl rfl, by decide, by decide, by decide +kernel, by decide⟩
theorem ins_X11_isCrowd : INST Y_X11_isCrowd := ⟨mU_8 177 rfl rfl, mV_9 (n := 48) 15 rfl⟩
def k_X11_lays_118 : List CI := (118, .iconst 0, 1) :: (119, .ireturn, 1) :: []
def k_X11_lays_112 : List CI := (112, .iinc 4 1, 3) :: (115, .goto (-51), 3) :: k_X11_lays_118
def k_X11_lays_75 : List CI := (75, .if_icmp .ge 43, 3) :: (78, .aload_n 0, 1) :: (79, .getfield 92, 3) :: (82, .iload_n 1, 1) :: (83, .iload 4, 2) :: (85, .iastore, 1) :: (86, .aload_n 0, 1) :: (87, .iload_n 1, 1) :: (88, .iload_n 2, 1) :: (89, .iconst 0, 1) :: (90, .iconst 1, 1) :: (91, .iload_n 1, 1) :: (92, .ishl, 1) :: (93, .invokevirtual 290, 3) :: (96, .ifCond .ne 16, 3) :: (99, .aload_n 0, 1) :: (100, .iload_n 1, 1) :: (101, .iconst 1, 1) :: (102, .iadd, 1) :: (103, .iload_n 2, 1) :: (104, .invokevirtual 296, 3) :: (107, .ifCond .eq 5, 3) :: (110, .iconst 1, 1) :: (111, .ireturn, 1) :: k_X11_lays_112
def k_X11_lays_74 : List CI := (74, .iload_n 3, 1) :: k_X11_lays_75
def k_X11_lays_64 : List CI := (64, .iload 4, 2) :: (66, .iload_n 1, 1) :: (67, .ifCond .ne 7, 3) :: (70, .iconst 1, 1) :: (71, .goto 4, 3) :: k_X11_lays_74
def k_X11_lays_61 : List CI := (61, .iconst 0, 1) :: (62, .istore 4, 2) :: k_X11_lays_64
def k_X11_lays_54 : List CI := (54, .istore_n 3, 1) :: (55, .iinc 4 1, 3) :: (58, .goto (-43), 3) :: k_X11_lays_61
def k_X11_lays_34 : List CI := (34, .iload_n 3, 1) :: (35, .aload_n 0, 1) :: (36, .getfield 89, 3) :: (39, .iload 4, 2) :: (41, .iaload, 1) :: (42, .aload_n 0, 1) :: (43, .getfield 89, 3) :: (46, .iload_n 1, 1) :: (47, .iaload, 1) :: (48, .invokestatic 164, 3) :: (51, .invokestatic 190, 3) :: k_X11_lays_54
def k_X11_lays_15 : List CI := (15, .iload 4, 2) :: (17, .aload_n 0, 1) :: (18, .getfield 293, 3) :: (21, .if_icmp .ge 40, 3) :: (24, .iload 4, 2) :: (26, .iload_n 1, 1) :: (27, .if_icmp .ne 7, 3) :: (30, .iload_n 3, 1) :: (31, .goto 23, 3) :: k_X11_lays_34
def k_X11_lays_10 : List CI := (10, .iconst 1, 1) :: (11, .istore_n 3, 1) :: (12, .iconst 0, 1) :: (13, .istore 4, 2) :: k_X11_lays_15
def k_X11_lays : List CI := (0, .iload_n 1, 1) :: (1, .aload_n 0, 1) :: (2, .getfield 293, 3) :: (5, .if_icmp .ne 5, 3) :: (8, .iconst 1, 1) :: (9, .ireturn, 1) :: k_X11_lays_10
def Y_X11_lays : MD := (yX11_lays, cX11_lays, 5, (some .boolean), k_X11_lays)
theorem cok_X11_lays : COK Y_X11_lays.2.1 Y_X11_lays.code = true := by decide +kernel
theorem mok_X11_lays : MOK Y_X11_lays 2 := ⟨mU_8 174 rfl rfl, mU_1 13 rfl rfl, by decide, by decide, by decide +kernel, by decide⟩
theorem ins_X11_lays : INST Y_X11_lays := ⟨mU_8 173 rfl rfl, mV_9 (n := 48) 14 rfl⟩
def k_X11_weeks_232 : List CI := (232, .lload 7, 2) :: (234, .lreturn, 1) :: []
def k_X11_weeks_200 : List CI := (200, .iload 9, 2) :: (202, .aload_n 0, 1) :: (203, .getfield 293, 3) :: (206, .if_icmp .ge 26, 3) :: (209, .ldc2_w 299, 3) :: (212, .lload 7, 2) :: (214, .lmul, 1) :: (215, .aload_n 0, 1) :: (216, .getfield 92, 3) :: (219, .iload 9, 2) :: (221, .iaload, 1) :: (222, .i2l, 1) :: (223, .ladd, 1) :: (224, .lstore 7, 2) :: (226, .iinc 9 1, 3) :: (229, .goto (-29), 3) :: k_X11_weeks_232
def k_X11_weeks_194 : List CI := (194, .lconst 0, 1) :: (195, .lstore 7, 2) :: (197, .iconst 0, 1) :: (198, .istore 9, 2) :: k_X11_weeks_200
def k_X11_weeks_181 : List CI := (181, .aload_n 0, 1) :: (182, .iconst 0, 1) :: (183, .iload_n 3, 1) :: (184, .invokevirtual 296, 3) :: (187, .ifCond .ne 7, 3) :: (190, .ldc2_w 301, 3) :: (193, .lreturn, 1) :: k_X11_weeks_194
def k_X11_weeks_148 : List CI := (148, .iload 7, 2) :: (150, .ifCond .lt 31, 3) :: (153, .aload_n 0, 1) :: (154, .getfield 89, 3) :: (157, .iload 7, 2) :: (159, .lload 4, 2) :: (161, .ldc2_w 299, 3) :: (164, .lrem, 1) :: (165, .l2i, 1) :: (166, .iastore, 1) :: (167, .lload 4, 2) :: (169, .ldc2_w 299, 3) :: (172, .ldiv, 1) :: (173, .lstore 4, 2) :: (175, .iinc 7 (-1), 3) :: (178, .goto (-30), 3) :: k_X11_weeks_181
def k_X11_weeks_137 : List CI := (137, .lload_n 1, 1) :: (138, .lstore 4, 2) :: (140, .aload_n 0, 1) :: (141, .getfield 293, 3) :: (144, .iconst 1, 1) :: (145, .isub, 1) :: (146, .istore 7, 2) :: k_X11_weeks_148
def k_X11_weeks_127 : List CI := (127, .iconst 1, 1) :: (128, .iconst 2, 1) :: (129, .invokevirtual 180, 3) :: (132, .ifCond .eq 5, 3) :: (135, .lconst 0, 1) :: (136, .lreturn, 1) :: k_X11_weeks_137
def k_X11_weeks_126 : List CI := (126, .iconst 0, 1) :: k_X11_weeks_127
def k_X11_weeks_122 : List CI := (122, .iconst 1, 1) :: (123, .goto 4, 3) :: k_X11_weeks_126
def k_X11_weeks_101 : List CI := (101, .aload_n 0, 1) :: (102, .iload 6, 2) :: (104, .ifCond .eq 18, 3) :: (107, .lload 4, 2) :: (109, .lconst 0, 1) :: (110, .lcmp, 1) :: (111, .ifCond .gt 11, 3) :: (114, .aload_n 0, 1) :: (115, .getfield 293, 3) :: (118, .iconst 2, 1) :: (119, .if_icmp .ge 7, 3) :: k_X11_weeks_122
def k_X11_weeks_78 : List CI := (78, .istore 6, 2) :: (80, .lload 4, 2) :: (82, .ldc2_w 299, 3) :: (85, .ldiv, 1) :: (86, .lstore 4, 2) :: (88, .aload_n 0, 1) :: (89, .dup, 1) :: (90, .getfield 293, 3) :: (93, .iconst 1, 1) :: (94, .iadd, 1) :: (95, .putfield 293, 3) :: (98, .goto (-62), 3) :: k_X11_weeks_101
def k_X11_weeks_77 : List CI := (77, .iconst 0, 1) :: k_X11_weeks_78
def k_X11_weeks_36 : List CI := (36, .lload 4, 2) :: (38, .lconst 0, 1) :: (39, .lcmp, 1) :: (40, .ifCond .le 61, 3) :: (43, .aload_n 0, 1) :: (44, .getfield 293, 3) :: (47, .bipush 6, 2) :: (49, .if_icmp .ge 52, 3) :: (52, .iload 6, 2) :: (54, .ifCond .eq 23, 3) :: (57, .lload 4, 2) :: (59, .ldc2_w 299, 3) :: (62, .lrem, 1) :: (63, .l2i, 1) :: (64, .iconst 2, 1) :: (65, .bipush 24, 2) :: (67, .invokestatic 141, 3) :: (70, .ifCond .eq 7, 3) :: (73, .iconst 1, 1) :: (74, .goto 4, 3) :: k_X11_weeks_77
def k_X11_weeks_29 : List CI := (29, .istore 6, 2) :: (31, .aload_n 0, 1) :: (32, .iconst 0, 1) :: (33, .putfield 293, 3) :: k_X11_weeks_36
def k_X11_weeks_28 : List CI := (28, .iconst 0, 1) :: k_X11_weeks_29
def k_X11_weeks : List CI := (0, .aload_n 0, 1) :: (1, .iconst 0, 1) :: (2, .putfield 107, 3) :: (5, .lload_n 1, 1) :: (6, .lstore 4, 2) :: (8, .iload_n 3, 1) :: (9, .iconst 1, 1) :: (10, .bipush 6, 2) :: (12, .invokestatic 141, 3) :: (15, .ifCond .eq 13, 3) :: (18, .lload_n 1, 1) :: (19, .lconst 0, 1) :: (20, .lcmp, 1) :: (21, .ifCond .le 7, 3) :: (24, .iconst 1, 1) :: (25, .goto 4, 3) :: k_X11_weeks_28
def Y_X11_weeks : MD := (yX11_weeks, cX11_weeks, 10, (some .long), k_X11_weeks)
theorem cok_X11_weeks : COK Y_X11_weeks.2.1 Y_X11_weeks.code = true := by decide +kernel
theorem mok_X11_weeks : MOK Y_X11_weeks 2 := ⟨mU_8 169 rfl rfl, mU_1 13 rfl rfl, by decide, by decide, by decide +kernel, by decide⟩
theorem ins_X11_weeks : INST Y_X11_weeks := ⟨mU_8 167 rfl rfl, mU_8 168 rfl rfl⟩
def k_X11_seen_107 : List CI := (107, .iastore, 1) :: (108, .aload_n 0, 1) :: (109, .dup, 1) :: (110, .getfield 196, 3) :: (113, .iconst 1, 1) :: (114, .iadd, 1) :: (115, .putfield 196, 3) :: (118, .aload_n 0, 1) :: (119, .getfield 196, 3) :: (122, .ireturn, 1) :: []
def k_X11_seen_106 : List CI := (106, .iconst 0, 1) :: k_X11_seen_107
def k_X11_seen_64 : List CI := (64, .aload_n 0, 1) :: (65, .getfield 74, 3) :: (68, .aload_n 0, 1) :: (69, .getfield 196, 3) :: (72, .aaload, 1) :: (73, .iconst 0, 1) :: (74, .iload_n 1, 1) :: (75, .iastore, 1) :: (76, .aload_n 0, 1) :: (77, .getfield 74, 3) :: (80, .aload_n 0, 1) :: (81, .getfield 196, 3) :: (84, .aaload, 1) :: (85, .iconst 1, 1) :: (86, .iload_n 2, 1) :: (87, .iastore, 1) :: (88, .aload_n 0, 1) :: (89, .getfield 74, 3) :: (92, .aload_n 0, 1) :: (93, .getfield 196, 3) :: (96, .aaload, 1) :: (97, .iconst 2, 1) :: (98, .iload_n 3, 1) :: (99, .ifCond .eq 7, 3) :: (102, .iconst 1, 1) :: (103, .goto 4, 3) :: k_X11_seen_106
def k_X11_seen_53 : List CI := (53, .aload_n 0, 1) :: (54, .getfield 196, 3) :: (57, .bipush 20, 2) :: (59, .if_icmp .ne 5, 3) :: (62, .iconst (-1), 1) :: (63, .ireturn, 1) :: k_X11_seen_64
def k_X11_seen_51 : List CI := (51, .iconst 0, 1) :: (52, .ireturn, 1) :: k_X11_seen_53
def k_X11_seen_43 : List CI := (43, .iconst 2, 1) :: (44, .iconst 2, 1) :: (45, .invokevirtual 180, 3) :: (48, .ifCond .eq 5, 3) :: k_X11_seen_51
def k_X11_seen_42 : List CI := (42, .iconst 0, 1) :: k_X11_seen_43
def k_X11_seen_19 : List CI := (19, .iconst 1, 1) :: (20, .iconst 1, 1) :: (21, .invokevirtual 180, 3) :: (24, .ifCond .ne 27, 3) :: (27, .aload_n 0, 1) :: (28, .iload_n 2, 1) :: (29, .iconst 0, 1) :: (30, .bipush 9, 2) :: (32, .invokestatic 141, 3) :: (35, .ifCond .ne 7, 3) :: (38, .iconst 1, 1) :: (39, .goto 4, 3) :: k_X11_seen_42
def k_X11_seen_18 : List CI := (18, .iconst 0, 1) :: k_X11_seen_19
def k_X11_seen : List CI := (0, .aload_n 0, 1) :: (1, .iconst 0, 1) :: (2, .putfield 107, 3) :: (5, .aload_n 0, 1) :: (6, .aload_n 0, 1) :: (7, .iload_n 1, 1) :: (8, .invokevirtual 236, 3) :: (11, .ifCond .ne 7, 3) :: (14, .iconst 1, 1) :: (15, .goto 4, 3) :: k_X11_seen_18
def Y_X11_seen : MD := (yX11_seen, cX11_seen, 4, (some .int), k_X11_seen)
theorem cok_X11_seen : COK Y_X11_seen.2.1 Y_X11_seen.code = true := by decide +kernel
theorem mok_X11_seen : MOK Y_X11_seen 3 := ⟨mU_8 183 rfl rfl, mU_1 13 rfl rfl, by decide, by decide, by decide +kernel, by decide⟩
theorem ins_X11_seen : INST Y_X11_seen := ⟨mU_8 181 rfl rfl, mU_8 182 rfl rfl⟩
def k_X11_isFit_93 : List CI := (93, .iconst 1, 1) :: (94, .ireturn, 1) :: []
def k_X11_isFit_87 : List CI := (87, .iinc 2 1, 3) :: (90, .goto (-88), 3) :: k_X11_isFit_93
def k_X11_isFit_82 : List CI := (82, .if_icmp .eq 5, 3) :: (85, .iconst 0, 1) :: (86, .ireturn, 1) :: k_X11_isFit_87
def k_X11_isFit_81 : List CI := (81, .iconst 0, 1) :: k_X11_isFit_82
def k_X11_isFit_65 : List CI := (65, .aload_n 0, 1) :: (66, .getfield 74, 3) :: (69, .iload_n 2, 1) :: (70, .aaload, 1) :: (71, .iconst 2, 1) :: (72, .iaload, 1) :: (73, .iconst 1, 1) :: (74, .if_icmp .ne 7, 3) :: (77, .iconst 1, 1) :: (78, .goto 4, 3) :: k_X11_isFit_81
def k_X11_isFit_64 : List CI := (64, .iconst 0, 1) :: k_X11_isFit_65
def k_X11_isFit_2 : List CI := (2, .iload_n 2, 1) :: (3, .aload_n 0, 1) :: (4, .getfield 196, 3) :: (7, .if_icmp .ge 86, 3) :: (10, .aload_n 0, 1) :: (11, .getfield 35, 3) :: (14, .aload_n 0, 1) :: (15, .getfield 74, 3) :: (18, .iload_n 2, 1) :: (19, .aaload, 1) :: (20, .iconst 0, 1) :: (21, .iaload, 1) :: (22, .iaload, 1) :: (23, .istore_n 3, 1) :: (24, .iload_n 1, 1) :: (25, .aload_n 0, 1) :: (26, .getfield 74, 3) :: (29, .iload_n 2, 1) :: (30, .aaload, 1) :: (31, .iconst 1, 1) :: (32, .iaload, 1) :: (33, .isub, 1) :: (34, .iload_n 3, 1) :: (35, .irem, 1) :: (36, .iload_n 3, 1) :: (37, .iadd, 1) :: (38, .iload_n 3, 1) :: (39, .irem, 1) :: (40, .istore 4, 2) :: (42, .iload 4, 2) :: (44, .aload_n 0, 1) :: (45, .getfield 41, 3) :: (48, .aload_n 0, 1) :: (49, .getfield 74, 3) :: (52, .iload_n 2, 1) :: (53, .aaload, 1) :: (54, .iconst 0, 1) :: (55, .iaload, 1) :: (56, .iaload, 1) :: (57, .if_icmp .ne 7, 3) :: (60, .iconst 1, 1) :: (61, .goto 4, 3) :: k_X11_isFit_64
def k_X11_isFit : List CI := (0, .iconst 0, 1) :: (1, .istore_n 2, 1) :: k_X11_isFit_2
def Y_X11_isFit : MD := (yX11_isFit, cX11_isFit, 5, (some .boolean), k_X11_isFit)
theorem cok_X11_isFit : COK Y_X11_isFit.2.1 Y_X11_isFit.code = true := by decide +kernel
theorem mok_X11_isFit : MOK Y_X11_isFit 1 := ⟨mU_8 191 rfl rfl, mU_1 13 rfl rfl, by decide, by decide, by decide +kernel, by decide⟩
theorem ins_X11_isFit : INST Y_X11_isFit := ⟨mU_8 190 rfl rfl, mV_10 (n := 48) 0 rfl⟩
def k_X11_fits_107 : List CI := (107, .ireturn, 1) :: []
def k_X11_fits_105 : List CI := (105, .iload 4, 2) :: k_X11_fits_107
def k_X11_fits_96 : List CI := (96, .iload_n 1, 1) :: (97, .iconst 1, 1) :: (98, .if_icmp .ne 7, 3) :: (101, .iload_n 3, 1) :: (102, .goto 5, 3) :: k_X11_fits_105
def k_X11_fits_88 : List CI := (88, .iload_n 1, 1) :: (89, .ifCond .ne 7, 3) :: (92, .iload_n 2, 1) :: (93, .goto 14, 3) :: k_X11_fits_96
def k_X11_fits_82 : List CI := (82, .iinc 5 1, 3) :: (85, .goto (-45), 3) :: k_X11_fits_88
def k_X11_fits_77 : List CI := (77, .istore_n 3, 1) :: (78, .iload 5, 2) :: (80, .istore 4, 2) :: k_X11_fits_82
def k_X11_fits_76 : List CI := (76, .iload_n 3, 1) :: k_X11_fits_77
def k_X11_fits_63 : List CI := (63, .iinc 2 1, 3) :: (66, .iload_n 3, 1) :: (67, .iconst (-1), 1) :: (68, .if_icmp .ne 8, 3) :: (71, .iload 5, 2) :: (73, .goto 4, 3) :: k_X11_fits_76
def k_X11_fits_40 : List CI := (40, .iload 5, 2) :: (42, .aload_n 0, 1) :: (43, .getfield 23, 3) :: (46, .iconst 4, 1) :: (47, .iaload, 1) :: (48, .if_icmp .ge 40, 3) :: (51, .aload_n 0, 1) :: (52, .iload 5, 2) :: (54, .invokevirtual 303, 3) :: (57, .ifCond .ne 6, 3) :: (60, .goto 22, 3) :: k_X11_fits_63
def k_X11_fits_30 : List CI := (30, .iconst 0, 1) :: (31, .istore_n 2, 1) :: (32, .iconst (-1), 1) :: (33, .istore_n 3, 1) :: (34, .iconst (-1), 1) :: (35, .istore 4, 2) :: (37, .iconst 0, 1) :: (38, .istore 5, 2) :: k_X11_fits_40
def k_X11_fits_20 : List CI := (20, .iconst 1, 1) :: (21, .iconst 2, 1) :: (22, .invokevirtual 180, 3) :: (25, .ifCond .eq 5, 3) :: (28, .iconst 0, 1) :: (29, .ireturn, 1) :: k_X11_fits_30
def k_X11_fits_19 : List CI := (19, .iconst 0, 1) :: k_X11_fits_20
def k_X11_fits : List CI := (0, .aload_n 0, 1) :: (1, .iconst 0, 1) :: (2, .putfield 107, 3) :: (5, .aload_n 0, 1) :: (6, .iload_n 1, 1) :: (7, .iconst 0, 1) :: (8, .iconst 2, 1) :: (9, .invokestatic 141, 3) :: (12, .ifCond .ne 7, 3) :: (15, .iconst 1, 1) :: (16, .goto 4, 3) :: k_X11_fits_19
def Y_X11_fits : MD := (yX11_fits, cX11_fits, 6, (some .int), k_X11_fits)
theorem cok_X11_fits : COK Y_X11_fits.2.1 Y_X11_fits.code = true := by decide +kernel
theorem mok_X11_fits : MOK Y_X11_fits 1 := ⟨mU_8 187 rfl rfl, mU_1 13 rfl rfl, by decide, by decide, by decide +kernel, by decide⟩
theorem ins_X11_fits : INST Y_X11_fits := ⟨mU_8 185 rfl rfl, mU_8 186 rfl rfl⟩
def k_X11_look_243 : List CI := (243, .ireturn, 1) :: []
def k_X11_look_241 : List CI := (241, .iload 4, 2) :: k_X11_look_243
def k_X11_look_232 : List CI := (232, .iload_n 3, 1) :: (233, .iconst (-1), 1) :: (234, .if_icmp .ne 7, 3) :: (237, .iload_n 2, 1) :: (238, .goto 5, 3) :: k_X11_look_241
def k_X11_look_224 : List CI := (224, .iload_n 1, 1) :: (225, .ifCond .ne 7, 3) :: (228, .iload_n 3, 1) :: (229, .goto 14, 3) :: k_X11_look_232
def k_X11_look_218 : List CI := (218, .iinc 5 1, 3) :: (221, .goto (-76), 3) :: k_X11_look_224
def k_X11_look_211 : List CI := (211, .iload 5, 2) :: (213, .istore_n 3, 1) :: (214, .iload 6, 2) :: (216, .istore 4, 2) :: k_X11_look_218
def k_X11_look_194 : List CI := (194, .istore 6, 2) :: (196, .iload_n 3, 1) :: (197, .iconst (-1), 1) :: (198, .if_icmp .eq 13, 3) :: (201, .iload 6, 2) :: (203, .iload 4, 2) :: (205, .if_icmp .lt 6, 3) :: (208, .goto 10, 3) :: k_X11_look_211
def k_X11_look_185 : List CI := (185, .iload_n 2, 1) :: (186, .aload_n 0, 1) :: (187, .getfield 95, 3) :: (190, .iload 5, 2) :: (192, .iaload, 1) :: (193, .isub, 1) :: k_X11_look_194
def k_X11_look_145 : List CI := (145, .iload 5, 2) :: (147, .aload_n 0, 1) :: (148, .getfield 23, 3) :: (151, .iconst 0, 1) :: (152, .iaload, 1) :: (153, .if_icmp .ge 71, 3) :: (156, .aload_n 0, 1) :: (157, .getfield 95, 3) :: (160, .iload 5, 2) :: (162, .iaload, 1) :: (163, .iload_n 2, 1) :: (164, .aload_n 0, 1) :: (165, .getfield 95, 3) :: (168, .iload 5, 2) :: (170, .iaload, 1) :: (171, .isub, 1) :: (172, .if_icmp .le 13, 3) :: (175, .aload_n 0, 1) :: (176, .getfield 95, 3) :: (179, .iload 5, 2) :: (181, .iaload, 1) :: (182, .goto 12, 3) :: k_X11_look_185
def k_X11_look_142 : List CI := (142, .iconst 0, 1) :: (143, .istore 5, 2) :: k_X11_look_145
def k_X11_look_136 : List CI := (136, .iinc 5 1, 3) :: (139, .goto (-75), 3) :: k_X11_look_142
def k_X11_look_128 : List CI := (128, .iadd, 1) :: (129, .iastore, 1) :: (130, .iinc 6 1, 3) :: (133, .goto (-40), 3) :: k_X11_look_136
def k_X11_look_127 : List CI := (127, .iconst 0, 1) :: k_X11_look_128
def k_X11_look_93 : List CI := (93, .iload 6, 2) :: (95, .aload_n 0, 1) :: (96, .getfield 23, 3) :: (99, .iconst 0, 1) :: (100, .iaload, 1) :: (101, .if_icmp .ge 35, 3) :: (104, .aload_n 0, 1) :: (105, .getfield 95, 3) :: (108, .iload 6, 2) :: (110, .dup2, 1) :: (111, .iaload, 1) :: (112, .aload_n 0, 1) :: (113, .iload 6, 2) :: (115, .iload 5, 2) :: (117, .invokevirtual 243, 3) :: (120, .ifCond .eq 7, 3) :: (123, .iconst 1, 1) :: (124, .goto 4, 3) :: k_X11_look_127
def k_X11_look_87 : List CI := (87, .iinc 2 1, 3) :: (90, .iconst 0, 1) :: (91, .istore 6, 2) :: k_X11_look_93
def k_X11_look_64 : List CI := (64, .iload 5, 2) :: (66, .aload_n 0, 1) :: (67, .getfield 23, 3) :: (70, .iconst 4, 1) :: (71, .iaload, 1) :: (72, .if_icmp .ge 70, 3) :: (75, .aload_n 0, 1) :: (76, .iload 5, 2) :: (78, .invokevirtual 303, 3) :: (81, .ifCond .ne 6, 3) :: (84, .goto 52, 3) :: k_X11_look_87
def k_X11_look_61 : List CI := (61, .iconst 0, 1) :: (62, .istore 5, 2) :: k_X11_look_64
def k_X11_look_40 : List CI := (40, .iload 5, 2) :: (42, .bipush 12, 2) :: (44, .if_icmp .ge 17, 3) :: (47, .aload_n 0, 1) :: (48, .getfield 95, 3) :: (51, .iload 5, 2) :: (53, .iconst 0, 1) :: (54, .iastore, 1) :: (55, .iinc 5 1, 3) :: (58, .goto (-18), 3) :: k_X11_look_61
def k_X11_look_30 : List CI := (30, .iconst 0, 1) :: (31, .istore_n 2, 1) :: (32, .iconst (-1), 1) :: (33, .istore_n 3, 1) :: (34, .iconst 0, 1) :: (35, .istore 4, 2) :: (37, .iconst 0, 1) :: (38, .istore 5, 2) :: k_X11_look_40
def k_X11_look_20 : List CI := (20, .iconst 1, 1) :: (21, .iconst 2, 1) :: (22, .invokevirtual 180, 3) :: (25, .ifCond .eq 5, 3) :: (28, .iconst 0, 1) :: (29, .ireturn, 1) :: k_X11_look_30
def k_X11_look_19 : List CI := (19, .iconst 0, 1) :: k_X11_look_20
def k_X11_look : List CI := (0, .aload_n 0, 1) :: (1, .iconst 0, 1) :: (2, .putfield 107, 3) :: (5, .aload_n 0, 1) :: (6, .iload_n 1, 1) :: (7, .iconst 0, 1) :: (8, .iconst 1, 1) :: (9, .invokestatic 141, 3) :: (12, .ifCond .ne 7, 3) :: (15, .iconst 1, 1) :: (16, .goto 4, 3) :: k_X11_look_19
def Y_X11_look : MD := (yX11_look, cX11_look, 7, (some .int), k_X11_look)
theorem cok_X11_look : COK Y_X11_look.2.1 Y_X11_look.code = true := by decide +kernel
theorem mok_X11_look : MOK Y_X11_look 1 := ⟨mU_8 195 rfl rfl, mU_1 13 rfl rfl, by decide, by decide, by decide +kernel, by decide⟩
theorem ins_X11_look : INST Y_X11_look := ⟨mU_8 193 rfl rfl, mU_8 194 rfl rfl⟩
def k_X11_did_125 : List CI := (125, .iastore, 1) :: (126, .aload_n 0, 1) :: (127, .dup, 1) :: (128, .getfield 199, 3) :: (131, .iconst 1, 1) :: (132, .iadd, 1) :: (133, .putfield 199, 3) :: (136, .aload_n 0, 1) :: (137, .getfield 199, 3) :: (140, .ireturn, 1) :: []
def k_X11_did_124 : List CI := (124, .iconst 0, 1) :: k_X11_did_125
def k_X11_did_69 : List CI := (69, .aload_n 0, 1) :: (70, .getfield 77, 3) :: (73, .aload_n 0, 1) :: (74, .getfield 199, 3) :: (77, .aaload, 1) :: (78, .iconst 0, 1) :: (79, .iload_n 1, 1) :: (80, .iastore, 1) :: (81, .aload_n 0, 1) :: (82, .getfield 77, 3) :: (85, .aload_n 0, 1) :: (86, .getfield 199, 3) :: (89, .aaload, 1) :: (90, .iconst 1, 1) :: (91, .iload_n 2, 1) :: (92, .iastore, 1) :: (93, .aload_n 0, 1) :: (94, .getfield 77, 3) :: (97, .aload_n 0, 1) :: (98, .getfield 199, 3) :: (101, .aaload, 1) :: (102, .iconst 2, 1) :: (103, .iload_n 3, 1) :: (104, .iastore, 1) :: (105, .aload_n 0, 1) :: (106, .getfield 77, 3) :: (109, .aload_n 0, 1) :: (110, .getfield 199, 3) :: (113, .aaload, 1) :: (114, .iconst 3, 1) :: (115, .iload 4, 2) :: (117, .ifCond .eq 7, 3) :: (120, .iconst 1, 1) :: (121, .goto 4, 3) :: k_X11_did_124
def k_X11_did_58 : List CI := (58, .aload_n 0, 1) :: (59, .getfield 199, 3) :: (62, .bipush 20, 2) :: (64, .if_icmp .ne 5, 3) :: (67, .iconst (-1), 1) :: (68, .ireturn, 1) :: k_X11_did_69
def k_X11_did_56 : List CI := (56, .iconst 0, 1) :: (57, .ireturn, 1) :: k_X11_did_58
def k_X11_did_48 : List CI := (48, .iconst 2, 1) :: (49, .iconst 1, 1) :: (50, .invokevirtual 180, 3) :: (53, .ifCond .eq 5, 3) :: k_X11_did_56
def k_X11_did_47 : List CI := (47, .iconst 0, 1) :: k_X11_did_48
def k_X11_did_43 : List CI := (43, .iconst 1, 1) :: (44, .goto 4, 3) :: k_X11_did_47
def k_X11_did_18 : List CI := (18, .iconst 1, 1) :: (19, .iconst 0, 1) :: (20, .invokevirtual 180, 3) :: (23, .ifCond .ne 33, 3) :: (26, .aload_n 0, 1) :: (27, .aload_n 0, 1) :: (28, .iload_n 1, 1) :: (29, .invokevirtual 239, 3) :: (32, .ifCond .eq 11, 3) :: (35, .aload_n 0, 1) :: (36, .iload_n 2, 1) :: (37, .invokevirtual 236, 3) :: (40, .ifCond .ne 7, 3) :: k_X11_did_43
def k_X11_did_17 : List CI := (17, .iconst 0, 1) :: k_X11_did_18
def k_X11_did : List CI := (0, .aload_n 0, 1) :: (1, .iconst 0, 1) :: (2, .putfield 107, 3) :: (5, .aload_n 0, 1) :: (6, .iload_n 3, 1) :: (7, .invokestatic 247, 3) :: (10, .ifCond .ne 7, 3) :: (13, .iconst 1, 1) :: (14, .goto 4, 3) :: k_X11_did_17
def Y_X11_did : MD := (yX11_did, cX11_did, 5, (some .int), k_X11_did)
theorem cok_X11_did : COK Y_X11_did.2.1 Y_X11_did.code = true := by decide +kernel
theorem mok_X11_did : MOK Y_X11_did 4 := ⟨mU_8 199 rfl rfl, mU_1 13 rfl rfl, by decide, by decide, by decide +kernel, by decide⟩
theorem ins_X11_did : INST Y_X11_did := ⟨mU_8 197 rfl rfl, mU_8 198 rfl rfl⟩
def k_X11_explains_75 : List CI := (75, .iconst 1, 1) :: (76, .ireturn, 1) :: []
def k_X11_explains_69 : List CI := (69, .iinc 2 1, 3) :: (72, .goto (-70), 3) :: k_X11_explains_75
def k_X11_explains_64 : List CI := (64, .if_icmp .eq 5, 3) :: (67, .iconst 0, 1) :: (68, .ireturn, 1) :: k_X11_explains_69
def k_X11_explains_63 : List CI := (63, .iconst 0, 1) :: k_X11_explains_64
def k_X11_explains_2 : List CI := (2, .iload_n 2, 1) :: (3, .aload_n 0, 1) :: (4, .getfield 199, 3) :: (7, .if_icmp .ge 68, 3) :: (10, .aload_n 0, 1) :: (11, .getfield 77, 3) :: (14, .iload_n 2, 1) :: (15, .aaload, 1) :: (16, .iconst 0, 1) :: (17, .iaload, 1) :: (18, .iload_n 1, 1) :: (19, .if_icmp .ne 50, 3) :: (22, .aload_n 0, 1) :: (23, .iload_n 1, 1) :: (24, .aload_n 0, 1) :: (25, .getfield 77, 3) :: (28, .iload_n 2, 1) :: (29, .aaload, 1) :: (30, .iconst 1, 1) :: (31, .iaload, 1) :: (32, .aload_n 0, 1) :: (33, .aload_n 0, 1) :: (34, .getfield 77, 3) :: (37, .iload_n 2, 1) :: (38, .aaload, 1) :: (39, .iconst 2, 1) :: (40, .iaload, 1) :: (41, .invokevirtual 250, 3) :: (44, .invokevirtual 256, 3) :: (47, .aload_n 0, 1) :: (48, .getfield 77, 3) :: (51, .iload_n 2, 1) :: (52, .aaload, 1) :: (53, .iconst 3, 1) :: (54, .iaload, 1) :: (55, .iconst 1, 1) :: (56, .if_icmp .ne 7, 3) :: (59, .iconst 1, 1) :: (60, .goto 4, 3) :: k_X11_explains_63
def k_X11_explains : List CI := (0, .iconst 0, 1) :: (1, .istore_n 2, 1) :: k_X11_explains_2
def Y_X11_explains : MD := (yX11_explains, cX11_explains, 3, (some .boolean), k_X11_explains)
theorem cok_X11_explains : COK Y_X11_explains.2.1 Y_X11_explains.code = true := by decide +kernel
theorem mok_X11_explains : MOK Y_X11_explains 1 := ⟨mU_8 207 rfl rfl, mU_1 13 rfl rfl, by decide, by decide, by decide +kernel, by decide⟩
theorem ins_X11_explains : INST Y_X11_explains := ⟨mU_8 206 rfl rfl, mV_10 (n := 48) 1 rfl⟩
def k_X11_slipped_265 : List CI := (265, .ireturn, 1) :: []
def k_X11_slipped_263 : List CI := (263, .iload 5, 2) :: k_X11_slipped_265
def k_X11_slipped_253 : List CI := (253, .iload_n 2, 1) :: (254, .iconst 1, 1) :: (255, .if_icmp .ne 8, 3) :: (258, .iload 4, 2) :: (260, .goto 5, 3) :: k_X11_slipped_263
def k_X11_slipped_245 : List CI := (245, .iload_n 2, 1) :: (246, .ifCond .ne 7, 3) :: (249, .iload_n 3, 1) :: (250, .goto 15, 3) :: k_X11_slipped_253
def k_X11_slipped_228 : List CI := (228, .aload_n 0, 1) :: (229, .getfield 61, 3) :: (232, .iload_n 1, 1) :: (233, .aaload, 1) :: (234, .iload 7, 2) :: (236, .iload 8, 2) :: (238, .iastore, 1) :: (239, .iinc 7 1, 3) :: (242, .goto (-176), 3) :: k_X11_slipped_245
def k_X11_slipped_222 : List CI := (222, .iinc 9 1, 3) :: (225, .goto (-134), 3) :: k_X11_slipped_228
def k_X11_slipped_220 : List CI := (220, .istore 6, 2) :: k_X11_slipped_222
def k_X11_slipped_218 : List CI := (218, .iload 6, 2) :: k_X11_slipped_220
def k_X11_slipped_204 : List CI := (204, .istore 5, 2) :: (206, .iload 10, 2) :: (208, .iload 6, 2) :: (210, .if_icmp .le 8, 3) :: (213, .iload 10, 2) :: (215, .goto 5, 3) :: k_X11_slipped_218
def k_X11_slipped_202 : List CI := (202, .iload 5, 2) :: k_X11_slipped_204
def k_X11_slipped_182 : List CI := (182, .istore 4, 2) :: (184, .iload 10, 2) :: (186, .iload 6, 2) :: (188, .if_icmp .le 14, 3) :: (191, .bipush 100, 2) :: (193, .iload 7, 2) :: (195, .imul, 1) :: (196, .iload 9, 2) :: (198, .iadd, 1) :: (199, .goto 5, 3) :: k_X11_slipped_202
def k_X11_slipped_180 : List CI := (180, .iload 4, 2) :: k_X11_slipped_182
def k_X11_slipped_157 : List CI := (157, .isub, 1) :: (158, .istore 10, 2) :: (160, .iinc 3 1, 3) :: (163, .iload 4, 2) :: (165, .iconst (-1), 1) :: (166, .if_icmp .ne 14, 3) :: (169, .bipush 100, 2) :: (171, .iload 7, 2) :: (173, .imul, 1) :: (174, .iload 9, 2) :: (176, .iadd, 1) :: (177, .goto 5, 3) :: k_X11_slipped_180
def k_X11_slipped_147 : List CI := (147, .aload_n 0, 1) :: (148, .getfield 35, 3) :: (151, .iload 7, 2) :: (153, .iaload, 1) :: (154, .iload 9, 2) :: (156, .isub, 1) :: k_X11_slipped_157
def k_X11_slipped_125 : List CI := (125, .bipush 24, 2) :: (127, .iload 9, 2) :: (129, .aload_n 0, 1) :: (130, .getfield 35, 3) :: (133, .iload 7, 2) :: (135, .iaload, 1) :: (136, .iload 9, 2) :: (138, .isub, 1) :: (139, .if_icmp .ge 8, 3) :: (142, .iload 9, 2) :: (144, .goto 13, 3) :: k_X11_slipped_147
def k_X11_slipped_91 : List CI := (91, .iload 9, 2) :: (93, .aload_n 0, 1) :: (94, .getfield 35, 3) :: (97, .iload 7, 2) :: (99, .iaload, 1) :: (100, .if_icmp .ge 128, 3) :: (103, .aload_n 0, 1) :: (104, .getfield 61, 3) :: (107, .iload_n 1, 1) :: (108, .aaload, 1) :: (109, .iload 7, 2) :: (111, .iload 9, 2) :: (113, .iastore, 1) :: (114, .aload_n 0, 1) :: (115, .iload_n 1, 1) :: (116, .invokevirtual 306, 3) :: (119, .ifCond .ne 6, 3) :: (122, .goto 100, 3) :: k_X11_slipped_125
def k_X11_slipped_66 : List CI := (66, .iload 7, 2) :: (68, .aload_n 0, 1) :: (69, .getfield 23, 3) :: (72, .iconst 0, 1) :: (73, .iaload, 1) :: (74, .if_icmp .ge 171, 3) :: (77, .aload_n 0, 1) :: (78, .getfield 61, 3) :: (81, .iload_n 1, 1) :: (82, .aaload, 1) :: (83, .iload 7, 2) :: (85, .iaload, 1) :: (86, .istore 8, 2) :: (88, .iconst 0, 1) :: (89, .istore 9, 2) :: k_X11_slipped_91
def k_X11_slipped_52 : List CI := (52, .iconst 0, 1) :: (53, .istore_n 3, 1) :: (54, .iconst (-1), 1) :: (55, .istore 4, 2) :: (57, .iconst (-1), 1) :: (58, .istore 5, 2) :: (60, .iconst 0, 1) :: (61, .istore 6, 2) :: (63, .iconst 0, 1) :: (64, .istore 7, 2) :: k_X11_slipped_66
def k_X11_slipped_50 : List CI := (50, .iconst 0, 1) :: (51, .ireturn, 1) :: k_X11_slipped_52
def k_X11_slipped_42 : List CI := (42, .iconst 2, 1) :: (43, .iconst 2, 1) :: (44, .invokevirtual 180, 3) :: (47, .ifCond .eq 5, 3) :: k_X11_slipped_50
def k_X11_slipped_41 : List CI := (41, .iconst 0, 1) :: k_X11_slipped_42
def k_X11_slipped_19 : List CI := (19, .iconst 1, 1) :: (20, .iconst 1, 1) :: (21, .invokevirtual 180, 3) :: (24, .ifCond .ne 26, 3) :: (27, .aload_n 0, 1) :: (28, .iload_n 2, 1) :: (29, .iconst 0, 1) :: (30, .iconst 2, 1) :: (31, .invokestatic 141, 3) :: (34, .ifCond .ne 7, 3) :: (37, .iconst 1, 1) :: (38, .goto 4, 3) :: k_X11_slipped_41
def k_X11_slipped_18 : List CI := (18, .iconst 0, 1) :: k_X11_slipped_19
def k_X11_slipped : List CI := (0, .aload_n 0, 1) :: (1, .iconst 0, 1) :: (2, .putfield 107, 3) :: (5, .aload_n 0, 1) :: (6, .aload_n 0, 1) :: (7, .iload_n 1, 1) :: (8, .invokevirtual 239, 3) :: (11, .ifCond .ne 7, 3) :: (14, .iconst 1, 1) :: (15, .goto 4, 3) :: k_X11_slipped_18
def Y_X11_slipped : MD := (yX11_slipped, cX11_slipped, 11, (some .int), k_X11_slipped)
theorem cok_X11_slipped : COK Y_X11_slipped.2.1 Y_X11_slipped.code = true := by decide +kernel
theorem mok_X11_slipped : MOK Y_X11_slipped 2 := ⟨mU_8 203 rfl rfl, mU_1 13 rfl rfl, by decide, by decide, by decide +kernel, by decide⟩
theorem ins_X11_slipped : INST Y_X11_slipped := ⟨mU_8 201 rfl rfl, mU_8 202 rfl rfl⟩
def k_X11_forget : List CI := (0, .aload_n 0, 1) :: (1, .iconst 0, 1) :: (2, .putfield 107, 3) :: (5, .aload_n 0, 1) :: (6, .getfield 196, 3) :: (9, .aload_n 0, 1) :: (10, .getfield 199, 3) :: (13, .iadd, 1) :: (14, .istore_n 1, 1) :: (15, .aload_n 0, 1) :: (16, .iconst 0, 1) :: (17, .putfield 196, 3) :: (20, .aload_n 0, 1) :: (21, .iconst 0, 1) :: (22, .putfield 199, 3) :: (25, .iload_n 1, 1) :: (26, .ireturn, 1) :: []
def Y_X11_forget : MD := (yX11_forget, cX11_forget, 2, (some .int), k_X11_forget)
theorem cok_X11_forget : COK Y_X11_forget.2.1 Y_X11_forget.code = true := by decide +kernel
theorem mok_X11_forget : MOK Y_X11_forget 0 := ⟨mU_8 211 rfl rfl, mU_1 13 rfl rfl, by decide, by decide, by decide +kernel, by decide⟩
theorem ins_X11_forget : INST Y_X11_forget := ⟨mU_8 209 rfl rfl, mU_8 210 rfl rfl⟩
def k_X11_areAlike_39 : List CI := (39, .iconst 1, 1) :: (40, .ireturn, 1) :: []
def k_X11_areAlike_33 : List CI := (33, .iinc 3 1, 3) :: (36, .goto (-34), 3) :: k_X11_areAlike_39
def k_X11_areAlike_2 : List CI := (2, .iload_n 3, 1) :: (3, .aload_n 0, 1) :: (4, .getfield 23, 3) :: (7, .iconst 0, 1) :: (8, .iaload, 1) :: (9, .if_icmp .ge 30, 3) :: (12, .aload_n 0, 1) :: (13, .getfield 61, 3) :: (16, .iload_n 1, 1) :: (17, .aaload, 1) :: (18, .iload_n 3, 1) :: (19, .iaload, 1) :: (20, .aload_n 0, 1) :: (21, .getfield 61, 3) :: (24, .iload_n 2, 1) :: (25, .aaload, 1) :: (26, .iload_n 3, 1) :: (27, .iaload, 1) :: (28, .if_icmp .eq 5, 3) :: (31, .iconst 0, 1) :: (32, .ireturn, 1) :: k_X11_areAlike_33
def k_X11_areAlike : List CI := (0, .iconst 0, 1) :: (1, .istore_n 3, 1) :: k_X11_areAlike_2
def Y_X11_areAlike : MD := (yX11_areAlike, cX11_areAlike, 4, (some .boolean), k_X11_areAlike)
theorem cok_X11_areAlike : COK Y_X11_areAlike.2.1 Y_X11_areAlike.code = true := by decide +kernel
theorem mok_X11_areAlike : MOK Y_X11_areAlike 2 := ⟨mU_8 219 rfl rfl, mU_1 13 rfl rfl, by decide, by decide, by decide +kernel, by decide⟩
theorem ins_X11_areAlike : INST Y_X11_areAlike := ⟨mU_8 218 rfl rfl, mV_10 (n := 48) 2 rfl⟩
def k_X11_right_134 : List CI := (134, .ireturn, 1) :: []
def k_X11_right_133 : List CI := (133, .iload_n 2, 1) :: k_X11_right_134
def k_X11_right_115 : List CI := (115, .iload_n 1, 1) :: (116, .ifCond .ne 17, 3) :: (119, .aload_n 0, 1) :: (120, .getfield 23, 3) :: (123, .iconst 2, 1) :: (124, .iaload, 1) :: (125, .iload_n 2, 1) :: (126, .invokestatic 262, 3) :: (129, .isub, 1) :: (130, .goto 4, 3) :: k_X11_right_133
def k_X11_right_108 : List CI := (108, .istore_n 2, 1) :: (109, .iinc 3 1, 3) :: (112, .goto (-78), 3) :: k_X11_right_115
def k_X11_right_107 : List CI := (107, .iload_n 2, 1) :: k_X11_right_108
def k_X11_right_90 : List CI := (90, .iload 4, 2) :: (92, .invokestatic 262, 3) :: (95, .iload_n 2, 1) :: (96, .invokestatic 262, 3) :: (99, .if_icmp .le 8, 3) :: (102, .iload 4, 2) :: (104, .goto 4, 3) :: k_X11_right_107
def k_X11_right_81 : List CI := (81, .ior, 1) :: (82, .istore 4, 2) :: (84, .iinc 5 1, 3) :: (87, .goto (-37), 3) :: k_X11_right_90
def k_X11_right_80 : List CI := (80, .iconst 0, 1) :: k_X11_right_81
def k_X11_right_50 : List CI := (50, .iload 5, 2) :: (52, .aload_n 0, 1) :: (53, .getfield 23, 3) :: (56, .iconst 2, 1) :: (57, .iaload, 1) :: (58, .if_icmp .ge 32, 3) :: (61, .iload 4, 2) :: (63, .aload_n 0, 1) :: (64, .iload_n 3, 1) :: (65, .iload 5, 2) :: (67, .invokevirtual 309, 3) :: (70, .ifCond .eq 10, 3) :: (73, .iconst 1, 1) :: (74, .iload 5, 2) :: (76, .ishl, 1) :: (77, .goto 4, 3) :: k_X11_right_80
def k_X11_right_34 : List CI := (34, .iload_n 3, 1) :: (35, .aload_n 0, 1) :: (36, .getfield 23, 3) :: (39, .iconst 2, 1) :: (40, .iaload, 1) :: (41, .if_icmp .ge 74, 3) :: (44, .iconst 0, 1) :: (45, .istore 4, 2) :: (47, .iconst 0, 1) :: (48, .istore 5, 2) :: k_X11_right_50
def k_X11_right_30 : List CI := (30, .iconst 0, 1) :: (31, .istore_n 2, 1) :: (32, .iconst 0, 1) :: (33, .istore_n 3, 1) :: k_X11_right_34
def k_X11_right_20 : List CI := (20, .iconst 1, 1) :: (21, .iconst 2, 1) :: (22, .invokevirtual 180, 3) :: (25, .ifCond .eq 5, 3) :: (28, .iconst 0, 1) :: (29, .ireturn, 1) :: k_X11_right_30
def k_X11_right_19 : List CI := (19, .iconst 0, 1) :: k_X11_right_20
def k_X11_right : List CI := (0, .aload_n 0, 1) :: (1, .iconst 0, 1) :: (2, .putfield 107, 3) :: (5, .aload_n 0, 1) :: (6, .iload_n 1, 1) :: (7, .iconst 0, 1) :: (8, .iconst 1, 1) :: (9, .invokestatic 141, 3) :: (12, .ifCond .ne 7, 3) :: (15, .iconst 1, 1) :: (16, .goto 4, 3) :: k_X11_right_19
def Y_X11_right : MD := (yX11_right, cX11_right, 6, (some .int), k_X11_right)
theorem cok_X11_right : COK Y_X11_right.2.1 Y_X11_right.code = true := by decide +kernel
theorem mok_X11_right : MOK Y_X11_right 1 := ⟨mU_8 215 rfl rfl, mU_1 13 rfl rfl, by decide, by decide, by decide +kernel, by decide⟩
theorem ins_X11_right : INST Y_X11_right := ⟨mU_8 213 rfl rfl, mU_8 214 rfl rfl⟩
def k_X11_work_50 : List CI := (50, .aload_n 0, 1) :: (51, .getfield 80, 3) :: (54, .aload_n 0, 1) :: (55, .getfield 202, 3) :: (58, .aaload, 1) :: (59, .iconst 0, 1) :: (60, .iload_n 1, 1) :: (61, .iastore, 1) :: (62, .aload_n 0, 1) :: (63, .getfield 80, 3) :: (66, .aload_n 0, 1) :: (67, .getfield 202, 3) :: (70, .aaload, 1) :: (71, .iconst 1, 1) :: (72, .iload_n 2, 1) :: (73, .iastore, 1) :: (74, .aload_n 0, 1) :: (75, .dup, 1) :: (76, .getfield 202, 3) :: (79, .iconst 1, 1) :: (80, .iadd, 1) :: (81, .putfield 202, 3) :: (84, .aload_n 0, 1) :: (85, .getfield 202, 3) :: (88, .iconst 1, 1) :: (89, .isub, 1) :: (90, .ireturn, 1) :: []
def k_X11_work_39 : List CI := (39, .aload_n 0, 1) :: (40, .getfield 202, 3) :: (43, .bipush 8, 2) :: (45, .if_icmp .ne 5, 3) :: (48, .iconst (-1), 1) :: (49, .ireturn, 1) :: k_X11_work_50
def k_X11_work_29 : List CI := (29, .iconst 1, 1) :: (30, .iconst 2, 1) :: (31, .invokevirtual 180, 3) :: (34, .ifCond .eq 5, 3) :: (37, .iconst 0, 1) :: (38, .ireturn, 1) :: k_X11_work_39
def k_X11_work_28 : List CI := (28, .iconst 0, 1) :: k_X11_work_29
def k_X11_work_24 : List CI := (24, .iconst 1, 1) :: (25, .goto 4, 3) :: k_X11_work_28
def k_X11_work : List CI := (0, .aload_n 0, 1) :: (1, .iconst 0, 1) :: (2, .putfield 107, 3) :: (5, .aload_n 0, 1) :: (6, .iload_n 1, 1) :: (7, .iconst 1, 1) :: (8, .bipush 60, 2) :: (10, .invokestatic 141, 3) :: (13, .ifCond .eq 11, 3) :: (16, .aload_n 0, 1) :: (17, .iload_n 2, 1) :: (18, .invokevirtual 281, 3) :: (21, .ifCond .ne 7, 3) :: k_X11_work_24
def Y_X11_work : MD := (yX11_work, cX11_work, 3, (some .int), k_X11_work)
theorem cok_X11_work : COK Y_X11_work.2.1 Y_X11_work.code = true := by decide +kernel
theorem mok_X11_work : MOK Y_X11_work 2 := ⟨mU_8 223 rfl rfl, mU_1 13 rfl rfl, by decide, by decide, by decide +kernel, by decide⟩
theorem ins_X11_work : INST Y_X11_work := ⟨mU_8 221 rfl rfl, mU_8 222 rfl rfl⟩
def k_X11_isWork : List CI := (0, .iload_n 1, 1) :: (1, .iconst 0, 1) :: (2, .aload_n 0, 1) :: (3, .getfield 202, 3) :: (6, .iconst 1, 1) :: (7, .isub, 1) :: (8, .invokestatic 141, 3) :: (11, .ireturn, 1) :: []
def Y_X11_isWork : MD := (yX11_isWork, cX11_isWork, 2, (some .boolean), k_X11_isWork)
theorem cok_X11_isWork : COK Y_X11_isWork.2.1 Y_X11_isWork.code = true := by decide +kernel
theorem mok_X11_isWork : MOK Y_X11_isWork 1 := ⟨mU_8 231 rfl rfl, mU_1 13 rfl rfl, by decide, by decide, by decide +kernel, by decide⟩
theorem ins_X11_isWork : INST Y_X11_isWork := ⟨mU_8 230 rfl rfl, mV_10 (n := 48) 3 rfl⟩
def k_X11_isFree_19 : List CI := (19, .ireturn, 1) :: []
def k_X11_isFree_18 : List CI := (18, .iconst 0, 1) :: k_X11_isFree_19
def k_X11_isFree : List CI := (0, .aload_n 0, 1) :: (1, .aload_n 0, 1) :: (2, .iload_n 1, 1) :: (3, .invokevirtual 250, 3) :: (6, .invokevirtual 253, 3) :: (9, .iload_n 2, 1) :: (10, .iand, 1) :: (11, .ifCond .ne 7, 3) :: (14, .iconst 1, 1) :: (15, .goto 4, 3) :: k_X11_isFree_18
def Y_X11_isFree : MD := (yX11_isFree, cX11_isFree, 3, (some .boolean), k_X11_isFree)
theorem cok_X11_isFree : COK Y_X11_isFree.2.1 Y_X11_isFree.code = true := by decide +kernel
theorem mok_X11_isFree : MOK Y_X11_isFree 2 := ⟨mU_8 239 rfl rfl, mU_1 13 rfl rfl, by decide, by decide, by decide +kernel, by decide⟩
theorem ins_X11_isFree : INST Y_X11_isFree := ⟨mU_8 238 rfl rfl, mV_10 (n := 48) 5 rfl⟩
def k_X11_doneOf_92 : List CI := (92, .iconst (-1), 1) :: (93, .ireturn, 1) :: []
def k_X11_doneOf_86 : List CI := (86, .iinc 6 1, 3) :: (89, .goto (-60), 3) :: k_X11_doneOf_92
def k_X11_doneOf_71 : List CI := (71, .iinc 4 1, 3) :: (74, .iload 4, 2) :: (76, .iload 5, 2) :: (78, .bipush 10, 2) :: (80, .iadd, 1) :: (81, .if_icmp .le 5, 3) :: (84, .iconst (-1), 1) :: (85, .ireturn, 1) :: k_X11_doneOf_86
def k_X11_doneOf_29 : List CI := (29, .iload 6, 2) :: (31, .ldc 242, 2) :: (33, .if_icmp .gt 59, 3) :: (36, .iload 6, 2) :: (38, .ifCond .lt 54, 3) :: (41, .aload_n 0, 1) :: (42, .iload 6, 2) :: (44, .aload_n 0, 1) :: (45, .getfield 80, 3) :: (48, .iload_n 1, 1) :: (49, .aaload, 1) :: (50, .iconst 1, 1) :: (51, .iaload, 1) :: (52, .invokevirtual 312, 3) :: (55, .ifCond .eq 16, 3) :: (58, .iinc 3 (-1), 3) :: (61, .iconst 0, 1) :: (62, .istore 4, 2) :: (64, .iload_n 3, 1) :: (65, .ifCond .ne 21, 3) :: (68, .iload 6, 2) :: (70, .ireturn, 1) :: k_X11_doneOf_71
def k_X11_doneOf : List CI := (0, .aload_n 0, 1) :: (1, .getfield 80, 3) :: (4, .iload_n 1, 1) :: (5, .aaload, 1) :: (6, .iconst 0, 1) :: (7, .iaload, 1) :: (8, .istore_n 3, 1) :: (9, .iconst 0, 1) :: (10, .istore 4, 2) :: (12, .aload_n 0, 1) :: (13, .aload_n 0, 1) :: (14, .getfield 80, 3) :: (17, .iload_n 1, 1) :: (18, .aaload, 1) :: (19, .iconst 1, 1) :: (20, .iaload, 1) :: (21, .invokevirtual 287, 3) :: (24, .istore 5, 2) :: (26, .iload_n 2, 1) :: (27, .istore 6, 2) :: k_X11_doneOf_29
def Y_X11_doneOf : MD := (yX11_doneOf, cX11_doneOf, 7, (some .int), k_X11_doneOf)
theorem cok_X11_doneOf : COK Y_X11_doneOf.2.1 Y_X11_doneOf.code = true := by decide +kernel
theorem mok_X11_doneOf : MOK Y_X11_doneOf 2 := ⟨mU_8 235 rfl rfl, mU_1 13 rfl rfl, by decide, by decide, by decide +kernel, by decide⟩
theorem ins_X11_doneOf : INST Y_X11_doneOf := ⟨mU_8 234 rfl rfl, mV_10 (n := 48) 4 rfl⟩
def k_X11_done_50 : List CI := (50, .aload_n 0, 1) :: (51, .iload_n 1, 1) :: (52, .iload_n 2, 1) :: (53, .invokevirtual 318, 3) :: (56, .ireturn, 1) :: []
def k_X11_done_48 : List CI := (48, .iconst 0, 1) :: (49, .ireturn, 1) :: k_X11_done_50
def k_X11_done_40 : List CI := (40, .iconst 2, 1) :: (41, .iconst 1, 1) :: (42, .invokevirtual 180, 3) :: (45, .ifCond .eq 5, 3) :: k_X11_done_48
def k_X11_done_39 : List CI := (39, .iconst 0, 1) :: k_X11_done_40
def k_X11_done_18 : List CI := (18, .iconst 1, 1) :: (19, .iconst 0, 1) :: (20, .invokevirtual 180, 3) :: (23, .ifCond .ne 25, 3) :: (26, .aload_n 0, 1) :: (27, .aload_n 0, 1) :: (28, .iload_n 1, 1) :: (29, .invokevirtual 315, 3) :: (32, .ifCond .ne 7, 3) :: (35, .iconst 1, 1) :: (36, .goto 4, 3) :: k_X11_done_39
def k_X11_done_17 : List CI := (17, .iconst 0, 1) :: k_X11_done_18
def k_X11_done : List CI := (0, .aload_n 0, 1) :: (1, .iconst 0, 1) :: (2, .putfield 107, 3) :: (5, .aload_n 0, 1) :: (6, .iload_n 2, 1) :: (7, .invokestatic 247, 3) :: (10, .ifCond .ne 7, 3) :: (13, .iconst 1, 1) :: (14, .goto 4, 3) :: k_X11_done_17
def Y_X11_done : MD := (yX11_done, cX11_done, 3, (some .int), k_X11_done)
theorem cok_X11_done : COK Y_X11_done.2.1 Y_X11_done.code = true := by decide +kernel
theorem mok_X11_done : MOK Y_X11_done 2 := ⟨mU_8 227 rfl rfl, mU_1 13 rfl rfl, by decide, by decide, by decide +kernel, by decide⟩
theorem ins_X11_done : INST Y_X11_done := ⟨mU_8 225 rfl rfl, mU_8 226 rfl rfl⟩
def k_X11_begun_210 : List CI := (210, .iload_n 3, 1) :: (211, .ireturn, 1) :: []
def k_X11_begun_204 : List CI := (204, .iinc 7 1, 3) :: (207, .goto (-109), 3) :: k_X11_begun_210
def k_X11_begun_202 : List CI := (202, .istore 6, 2) :: k_X11_begun_204
def k_X11_begun_200 : List CI := (200, .iload 6, 2) :: k_X11_begun_202
def k_X11_begun_189 : List CI := (189, .iload 6, 2) :: (191, .ldc 242, 2) :: (193, .if_icmp .le 7, 3) :: (196, .iconst (-1), 1) :: (197, .goto 5, 3) :: k_X11_begun_200
def k_X11_begun_159 : List CI := (159, .iload 6, 2) :: (161, .ldc 242, 2) :: (163, .if_icmp .gt 26, 3) :: (166, .aload_n 0, 1) :: (167, .iload 6, 2) :: (169, .aload_n 0, 1) :: (170, .getfield 80, 3) :: (173, .iload_n 1, 1) :: (174, .aaload, 1) :: (175, .iconst 1, 1) :: (176, .iaload, 1) :: (177, .invokevirtual 312, 3) :: (180, .ifCond .ne 9, 3) :: (183, .iinc 6 1, 3) :: (186, .goto (-27), 3) :: k_X11_begun_189
def k_X11_begun_156 : List CI := (156, .iinc 6 1, 3) :: k_X11_begun_159
def k_X11_begun_136 : List CI := (136, .aload_n 0, 1) :: (137, .iload 7, 2) :: (139, .aload_n 0, 1) :: (140, .getfield 80, 3) :: (143, .iload_n 1, 1) :: (144, .aaload, 1) :: (145, .iconst 1, 1) :: (146, .iaload, 1) :: (147, .invokevirtual 312, 3) :: (150, .ifCond .ne 6, 3) :: (153, .goto 51, 3) :: k_X11_begun_156
def k_X11_begun_126 : List CI := (126, .iload 7, 2) :: (128, .istore_n 3, 1) :: (129, .iload 6, 2) :: (131, .iload 7, 2) :: (133, .isub, 1) :: (134, .istore 4, 2) :: k_X11_begun_136
def k_X11_begun_98 : List CI := (98, .iload 7, 2) :: (100, .iload 5, 2) :: (102, .if_icmp .gt 108, 3) :: (105, .iload 6, 2) :: (107, .iconst (-1), 1) :: (108, .if_icmp .eq 102, 3) :: (111, .iload_n 3, 1) :: (112, .iconst (-1), 1) :: (113, .if_icmp .eq 13, 3) :: (116, .iload 6, 2) :: (118, .iload 7, 2) :: (120, .isub, 1) :: (121, .iload 4, 2) :: (123, .if_icmp .ge 13, 3) :: k_X11_begun_126
def k_X11_begun_85 : List CI := (85, .istore 5, 2) :: (87, .aload_n 0, 1) :: (88, .iload_n 1, 1) :: (89, .iload_n 2, 1) :: (90, .invokevirtual 318, 3) :: (93, .istore 6, 2) :: (95, .iload_n 2, 1) :: (96, .istore 7, 2) :: k_X11_begun_98
def k_X11_begun_75 : List CI := (75, .iload_n 2, 1) :: (76, .aload_n 0, 1) :: (77, .getfield 23, 3) :: (80, .iconst 4, 1) :: (81, .iaload, 1) :: (82, .iadd, 1) :: (83, .iconst 1, 1) :: (84, .isub, 1) :: k_X11_begun_85
def k_X11_begun_50 : List CI := (50, .iconst (-1), 1) :: (51, .istore_n 3, 1) :: (52, .iconst 0, 1) :: (53, .istore 4, 2) :: (55, .iload_n 2, 1) :: (56, .ldc 242, 2) :: (58, .aload_n 0, 1) :: (59, .getfield 23, 3) :: (62, .iconst 4, 1) :: (63, .iaload, 1) :: (64, .isub, 1) :: (65, .iconst 1, 1) :: (66, .iadd, 1) :: (67, .if_icmp .le 8, 3) :: (70, .ldc 242, 2) :: (72, .goto 13, 3) :: k_X11_begun_75
def k_X11_begun_48 : List CI := (48, .iconst 0, 1) :: (49, .ireturn, 1) :: k_X11_begun_50
def k_X11_begun_40 : List CI := (40, .iconst 2, 1) :: (41, .iconst 1, 1) :: (42, .invokevirtual 180, 3) :: (45, .ifCond .eq 5, 3) :: k_X11_begun_48
def k_X11_begun_39 : List CI := (39, .iconst 0, 1) :: k_X11_begun_40
def k_X11_begun_18 : List CI := (18, .iconst 1, 1) :: (19, .iconst 0, 1) :: (20, .invokevirtual 180, 3) :: (23, .ifCond .ne 25, 3) :: (26, .aload_n 0, 1) :: (27, .aload_n 0, 1) :: (28, .iload_n 1, 1) :: (29, .invokevirtual 315, 3) :: (32, .ifCond .ne 7, 3) :: (35, .iconst 1, 1) :: (36, .goto 4, 3) :: k_X11_begun_39
def k_X11_begun_17 : List CI := (17, .iconst 0, 1) :: k_X11_begun_18
def k_X11_begun : List CI := (0, .aload_n 0, 1) :: (1, .iconst 0, 1) :: (2, .putfield 107, 3) :: (5, .aload_n 0, 1) :: (6, .iload_n 2, 1) :: (7, .invokestatic 247, 3) :: (10, .ifCond .ne 7, 3) :: (13, .iconst 1, 1) :: (14, .goto 4, 3) :: k_X11_begun_17
def Y_X11_begun : MD := (yX11_begun, cX11_begun, 8, (some .int), k_X11_begun)
theorem cok_X11_begun : COK Y_X11_begun.2.1 Y_X11_begun.code = true := by decide +kernel
theorem mok_X11_begun : MOK Y_X11_begun 2 := ⟨mU_9 3 rfl rfl, mU_1 13 rfl rfl, by decide, by decide, by decide +kernel, by decide⟩
theorem ins_X11_begun : INST Y_X11_begun := ⟨mU_9 1 rfl rfl, mU_9 2 rfl rfl⟩
def k_X11_laysEarly_131 : List CI := (131, .return_, 1) :: []
def k_X11_laysEarly_125 : List CI := (125, .iinc 2 1, 3) :: (128, .goto (-126), 3) :: k_X11_laysEarly_131
def k_X11_laysEarly_119 : List CI := (119, .iinc 3 1, 3) :: (122, .goto (-93), 3) :: k_X11_laysEarly_125
def k_X11_laysEarly_109 : List CI := (109, .aload_n 0, 1) :: (110, .getfield 98, 3) :: (113, .iload_n 2, 1) :: (114, .iload 5, 2) :: (116, .iconst 1, 1) :: (117, .iadd, 1) :: (118, .iastore, 1) :: k_X11_laysEarly_119
def k_X11_laysEarly_66 : List CI := (66, .aload_n 0, 1) :: (67, .iload_n 3, 1) :: (68, .aload_n 0, 1) :: (69, .getfield 98, 3) :: (72, .iload 4, 2) :: (74, .iaload, 1) :: (75, .invokevirtual 318, 3) :: (78, .istore 5, 2) :: (80, .iload 5, 2) :: (82, .iconst (-1), 1) :: (83, .if_icmp .eq 36, 3) :: (86, .aload_n 0, 1) :: (87, .getfield 98, 3) :: (90, .iload_n 2, 1) :: (91, .iaload, 1) :: (92, .iconst (-1), 1) :: (93, .if_icmp .eq 16, 3) :: (96, .iload 5, 2) :: (98, .iconst 1, 1) :: (99, .iadd, 1) :: (100, .aload_n 0, 1) :: (101, .getfield 98, 3) :: (104, .iload_n 2, 1) :: (105, .iaload, 1) :: (106, .if_icmp .ge 13, 3) :: k_X11_laysEarly_109
def k_X11_laysEarly_29 : List CI := (29, .iload_n 3, 1) :: (30, .aload_n 0, 1) :: (31, .getfield 202, 3) :: (34, .if_icmp .ge 91, 3) :: (37, .iload_n 2, 1) :: (38, .iconst 1, 1) :: (39, .iload_n 3, 1) :: (40, .ishl, 1) :: (41, .iconst (-1), 1) :: (42, .ixor, 1) :: (43, .iand, 1) :: (44, .istore 4, 2) :: (46, .iload 4, 2) :: (48, .iload_n 2, 1) :: (49, .if_icmp .eq 70, 3) :: (52, .aload_n 0, 1) :: (53, .getfield 98, 3) :: (56, .iload 4, 2) :: (58, .iaload, 1) :: (59, .iconst (-1), 1) :: (60, .if_icmp .ne 6, 3) :: (63, .goto 56, 3) :: k_X11_laysEarly_66
def k_X11_laysEarly_26 : List CI := (26, .iastore, 1) :: (27, .iconst 0, 1) :: (28, .istore_n 3, 1) :: k_X11_laysEarly_29
def k_X11_laysEarly_25 : List CI := (25, .iconst (-1), 1) :: k_X11_laysEarly_26
def k_X11_laysEarly_2 : List CI := (2, .iload_n 2, 1) :: (3, .iconst 1, 1) :: (4, .aload_n 0, 1) :: (5, .getfield 202, 3) :: (8, .ishl, 1) :: (9, .if_icmp .ge 122, 3) :: (12, .aload_n 0, 1) :: (13, .getfield 98, 3) :: (16, .iload_n 2, 1) :: (17, .iload_n 2, 1) :: (18, .ifCond .ne 7, 3) :: (21, .iload_n 1, 1) :: (22, .goto 4, 3) :: k_X11_laysEarly_25
def k_X11_laysEarly : List CI := (0, .iconst 0, 1) :: (1, .istore_n 2, 1) :: k_X11_laysEarly_2
def Y_X11_laysEarly : MD := (yX11_laysEarly, cX11_laysEarly, 6, none, k_X11_laysEarly)
theorem cok_X11_laysEarly : COK Y_X11_laysEarly.2.1 Y_X11_laysEarly.code = true := by decide +kernel
theorem mok_X11_laysEarly : MOK Y_X11_laysEarly 1 := ⟨mU_9 11 rfl rfl, mU_1 13 rfl rfl, by decide, by decide, by decide +kernel, by decide⟩
theorem ins_X11_laysEarly : INST Y_X11_laysEarly := ⟨mU_9 10 rfl rfl, mV_10 (n := 48) 6 rfl⟩
def k_X11_latestOf_85 : List CI := (85, .iconst (-1), 1) :: (86, .ireturn, 1) :: []
def k_X11_latestOf_79 : List CI := (79, .iinc 6 (-1), 3) :: (82, .goto (-53), 3) :: k_X11_latestOf_85
def k_X11_latestOf_66 : List CI := (66, .iinc 3 (-1), 3) :: (69, .iconst 0, 1) :: (70, .istore 4, 2) :: (72, .iload_n 3, 1) :: (73, .ifCond .ne 6, 3) :: (76, .iload 6, 2) :: (78, .ireturn, 1) :: k_X11_latestOf_79
def k_X11_latestOf_29 : List CI := (29, .iload 6, 2) :: (31, .ifCond .lt 54, 3) :: (34, .aload_n 0, 1) :: (35, .iload 6, 2) :: (37, .aload_n 0, 1) :: (38, .getfield 80, 3) :: (41, .iload_n 1, 1) :: (42, .aaload, 1) :: (43, .iconst 1, 1) :: (44, .iaload, 1) :: (45, .invokevirtual 312, 3) :: (48, .ifCond .ne 18, 3) :: (51, .iinc 4 1, 3) :: (54, .iload 4, 2) :: (56, .iload 5, 2) :: (58, .bipush 10, 2) :: (60, .iadd, 1) :: (61, .if_icmp .le 18, 3) :: (64, .iconst (-1), 1) :: (65, .ireturn, 1) :: k_X11_latestOf_66
def k_X11_latestOf : List CI := (0, .aload_n 0, 1) :: (1, .getfield 80, 3) :: (4, .iload_n 1, 1) :: (5, .aaload, 1) :: (6, .iconst 0, 1) :: (7, .iaload, 1) :: (8, .istore_n 3, 1) :: (9, .iconst 0, 1) :: (10, .istore 4, 2) :: (12, .aload_n 0, 1) :: (13, .aload_n 0, 1) :: (14, .getfield 80, 3) :: (17, .iload_n 1, 1) :: (18, .aaload, 1) :: (19, .iconst 1, 1) :: (20, .iaload, 1) :: (21, .invokevirtual 287, 3) :: (24, .istore 5, 2) :: (26, .iload_n 2, 1) :: (27, .istore 6, 2) :: k_X11_latestOf_29
def Y_X11_latestOf : MD := (yX11_latestOf, cX11_latestOf, 7, (some .int), k_X11_latestOf)
theorem cok_X11_latestOf : COK Y_X11_latestOf.2.1 Y_X11_latestOf.code = true := by decide +kernel
theorem mok_X11_latestOf : MOK Y_X11_latestOf 2 := ⟨mU_9 19 rfl rfl, mU_1 13 rfl rfl, by decide, by decide, by decide +kernel, by decide⟩
theorem ins_X11_latestOf : INST Y_X11_latestOf := ⟨mU_9 18 rfl rfl, mV_10 (n := 48) 8 rfl⟩
def k_X11_laysLate_122 : List CI := (122, .return_, 1) :: []
def k_X11_laysLate_116 : List CI := (116, .iinc 2 1, 3) :: (119, .goto (-117), 3) :: k_X11_laysLate_122
def k_X11_laysLate_110 : List CI := (110, .iinc 3 1, 3) :: (113, .goto (-84), 3) :: k_X11_laysLate_116
def k_X11_laysLate_109 : List CI := (109, .iastore, 1) :: k_X11_laysLate_110
def k_X11_laysLate_103 : List CI := (103, .aload_n 0, 1) :: (104, .getfield 101, 3) :: (107, .iload_n 2, 1) :: (108, .iaload, 1) :: k_X11_laysLate_109
def k_X11_laysLate_66 : List CI := (66, .aload_n 0, 1) :: (67, .iload_n 3, 1) :: (68, .aload_n 0, 1) :: (69, .getfield 101, 3) :: (72, .iload 4, 2) :: (74, .iaload, 1) :: (75, .iconst 1, 1) :: (76, .isub, 1) :: (77, .invokevirtual 321, 3) :: (80, .istore 5, 2) :: (82, .aload_n 0, 1) :: (83, .getfield 101, 3) :: (86, .iload_n 2, 1) :: (87, .iload 5, 2) :: (89, .aload_n 0, 1) :: (90, .getfield 101, 3) :: (93, .iload_n 2, 1) :: (94, .iaload, 1) :: (95, .if_icmp .le 8, 3) :: (98, .iload 5, 2) :: (100, .goto 9, 3) :: k_X11_laysLate_103
def k_X11_laysLate_29 : List CI := (29, .iload_n 3, 1) :: (30, .aload_n 0, 1) :: (31, .getfield 202, 3) :: (34, .if_icmp .ge 82, 3) :: (37, .iload_n 2, 1) :: (38, .iconst 1, 1) :: (39, .iload_n 3, 1) :: (40, .ishl, 1) :: (41, .iconst (-1), 1) :: (42, .ixor, 1) :: (43, .iand, 1) :: (44, .istore 4, 2) :: (46, .iload 4, 2) :: (48, .iload_n 2, 1) :: (49, .if_icmp .eq 61, 3) :: (52, .aload_n 0, 1) :: (53, .getfield 101, 3) :: (56, .iload 4, 2) :: (58, .iaload, 1) :: (59, .iconst (-1), 1) :: (60, .if_icmp .ne 6, 3) :: (63, .goto 47, 3) :: k_X11_laysLate_66
def k_X11_laysLate_26 : List CI := (26, .iastore, 1) :: (27, .iconst 0, 1) :: (28, .istore_n 3, 1) :: k_X11_laysLate_29
def k_X11_laysLate_25 : List CI := (25, .iconst (-1), 1) :: k_X11_laysLate_26
def k_X11_laysLate_2 : List CI := (2, .iload_n 2, 1) :: (3, .iconst 1, 1) :: (4, .aload_n 0, 1) :: (5, .getfield 202, 3) :: (8, .ishl, 1) :: (9, .if_icmp .ge 113, 3) :: (12, .aload_n 0, 1) :: (13, .getfield 101, 3) :: (16, .iload_n 2, 1) :: (17, .iload_n 2, 1) :: (18, .ifCond .ne 7, 3) :: (21, .iload_n 1, 1) :: (22, .goto 4, 3) :: k_X11_laysLate_25
def k_X11_laysLate : List CI := (0, .iconst 0, 1) :: (1, .istore_n 2, 1) :: k_X11_laysLate_2
def Y_X11_laysLate : MD := (yX11_laysLate, cX11_laysLate, 6, none, k_X11_laysLate)
theorem cok_X11_laysLate : COK Y_X11_laysLate.2.1 Y_X11_laysLate.code = true := by decide +kernel
theorem mok_X11_laysLate : MOK Y_X11_laysLate 1 := ⟨mU_9 15 rfl rfl, mU_1 13 rfl rfl, by decide, by decide, by decide +kernel, by decide⟩
theorem ins_X11_laysLate : INST Y_X11_laysLate := ⟨mU_9 14 rfl rfl, mV_10 (n := 48) 7 rfl⟩
def k_X11_orderOf_128 : List CI := (128, .iload 4, 2) :: (130, .ireturn, 1) :: []
def k_X11_orderOf_98 : List CI := (98, .iload_n 2, 1) :: (99, .iconst 1, 1) :: (100, .iload 6, 2) :: (102, .ishl, 1) :: (103, .iconst (-1), 1) :: (104, .ixor, 1) :: (105, .iand, 1) :: (106, .istore_n 2, 1) :: (107, .iload 7, 2) :: (109, .iconst 1, 1) :: (110, .iadd, 1) :: (111, .istore_n 3, 1) :: (112, .bipush 10, 2) :: (114, .iload 4, 2) :: (116, .imul, 1) :: (117, .iload 6, 2) :: (119, .iadd, 1) :: (120, .istore 4, 2) :: (122, .iinc 5 1, 3) :: (125, .goto (-108), 3) :: k_X11_orderOf_128
def k_X11_orderOf_92 : List CI := (92, .iinc 6 1, 3) :: (95, .goto (-63), 3) :: k_X11_orderOf_98
def k_X11_orderOf_61 : List CI := (61, .istore 7, 2) :: (63, .iload 7, 2) :: (65, .iconst (-1), 1) :: (66, .if_icmp .eq 26, 3) :: (69, .iload 7, 2) :: (71, .iconst 1, 1) :: (72, .iadd, 1) :: (73, .aload_n 0, 1) :: (74, .getfield 101, 3) :: (77, .iload_n 2, 1) :: (78, .iconst 1, 1) :: (79, .iload 6, 2) :: (81, .ishl, 1) :: (82, .iconst (-1), 1) :: (83, .ixor, 1) :: (84, .iand, 1) :: (85, .iaload, 1) :: (86, .if_icmp .gt 6, 3) :: (89, .goto 9, 3) :: k_X11_orderOf_92
def k_X11_orderOf_54 : List CI := (54, .aload_n 0, 1) :: (55, .iload 6, 2) :: (57, .iload_n 3, 1) :: (58, .invokevirtual 318, 3) :: k_X11_orderOf_61
def k_X11_orderOf_32 : List CI := (32, .iload 6, 2) :: (34, .aload_n 0, 1) :: (35, .getfield 202, 3) :: (38, .if_icmp .ge 60, 3) :: (41, .iload_n 2, 1) :: (42, .iload 6, 2) :: (44, .ishr, 1) :: (45, .iconst 1, 1) :: (46, .iand, 1) :: (47, .ifCond .ne 7, 3) :: (50, .iconst (-1), 1) :: (51, .goto 10, 3) :: k_X11_orderOf_54
def k_X11_orderOf_17 : List CI := (17, .iload 5, 2) :: (19, .aload_n 0, 1) :: (20, .getfield 202, 3) :: (23, .if_icmp .ge 105, 3) :: (26, .iconst 0, 1) :: (27, .istore 6, 2) :: (29, .iconst (-1), 1) :: (30, .istore 7, 2) :: k_X11_orderOf_32
def k_X11_orderOf : List CI := (0, .iconst 1, 1) :: (1, .aload_n 0, 1) :: (2, .getfield 202, 3) :: (5, .ishl, 1) :: (6, .iconst 1, 1) :: (7, .isub, 1) :: (8, .istore_n 2, 1) :: (9, .iload_n 1, 1) :: (10, .istore_n 3, 1) :: (11, .iconst 0, 1) :: (12, .istore 4, 2) :: (14, .iconst 0, 1) :: (15, .istore 5, 2) :: k_X11_orderOf_17
def Y_X11_orderOf : MD := (yX11_orderOf, cX11_orderOf, 8, (some .int), k_X11_orderOf)
theorem cok_X11_orderOf : COK Y_X11_orderOf.2.1 Y_X11_orderOf.code = true := by decide +kernel
theorem mok_X11_orderOf : MOK Y_X11_orderOf 1 := ⟨mU_9 23 rfl rfl, mU_1 13 rfl rfl, by decide, by decide, by decide +kernel, by decide⟩
theorem ins_X11_orderOf : INST Y_X11_orderOf := ⟨mU_9 22 rfl rfl, mV_10 (n := 48) 9 rfl⟩
def k_X11_soonest_111 : List CI := (111, .aload_n 0, 1) :: (112, .iload_n 3, 1) :: (113, .invokevirtual 327, 3) :: (116, .aload_n 0, 1) :: (117, .iload_n 1, 1) :: (118, .invokevirtual 330, 3) :: (121, .ireturn, 1) :: []
def k_X11_soonest_110 : List CI := (110, .ireturn, 1) :: k_X11_soonest_111
def k_X11_soonest_107 : List CI := (107, .iload_n 3, 1) :: (108, .iconst 1, 1) :: (109, .isub, 1) :: k_X11_soonest_110
def k_X11_soonest_98 : List CI := (98, .iload_n 3, 1) :: (99, .iconst (-1), 1) :: (100, .if_icmp .ne 7, 3) :: (103, .iconst (-1), 1) :: (104, .goto 6, 3) :: k_X11_soonest_107
def k_X11_soonest_70 : List CI := (70, .aload_n 0, 1) :: (71, .iload_n 1, 1) :: (72, .invokevirtual 324, 3) :: (75, .aload_n 0, 1) :: (76, .getfield 98, 3) :: (79, .iconst 1, 1) :: (80, .aload_n 0, 1) :: (81, .getfield 202, 3) :: (84, .ishl, 1) :: (85, .iconst 1, 1) :: (86, .isub, 1) :: (87, .iaload, 1) :: (88, .istore_n 3, 1) :: (89, .iload_n 3, 1) :: (90, .iconst (-1), 1) :: (91, .if_icmp .eq 7, 3) :: (94, .iload_n 2, 1) :: (95, .ifCond .ne 16, 3) :: k_X11_soonest_98
def k_X11_soonest_69 : List CI := (69, .ireturn, 1) :: k_X11_soonest_70
def k_X11_soonest_68 : List CI := (68, .iconst 0, 1) :: k_X11_soonest_69
def k_X11_soonest_51 : List CI := (51, .aload_n 0, 1) :: (52, .getfield 202, 3) :: (55, .ifCond .ne 15, 3) :: (58, .iload_n 2, 1) :: (59, .ifCond .ne 9, 3) :: (62, .iload_n 1, 1) :: (63, .iconst 1, 1) :: (64, .isub, 1) :: (65, .goto 4, 3) :: k_X11_soonest_68
def k_X11_soonest_49 : List CI := (49, .iconst 0, 1) :: (50, .ireturn, 1) :: k_X11_soonest_51
def k_X11_soonest_41 : List CI := (41, .iconst 2, 1) :: (42, .iconst 2, 1) :: (43, .invokevirtual 180, 3) :: (46, .ifCond .eq 5, 3) :: k_X11_soonest_49
def k_X11_soonest_40 : List CI := (40, .iconst 0, 1) :: k_X11_soonest_41
def k_X11_soonest_18 : List CI := (18, .iconst 1, 1) :: (19, .iconst 0, 1) :: (20, .invokevirtual 180, 3) :: (23, .ifCond .ne 26, 3) :: (26, .aload_n 0, 1) :: (27, .iload_n 2, 1) :: (28, .iconst 0, 1) :: (29, .iconst 1, 1) :: (30, .invokestatic 141, 3) :: (33, .ifCond .ne 7, 3) :: (36, .iconst 1, 1) :: (37, .goto 4, 3) :: k_X11_soonest_40
def k_X11_soonest_17 : List CI := (17, .iconst 0, 1) :: k_X11_soonest_18
def k_X11_soonest : List CI := (0, .aload_n 0, 1) :: (1, .iconst 0, 1) :: (2, .putfield 107, 3) :: (5, .aload_n 0, 1) :: (6, .iload_n 1, 1) :: (7, .invokestatic 247, 3) :: (10, .ifCond .ne 7, 3) :: (13, .iconst 1, 1) :: (14, .goto 4, 3) :: k_X11_soonest_17
def Y_X11_soonest : MD := (yX11_soonest, cX11_soonest, 4, (some .int), k_X11_soonest)
theorem cok_X11_soonest : COK Y_X11_soonest.2.1 Y_X11_soonest.code = true := by decide +kernel
theorem mok_X11_soonest : MOK Y_X11_soonest 2 := ⟨mU_9 7 rfl rfl, mU_1 13 rfl rfl, by decide, by decide, by decide +kernel, by decide⟩
theorem ins_X11_soonest : INST Y_X11_soonest := ⟨mU_9 5 rfl rfl, mU_9 6 rfl rfl⟩
def k_X11_rest : List CI := (0, .aload_n 0, 1) :: (1, .iconst 0, 1) :: (2, .putfield 107, 3) :: (5, .aload_n 0, 1) :: (6, .getfield 202, 3) :: (9, .istore_n 1, 1) :: (10, .aload_n 0, 1) :: (11, .iconst 0, 1) :: (12, .putfield 202, 3) :: (15, .iload_n 1, 1) :: (16, .ireturn, 1) :: []
def Y_X11_rest : MD := (yX11_rest, cX11_rest, 2, (some .int), k_X11_rest)
theorem cok_X11_rest : COK Y_X11_rest.2.1 Y_X11_rest.code = true := by decide +kernel
theorem mok_X11_rest : MOK Y_X11_rest 0 := ⟨mU_9 27 rfl rfl, mU_1 13 rfl rfl, by decide, by decide, by decide +kernel, by decide⟩
theorem ins_X11_rest : INST Y_X11_rest := ⟨mU_9 25 rfl rfl, mU_9 26 rfl rfl⟩
def k_X11_badTwo_54 : List CI := (54, .ireturn, 1) :: []
def k_X11_badTwo_53 : List CI := (53, .iconst 0, 1) :: k_X11_badTwo_54
def k_X11_badTwo_49 : List CI := (49, .iconst 1, 1) :: (50, .goto 4, 3) :: k_X11_badTwo_53
def k_X11_badTwo_41 : List CI := (41, .iconst 2, 1) :: (42, .iconst 2, 1) :: (43, .invokevirtual 180, 3) :: (46, .ifCond .eq 7, 3) :: k_X11_badTwo_49
def k_X11_badTwo_40 : List CI := (40, .iconst 0, 1) :: k_X11_badTwo_41
def k_X11_badTwo_22 : List CI := (22, .iconst 1, 1) :: (23, .iconst 1, 1) :: (24, .invokevirtual 180, 3) :: (27, .ifCond .ne 22, 3) :: (30, .aload_n 0, 1) :: (31, .iload_n 1, 1) :: (32, .iload_n 2, 1) :: (33, .if_icmp .ne 7, 3) :: (36, .iconst 1, 1) :: (37, .goto 4, 3) :: k_X11_badTwo_40
def k_X11_badTwo_21 : List CI := (21, .iconst 0, 1) :: k_X11_badTwo_22
def k_X11_badTwo_17 : List CI := (17, .iconst 1, 1) :: (18, .goto 4, 3) :: k_X11_badTwo_21
def k_X11_badTwo : List CI := (0, .aload_n 0, 1) :: (1, .aload_n 0, 1) :: (2, .iload_n 1, 1) :: (3, .invokevirtual 236, 3) :: (6, .ifCond .eq 11, 3) :: (9, .aload_n 0, 1) :: (10, .iload_n 2, 1) :: (11, .invokevirtual 236, 3) :: (14, .ifCond .ne 7, 3) :: k_X11_badTwo_17
def Y_X11_badTwo : MD := (yX11_badTwo, cX11_badTwo, 3, (some .boolean), k_X11_badTwo)
theorem cok_X11_badTwo : COK Y_X11_badTwo.2.1 Y_X11_badTwo.code = true := by decide +kernel
theorem mok_X11_badTwo : MOK Y_X11_badTwo 2 := ⟨mU_9 35 rfl rfl, mU_1 13 rfl rfl, by decide, by decide, by decide +kernel, by decide⟩
theorem ins_X11_badTwo : INST Y_X11_badTwo := ⟨mU_9 34 rfl rfl, mV_10 (n := 48) 10 rfl⟩
def k_X11_isThiefs_23 : List CI := (23, .ireturn, 1) :: []
def k_X11_isThiefs_22 : List CI := (22, .iconst 0, 1) :: k_X11_isThiefs_23
def k_X11_isThiefs : List CI := (0, .aload_n 0, 1) :: (1, .iload_n 1, 1) :: (2, .iload_n 3, 1) :: (3, .invokevirtual 243, 3) :: (6, .ifCond .eq 16, 3) :: (9, .aload_n 0, 1) :: (10, .iload_n 2, 1) :: (11, .iload_n 3, 1) :: (12, .invokevirtual 243, 3) :: (15, .ifCond .ne 7, 3) :: (18, .iconst 1, 1) :: (19, .goto 4, 3) :: k_X11_isThiefs_22
def Y_X11_isThiefs : MD := (yX11_isThiefs, cX11_isThiefs, 4, (some .boolean), k_X11_isThiefs)
theorem cok_X11_isThiefs : COK Y_X11_isThiefs.2.1 Y_X11_isThiefs.code = true := by decide +kernel
theorem mok_X11_isThiefs : MOK Y_X11_isThiefs 3 := ⟨mU_9 39 rfl rfl, mU_1 13 rfl rfl, by decide, by decide, by decide +kernel, by decide⟩
theorem ins_X11_isThiefs : INST Y_X11_isThiefs := ⟨mU_9 38 rfl rfl, mV_10 (n := 48) 11 rfl⟩
def k_X11_thief_57 : List CI := (57, .iload_n 3, 1) :: (58, .ireturn, 1) :: []
def k_X11_thief_49 : List CI := (49, .iadd, 1) :: (50, .istore_n 3, 1) :: (51, .iinc 4 1, 3) :: (54, .goto (-33), 3) :: k_X11_thief_57
def k_X11_thief_48 : List CI := (48, .iconst 0, 1) :: k_X11_thief_49
def k_X11_thief_21 : List CI := (21, .iload 4, 2) :: (23, .aload_n 0, 1) :: (24, .getfield 23, 3) :: (27, .iconst 4, 1) :: (28, .iaload, 1) :: (29, .if_icmp .ge 28, 3) :: (32, .iload_n 3, 1) :: (33, .aload_n 0, 1) :: (34, .iload_n 1, 1) :: (35, .iload_n 2, 1) :: (36, .iload 4, 2) :: (38, .invokevirtual 336, 3) :: (41, .ifCond .eq 7, 3) :: (44, .iconst 1, 1) :: (45, .goto 4, 3) :: k_X11_thief_48
def k_X11_thief_16 : List CI := (16, .iconst 0, 1) :: (17, .istore_n 3, 1) :: (18, .iconst 0, 1) :: (19, .istore 4, 2) :: k_X11_thief_21
def k_X11_thief : List CI := (0, .aload_n 0, 1) :: (1, .iconst 0, 1) :: (2, .putfield 107, 3) :: (5, .aload_n 0, 1) :: (6, .iload_n 1, 1) :: (7, .iload_n 2, 1) :: (8, .invokevirtual 333, 3) :: (11, .ifCond .eq 5, 3) :: (14, .iconst 0, 1) :: (15, .ireturn, 1) :: k_X11_thief_16
def Y_X11_thief : MD := (yX11_thief, cX11_thief, 5, (some .int), k_X11_thief)
theorem cok_X11_thief : COK Y_X11_thief.2.1 Y_X11_thief.code = true := by decide +kernel
theorem mok_X11_thief : MOK Y_X11_thief 2 := ⟨mU_9 31 rfl rfl, mU_1 13 rfl rfl, by decide, by decide, by decide +kernel, by decide⟩
theorem ins_X11_thief : INST Y_X11_thief := ⟨mU_9 29 rfl rfl, mU_9 30 rfl rfl⟩
def k_X11_guard_129 : List CI := (129, .iconst (-1), 1) :: (130, .ireturn, 1) :: []
def k_X11_guard_123 : List CI := (123, .iinc 6 (-1), 3) :: (126, .goto (-29), 3) :: k_X11_guard_129
def k_X11_guard_97 : List CI := (97, .iload 6, 2) :: (99, .iconst 1, 1) :: (100, .if_icmp .le 29, 3) :: (103, .iload 5, 2) :: (105, .iload 6, 2) :: (107, .irem, 1) :: (108, .ifCond .ne 15, 3) :: (111, .bipush 100, 2) :: (113, .iload 6, 2) :: (115, .imul, 1) :: (116, .iload 4, 2) :: (118, .iload 6, 2) :: (120, .irem, 1) :: (121, .iadd, 1) :: (122, .ireturn, 1) :: k_X11_guard_123
def k_X11_guard_93 : List CI := (93, .bipush 24, 2) :: (95, .istore 6, 2) :: k_X11_guard_97
def k_X11_guard_85 : List CI := (85, .iload 4, 2) :: (87, .iconst (-1), 1) :: (88, .if_icmp .ne 5, 3) :: (91, .iconst (-1), 1) :: (92, .ireturn, 1) :: k_X11_guard_93
def k_X11_guard_79 : List CI := (79, .iinc 6 1, 3) :: (82, .goto (-50), 3) :: k_X11_guard_85
def k_X11_guard_65 : List CI := (65, .istore 4, 2) :: (67, .iload 5, 2) :: (69, .iload 6, 2) :: (71, .iload 4, 2) :: (73, .isub, 1) :: (74, .invokestatic 164, 3) :: (77, .istore 5, 2) :: k_X11_guard_79
def k_X11_guard_63 : List CI := (63, .iload 4, 2) :: k_X11_guard_65
def k_X11_guard_52 : List CI := (52, .iload 4, 2) :: (54, .iconst (-1), 1) :: (55, .if_icmp .ne 8, 3) :: (58, .iload 6, 2) :: (60, .goto 5, 3) :: k_X11_guard_63
def k_X11_guard_32 : List CI := (32, .iload 6, 2) :: (34, .iload_n 3, 1) :: (35, .if_icmp .ge 50, 3) :: (38, .aload_n 0, 1) :: (39, .iload_n 1, 1) :: (40, .iload_n 2, 1) :: (41, .iload 6, 2) :: (43, .invokevirtual 336, 3) :: (46, .ifCond .ne 6, 3) :: (49, .goto 30, 3) :: k_X11_guard_52
def k_X11_guard_16 : List CI := (16, .aload_n 0, 1) :: (17, .getfield 23, 3) :: (20, .iconst 4, 1) :: (21, .iaload, 1) :: (22, .istore_n 3, 1) :: (23, .iconst (-1), 1) :: (24, .istore 4, 2) :: (26, .iload_n 3, 1) :: (27, .istore 5, 2) :: (29, .iconst 0, 1) :: (30, .istore 6, 2) :: k_X11_guard_32
def k_X11_guard : List CI := (0, .aload_n 0, 1) :: (1, .iconst 0, 1) :: (2, .putfield 107, 3) :: (5, .aload_n 0, 1) :: (6, .iload_n 1, 1) :: (7, .iload_n 2, 1) :: (8, .invokevirtual 333, 3) :: (11, .ifCond .eq 5, 3) :: (14, .iconst 0, 1) :: (15, .ireturn, 1) :: k_X11_guard_16
def Y_X11_guard : MD := (yX11_guard, cX11_guard, 7, (some .int), k_X11_guard)
theorem cok_X11_guard : COK Y_X11_guard.2.1 Y_X11_guard.code = true := by decide +kernel
theorem mok_X11_guard : MOK Y_X11_guard 2 := ⟨mU_9 43 rfl rfl, mU_1 13 rfl rfl, by decide, by decide, by decide +kernel, by decide⟩
theorem ins_X11_guard : INST Y_X11_guard := ⟨mU_9 41 rfl rfl, mU_9 42 rfl rfl⟩
def k_X11_isTrade_57 : List CI := (57, .ireturn, 1) :: []
def k_X11_isTrade_56 : List CI := (56, .iconst 0, 1) :: k_X11_isTrade_57
def k_X11_isTrade_42 : List CI := (42, .aload_n 0, 1) :: (43, .iload_n 1, 1) :: (44, .invokevirtual 253, 3) :: (47, .iload_n 2, 1) :: (48, .iand, 1) :: (49, .ifCond .ne 7, 3) :: (52, .iconst 1, 1) :: (53, .goto 4, 3) :: k_X11_isTrade_56
def k_X11_isTrade_36 : List CI := (36, .iinc 4 1, 3) :: (39, .goto (-36), 3) :: k_X11_isTrade_42
def k_X11_isTrade_3 : List CI := (3, .iload 4, 2) :: (5, .aload_n 0, 1) :: (6, .getfield 23, 3) :: (9, .iconst 1, 1) :: (10, .iaload, 1) :: (11, .if_icmp .ge 31, 3) :: (14, .iload_n 3, 1) :: (15, .iload 4, 2) :: (17, .ishr, 1) :: (18, .iconst 1, 1) :: (19, .iand, 1) :: (20, .iconst 1, 1) :: (21, .if_icmp .ne 15, 3) :: (24, .aload_n 0, 1) :: (25, .iload 4, 2) :: (27, .iload_n 1, 1) :: (28, .invokevirtual 265, 3) :: (31, .ifCond .eq 5, 3) :: (34, .iconst 0, 1) :: (35, .ireturn, 1) :: k_X11_isTrade_36
def k_X11_isTrade : List CI := (0, .iconst 0, 1) :: (1, .istore 4, 2) :: k_X11_isTrade_3
def Y_X11_isTrade : MD := (yX11_isTrade, cX11_isTrade, 5, (some .boolean), k_X11_isTrade)
theorem cok_X11_isTrade : COK Y_X11_isTrade.2.1 Y_X11_isTrade.code = true := by decide +kernel
theorem mok_X11_isTrade : MOK Y_X11_isTrade 3 := ⟨mU_9 55 rfl rfl, mU_1 13 rfl rfl, by decide, by decide, by decide +kernel, by decide⟩
theorem ins_X11_isTrade : INST Y_X11_isTrade := ⟨mU_9 54 rfl rfl, mV_10 (n := 48) 13 rfl⟩
def k_X11_areOthers : List CI := (0, .iload_n 1, 1) :: (1, .iconst 0, 1) :: (2, .iconst 1, 1) :: (3, .aload_n 0, 1) :: (4, .getfield 23, 3) :: (7, .iconst 1, 1) :: (8, .iaload, 1) :: (9, .ishl, 1) :: (10, .iconst 1, 1) :: (11, .isub, 1) :: (12, .invokestatic 141, 3) :: (15, .ireturn, 1) :: []
def Y_X11_areOthers : MD := (yX11_areOthers, cX11_areOthers, 2, (some .boolean), k_X11_areOthers)
theorem cok_X11_areOthers : COK Y_X11_areOthers.2.1 Y_X11_areOthers.code = true := by decide +kernel
theorem mok_X11_areOthers : MOK Y_X11_areOthers 1 := ⟨mU_9 51 rfl rfl, mU_1 13 rfl rfl, by decide, by decide, by decide +kernel, by decide⟩
theorem ins_X11_areOthers : INST Y_X11_areOthers := ⟨mU_9 50 rfl rfl, mV_10 (n := 48) 12 rfl⟩
def k_X11_trade_78 : List CI := (78, .iload_n 3, 1) :: (79, .ireturn, 1) :: []
def k_X11_trade_70 : List CI := (70, .iadd, 1) :: (71, .istore_n 3, 1) :: (72, .iinc 4 1, 3) :: (75, .goto (-33), 3) :: k_X11_trade_78
def k_X11_trade_69 : List CI := (69, .iconst 0, 1) :: k_X11_trade_70
def k_X11_trade_42 : List CI := (42, .iload 4, 2) :: (44, .aload_n 0, 1) :: (45, .getfield 23, 3) :: (48, .iconst 5, 1) :: (49, .iaload, 1) :: (50, .if_icmp .ge 28, 3) :: (53, .iload_n 3, 1) :: (54, .aload_n 0, 1) :: (55, .iload 4, 2) :: (57, .iload_n 1, 1) :: (58, .iload_n 2, 1) :: (59, .invokevirtual 342, 3) :: (62, .ifCond .eq 7, 3) :: (65, .iconst 1, 1) :: (66, .goto 4, 3) :: k_X11_trade_69
def k_X11_trade_37 : List CI := (37, .iconst 0, 1) :: (38, .istore_n 3, 1) :: (39, .iconst 0, 1) :: (40, .istore 4, 2) :: k_X11_trade_42
def k_X11_trade_27 : List CI := (27, .iconst 1, 1) :: (28, .iconst 2, 1) :: (29, .invokevirtual 180, 3) :: (32, .ifCond .eq 5, 3) :: (35, .iconst 0, 1) :: (36, .ireturn, 1) :: k_X11_trade_37
def k_X11_trade_26 : List CI := (26, .iconst 0, 1) :: k_X11_trade_27
def k_X11_trade_22 : List CI := (22, .iconst 1, 1) :: (23, .goto 4, 3) :: k_X11_trade_26
def k_X11_trade : List CI := (0, .aload_n 0, 1) :: (1, .iconst 0, 1) :: (2, .putfield 107, 3) :: (5, .aload_n 0, 1) :: (6, .aload_n 0, 1) :: (7, .iload_n 1, 1) :: (8, .invokevirtual 281, 3) :: (11, .ifCond .eq 11, 3) :: (14, .aload_n 0, 1) :: (15, .iload_n 2, 1) :: (16, .invokevirtual 339, 3) :: (19, .ifCond .ne 7, 3) :: k_X11_trade_22
def Y_X11_trade : MD := (yX11_trade, cX11_trade, 5, (some .int), k_X11_trade)
theorem cok_X11_trade : COK Y_X11_trade.2.1 Y_X11_trade.code = true := by decide +kernel
theorem mok_X11_trade : MOK Y_X11_trade 2 := ⟨mU_9 47 rfl rfl, mU_1 13 rfl rfl, by decide, by decide, by decide +kernel, by decide⟩
theorem ins_X11_trade : INST Y_X11_trade := ⟨mU_9 45 rfl rfl, mU_9 46 rfl rfl⟩
def k_X11_market_104 : List CI := (104, .iconst (-1), 1) :: (105, .ireturn, 1) :: []
def k_X11_market_98 : List CI := (98, .iinc 5 1, 3) :: (101, .goto (-28), 3) :: k_X11_market_104
def k_X11_market_73 : List CI := (73, .iload 5, 2) :: (75, .iload 4, 2) :: (77, .if_icmp .gt 27, 3) :: (80, .aload_n 0, 1) :: (81, .aload_n 0, 1) :: (82, .iload 5, 2) :: (84, .invokevirtual 250, 3) :: (87, .iload_n 2, 1) :: (88, .iload_n 3, 1) :: (89, .invokevirtual 342, 3) :: (92, .ifCond .eq 6, 3) :: (95, .iload 5, 2) :: (97, .ireturn, 1) :: k_X11_market_98
def k_X11_market_58 : List CI := (58, .iload_n 1, 1) :: (59, .aload_n 0, 1) :: (60, .getfield 23, 3) :: (63, .iconst 5, 1) :: (64, .iaload, 1) :: (65, .invokestatic 271, 3) :: (68, .istore 4, 2) :: (70, .iload_n 1, 1) :: (71, .istore 5, 2) :: k_X11_market_73
def k_X11_market_56 : List CI := (56, .iconst 0, 1) :: (57, .ireturn, 1) :: k_X11_market_58
def k_X11_market_48 : List CI := (48, .iconst 2, 1) :: (49, .iconst 2, 1) :: (50, .invokevirtual 180, 3) :: (53, .ifCond .eq 5, 3) :: k_X11_market_56
def k_X11_market_47 : List CI := (47, .iconst 0, 1) :: k_X11_market_48
def k_X11_market_43 : List CI := (43, .iconst 1, 1) :: (44, .goto 4, 3) :: k_X11_market_47
def k_X11_market_18 : List CI := (18, .iconst 1, 1) :: (19, .iconst 0, 1) :: (20, .invokevirtual 180, 3) :: (23, .ifCond .ne 33, 3) :: (26, .aload_n 0, 1) :: (27, .aload_n 0, 1) :: (28, .iload_n 2, 1) :: (29, .invokevirtual 281, 3) :: (32, .ifCond .eq 11, 3) :: (35, .aload_n 0, 1) :: (36, .iload_n 3, 1) :: (37, .invokevirtual 339, 3) :: (40, .ifCond .ne 7, 3) :: k_X11_market_43
def k_X11_market_17 : List CI := (17, .iconst 0, 1) :: k_X11_market_18
def k_X11_market : List CI := (0, .aload_n 0, 1) :: (1, .iconst 0, 1) :: (2, .putfield 107, 3) :: (5, .aload_n 0, 1) :: (6, .iload_n 1, 1) :: (7, .invokestatic 247, 3) :: (10, .ifCond .ne 7, 3) :: (13, .iconst 1, 1) :: (14, .goto 4, 3) :: k_X11_market_17
def Y_X11_market : MD := (yX11_market, cX11_market, 6, (some .int), k_X11_market)
theorem cok_X11_market : COK Y_X11_market.2.1 Y_X11_market.code = true := by decide +kernel
theorem mok_X11_market : MOK Y_X11_market 3 := ⟨mU_9 59 rfl rfl, mU_1 13 rfl rfl, by decide, by decide, by decide +kernel, by decide⟩
theorem ins_X11_market : INST Y_X11_market := ⟨mU_9 57 rfl rfl, mU_9 58 rfl rfl⟩
def k_X11_moves_11 : List CI := (11, .aload_n 0, 1) :: (12, .dup, 1) :: (13, .getfield 345, 3) :: (16, .iconst 1, 1) :: (17, .iadd, 1) :: (18, .putfield 345, 3) :: (21, .aload_n 1, 1) :: (22, .aload_n 0, 1) :: (23, .getfield 345, 3) :: (26, .iconst 1, 1) :: (27, .isub, 1) :: (28, .iaload, 1) :: (29, .ireturn, 1) :: []
def k_X11_moves : List CI := (0, .iload_n 3, 1) :: (1, .ifCond .ne 10, 3) :: (4, .aload_n 1, 1) :: (5, .aload_n 0, 1) :: (6, .getfield 345, 3) :: (9, .iload_n 2, 1) :: (10, .iastore, 1) :: k_X11_moves_11
def Y_X11_moves : MD := (yX11_moves, cX11_moves, 4, (some .int), k_X11_moves)
theorem cok_X11_moves : COK Y_X11_moves.2.1 Y_X11_moves.code = true := by decide +kernel
theorem mok_X11_moves : MOK Y_X11_moves 3 := ⟨mU_9 71 rfl rfl, mU_1 13 rfl rfl, by decide, by decide, by decide +kernel, by decide⟩
theorem ins_X11_moves : INST Y_X11_moves := ⟨mU_9 70 rfl rfl, mV_10 (n := 48) 15 rfl⟩
def k_X11_movesAll_246 : List CI := (246, .return_, 1) :: []
def k_X11_movesAll_240 : List CI := (240, .iinc 3 1, 3) :: (243, .goto (-48), 3) :: k_X11_movesAll_246
def k_X11_movesAll_204 : List CI := (204, .iload 4, 2) :: (206, .iconst 2, 1) :: (207, .if_icmp .ge 33, 3) :: (210, .aload_n 0, 1) :: (211, .getfield 80, 3) :: (214, .iload_n 3, 1) :: (215, .aaload, 1) :: (216, .iload 4, 2) :: (218, .aload_n 0, 1) :: (219, .aload_n 1, 1) :: (220, .aload_n 0, 1) :: (221, .getfield 80, 3) :: (224, .iload_n 3, 1) :: (225, .aaload, 1) :: (226, .iload 4, 2) :: (228, .iaload, 1) :: (229, .iload_n 2, 1) :: (230, .invokevirtual 348, 3) :: (233, .iastore, 1) :: (234, .iinc 4 1, 3) :: (237, .goto (-33), 3) :: k_X11_movesAll_240
def k_X11_movesAll_195 : List CI := (195, .iload_n 3, 1) :: (196, .bipush 8, 2) :: (198, .if_icmp .ge 48, 3) :: (201, .iconst 0, 1) :: (202, .istore 4, 2) :: k_X11_movesAll_204
def k_X11_movesAll_193 : List CI := (193, .iconst 0, 1) :: (194, .istore_n 3, 1) :: k_X11_movesAll_195
def k_X11_movesAll_187 : List CI := (187, .iinc 3 1, 3) :: (190, .goto (-87), 3) :: k_X11_movesAll_193
def k_X11_movesAll_151 : List CI := (151, .iload 4, 2) :: (153, .iconst 4, 1) :: (154, .if_icmp .ge 33, 3) :: (157, .aload_n 0, 1) :: (158, .getfield 77, 3) :: (161, .iload_n 3, 1) :: (162, .aaload, 1) :: (163, .iload 4, 2) :: (165, .aload_n 0, 1) :: (166, .aload_n 1, 1) :: (167, .aload_n 0, 1) :: (168, .getfield 77, 3) :: (171, .iload_n 3, 1) :: (172, .aaload, 1) :: (173, .iload 4, 2) :: (175, .iaload, 1) :: (176, .iload_n 2, 1) :: (177, .invokevirtual 348, 3) :: (180, .iastore, 1) :: (181, .iinc 4 1, 3) :: (184, .goto (-33), 3) :: k_X11_movesAll_187
def k_X11_movesAll_148 : List CI := (148, .iconst 0, 1) :: (149, .istore 4, 2) :: k_X11_movesAll_151
def k_X11_movesAll_112 : List CI := (112, .iload 4, 2) :: (114, .iconst 3, 1) :: (115, .if_icmp .ge 33, 3) :: (118, .aload_n 0, 1) :: (119, .getfield 74, 3) :: (122, .iload_n 3, 1) :: (123, .aaload, 1) :: (124, .iload 4, 2) :: (126, .aload_n 0, 1) :: (127, .aload_n 1, 1) :: (128, .aload_n 0, 1) :: (129, .getfield 74, 3) :: (132, .iload_n 3, 1) :: (133, .aaload, 1) :: (134, .iload 4, 2) :: (136, .iaload, 1) :: (137, .iload_n 2, 1) :: (138, .invokevirtual 348, 3) :: (141, .iastore, 1) :: (142, .iinc 4 1, 3) :: (145, .goto (-33), 3) :: k_X11_movesAll_148
def k_X11_movesAll_103 : List CI := (103, .iload_n 3, 1) :: (104, .bipush 20, 2) :: (106, .if_icmp .ge 87, 3) :: (109, .iconst 0, 1) :: (110, .istore 4, 2) :: k_X11_movesAll_112
def k_X11_movesAll_101 : List CI := (101, .iconst 0, 1) :: (102, .istore_n 3, 1) :: k_X11_movesAll_103
def k_X11_movesAll_95 : List CI := (95, .iinc 3 1, 3) :: (98, .goto (-49), 3) :: k_X11_movesAll_101
def k_X11_movesAll_58 : List CI := (58, .iload 4, 2) :: (60, .bipush 12, 2) :: (62, .if_icmp .ge 33, 3) :: (65, .aload_n 0, 1) :: (66, .getfield 61, 3) :: (69, .iload_n 3, 1) :: (70, .aaload, 1) :: (71, .iload 4, 2) :: (73, .aload_n 0, 1) :: (74, .aload_n 1, 1) :: (75, .aload_n 0, 1) :: (76, .getfield 61, 3) :: (79, .iload_n 3, 1) :: (80, .aaload, 1) :: (81, .iload 4, 2) :: (83, .iaload, 1) :: (84, .iload_n 2, 1) :: (85, .invokevirtual 348, 3) :: (88, .iastore, 1) :: (89, .iinc 4 1, 3) :: (92, .goto (-34), 3) :: k_X11_movesAll_95
def k_X11_movesAll_49 : List CI := (49, .iload_n 3, 1) :: (50, .bipush 10, 2) :: (52, .if_icmp .ge 49, 3) :: (55, .iconst 0, 1) :: (56, .istore 4, 2) :: k_X11_movesAll_58
def k_X11_movesAll : List CI := (0, .aload_n 0, 1) :: (1, .iconst 0, 1) :: (2, .putfield 345, 3) :: (5, .aload_n 0, 1) :: (6, .aload_n 0, 1) :: (7, .aload_n 1, 1) :: (8, .aload_n 0, 1) :: (9, .getfield 196, 3) :: (12, .iload_n 2, 1) :: (13, .invokevirtual 348, 3) :: (16, .putfield 196, 3) :: (19, .aload_n 0, 1) :: (20, .aload_n 0, 1) :: (21, .aload_n 1, 1) :: (22, .aload_n 0, 1) :: (23, .getfield 199, 3) :: (26, .iload_n 2, 1) :: (27, .invokevirtual 348, 3) :: (30, .putfield 199, 3) :: (33, .aload_n 0, 1) :: (34, .aload_n 0, 1) :: (35, .aload_n 1, 1) :: (36, .aload_n 0, 1) :: (37, .getfield 202, 3) :: (40, .iload_n 2, 1) :: (41, .invokevirtual 348, 3) :: (44, .putfield 202, 3) :: (47, .iconst 0, 1) :: (48, .istore_n 3, 1) :: k_X11_movesAll_49
def Y_X11_movesAll : MD := (yX11_movesAll, cX11_movesAll, 5, none, k_X11_movesAll)
theorem cok_X11_movesAll : COK Y_X11_movesAll.2.1 Y_X11_movesAll.code = true := by decide +kernel
theorem mok_X11_movesAll : MOK Y_X11_movesAll 2 := ⟨mU_9 67 rfl rfl, mU_1 13 rfl rfl, by decide, by decide, by decide +kernel, by decide⟩
theorem ins_X11_movesAll : INST Y_X11_movesAll := ⟨mU_9 66 rfl rfl, mV_10 (n := 48) 14 rfl⟩
def k_X11_image_15 : List CI := (15, .aload_n 0, 1) :: (16, .aload_n 0, 1) :: (17, .getfield 83, 3) :: (20, .aload_n 0, 1) :: (21, .getfield 205, 3) :: (24, .aaload, 1) :: (25, .iconst 0, 1) :: (26, .invokevirtual 352, 3) :: (29, .aload_n 0, 1) :: (30, .dup, 1) :: (31, .getfield 205, 3) :: (34, .iconst 1, 1) :: (35, .iadd, 1) :: (36, .putfield 205, 3) :: (39, .aload_n 0, 1) :: (40, .getfield 205, 3) :: (43, .ireturn, 1) :: []
def k_X11_image : List CI := (0, .aload_n 0, 1) :: (1, .iconst 0, 1) :: (2, .putfield 107, 3) :: (5, .aload_n 0, 1) :: (6, .getfield 205, 3) :: (9, .iconst 3, 1) :: (10, .if_icmp .ne 5, 3) :: (13, .iconst (-1), 1) :: (14, .ireturn, 1) :: k_X11_image_15
def Y_X11_image : MD := (yX11_image, cX11_image, 1, (some .int), k_X11_image)
theorem cok_X11_image : COK Y_X11_image.2.1 Y_X11_image.code = true := by decide +kernel
theorem mok_X11_image : MOK Y_X11_image 0 := ⟨mU_9 63 rfl rfl, mU_1 13 rfl rfl, by decide, by decide, by decide +kernel, by decide⟩
theorem ins_X11_image : INST Y_X11_image := ⟨mU_9 61 rfl rfl, mU_9 62 rfl rfl⟩
def k_X11_restore_14 : List CI := (14, .aload_n 0, 1) :: (15, .dup, 1) :: (16, .getfield 205, 3) :: (19, .iconst 1, 1) :: (20, .isub, 1) :: (21, .putfield 205, 3) :: (24, .aload_n 0, 1) :: (25, .aload_n 0, 1) :: (26, .getfield 83, 3) :: (29, .aload_n 0, 1) :: (30, .getfield 205, 3) :: (33, .aaload, 1) :: (34, .iconst 1, 1) :: (35, .invokevirtual 352, 3) :: (38, .aload_n 0, 1) :: (39, .getfield 205, 3) :: (42, .ireturn, 1) :: []
def k_X11_restore : List CI := (0, .aload_n 0, 1) :: (1, .iconst 0, 1) :: (2, .putfield 107, 3) :: (5, .aload_n 0, 1) :: (6, .getfield 205, 3) :: (9, .ifCond .ne 5, 3) :: (12, .iconst (-1), 1) :: (13, .ireturn, 1) :: k_X11_restore_14
def Y_X11_restore : MD := (yX11_restore, cX11_restore, 1, (some .int), k_X11_restore)
theorem cok_X11_restore : COK Y_X11_restore.2.1 Y_X11_restore.code = true := by decide +kernel
theorem mok_X11_restore : MOK Y_X11_restore 0 := ⟨mU_9 75 rfl rfl, mU_1 13 rfl rfl, by decide, by decide, by decide +kernel, by decide⟩
theorem ins_X11_restore : INST Y_X11_restore := ⟨mU_9 73 rfl rfl, mU_9 74 rfl rfl⟩
def k_X11_status_24 : List CI := (24, .ireturn, 1) :: []
def k_X11_status_23 : List CI := (23, .iconst (-1), 1) :: k_X11_status_24
def k_X11_status : List CI := (0, .aload_n 0, 1) :: (1, .iconst 0, 1) :: (2, .putfield 107, 3) :: (5, .iload_n 1, 1) :: (6, .iconst 0, 1) :: (7, .iconst 2, 1) :: (8, .invokestatic 141, 3) :: (11, .ifCond .eq 12, 3) :: (14, .aload_n 0, 1) :: (15, .getfield 17, 3) :: (18, .iload_n 1, 1) :: (19, .iaload, 1) :: (20, .goto 4, 3) :: k_X11_status_23
def Y_X11_status : MD := (yX11_status, cX11_status, 2, (some .int), k_X11_status)
theorem cok_X11_status : COK Y_X11_status.2.1 Y_X11_status.code = true := by decide +kernel
theorem mok_X11_status : MOK Y_X11_status 1 := ⟨mU_9 79 rfl rfl, mU_1 13 rfl rfl, by decide, by decide, by decide +kernel, by decide⟩
theorem ins_X11_status : INST Y_X11_status := ⟨mU_9 77 rfl rfl, mU_9 78 rfl rfl⟩
def k_X11_sums_65 : List CI := (65, .iconst (-1), 1) :: (66, .ireturn, 1) :: []
def k_X11_sums_60 : List CI := (60, .aload_n 0, 1) :: (61, .getfield 110, 3) :: (64, .ireturn, 1) :: k_X11_sums_65
def k_X11_sums_55 : List CI := (55, .aload_n 0, 1) :: (56, .getfield 205, 3) :: (59, .ireturn, 1) :: k_X11_sums_60
def k_X11_sums_50 : List CI := (50, .aload_n 0, 1) :: (51, .getfield 202, 3) :: (54, .ireturn, 1) :: k_X11_sums_55
def k_X11_sums_45 : List CI := (45, .aload_n 0, 1) :: (46, .getfield 199, 3) :: (49, .ireturn, 1) :: k_X11_sums_50
def k_X11_sums_40 : List CI := (40, .aload_n 0, 1) :: (41, .getfield 196, 3) :: (44, .ireturn, 1) :: k_X11_sums_45
def k_X11_sums : List CI := (0, .aload_n 0, 1) :: (1, .iconst 0, 1) :: (2, .putfield 107, 3) :: (5, .iload_n 1, 1) :: (6, .tableswitch 59 0 4 #[34, 39, 44, 49, 54], 34) :: k_X11_sums_40
def Y_X11_sums : MD := (yX11_sums, cX11_sums, 2, (some .int), k_X11_sums)
theorem cok_X11_sums : COK Y_X11_sums.2.1 Y_X11_sums.code = true := by decide +kernel
theorem mok_X11_sums : MOK Y_X11_sums 1 := ⟨mU_9 83 rfl rfl, mU_1 13 rfl rfl, by decide, by decide, by decide +kernel, by decide⟩
theorem ins_X11_sums : INST Y_X11_sums := ⟨mU_9 81 rfl rfl, mU_9 82 rfl rfl⟩
theorem lk_X10_97 : LNN RX10 97 Y_X4_put := ⟨"WeekWheels", mN_2 188 rfl rfl⟩
theorem lk_X10_101 : LNK RX10 101 Y_X10_need := mU_2 235 rfl rfl
theorem lk_X10_105 : LNN RX10 105 Y_X4_open := ⟨"WeekWheels", mN_3 67 rfl rfl⟩
theorem lk_X10_108 : LNN RX10 108 Y_X0_read := ⟨"WeekWheels", mN_3 74 rfl rfl⟩
theorem lk_X10_112 : LNK RX10 112 Y_X10_closeText := mU_3 230 rfl rfl
theorem lk_X10_116 : LNN RX10 116 Y_X0_copy := ⟨"WeekWheels", mN_3 234 rfl rfl⟩
theorem lk_X10_119 : LNN RX10 119 Y_X7_clear := ⟨"WeekWheels", mN_4 12 rfl rfl⟩
theorem lk_X10_122 : LNN RX10 122 Y_X3_begin := ⟨"WeekWheels", mN_4 16 rfl rfl⟩
theorem lk_X10_135 : LNN RX10 135 Y_X8_read := ⟨"WeekWheels", mN_4 27 rfl rfl⟩
theorem lk_X10_138 : LNN RX10 138 Y_X7_copy := ⟨"WeekWheels", mN_4 78 rfl rfl⟩
theorem lk_X10_155 : LNK RX10 155 Y_X10_needLaw := mU_4 98 rfl rfl
theorem lk_X10_158 : LNK RX10 158 Y_X10_needEither := mU_4 122 rfl rfl
theorem lk_X10_161 : LNN RX10 161 Y_X2_weekOf := ⟨"WeekWheels", mN_4 126 rfl rfl⟩
theorem lk_X10_165 : LNN RX10 165 Y_X2_dayOf := ⟨"WeekWheels", mN_4 127 rfl rfl⟩
theorem lk_X10_168 : LNK RX10 168 Y_X10_needHouse := mU_4 138 rfl rfl
theorem lk_X10_171 : LNN RX10 171 Y_X3_aheadOf := ⟨"WeekWheels", mN_4 142 rfl rfl⟩
theorem lk_X10_175 : LNK RX10 175 Y_X10_left := mU_4 157 rfl rfl
theorem lk_X10_178 : LNN RX10 178 Y_X3_setAhead := ⟨"WeekWheels", mN_4 158 rfl rfl⟩
theorem lk_X10_182 : LNK RX10 182 Y_X10_needDay := mU_4 170 rfl rfl
theorem lk_X10_185 : LNN RX10 185 Y_X0_turnsOn := ⟨"WeekWheels", mN_4 191 rfl rfl⟩
theorem lk_X10_188 : LNK RX10 188 Y_X10_lawsOfTown := mU_4 202 rfl rfl
theorem lk_X10_191 : LNK RX10 191 Y_X10_lawsOfHouse := mU_4 217 rfl rfl
theorem lk_X10_194 : LNN RX10 194 Y_X7_daysFrom := ⟨"WeekWheels", mN_4 235 rfl rfl⟩
theorem lk_X10_198 : LNN RX10 198 Y_X7_firstFrom := ⟨"WeekWheels", mN_5 30 rfl rfl⟩
theorem lk_X10_201 : LNK RX10 201 Y_X10_needLaws := mU_5 70 rfl rfl
theorem lk_X10_204 : LNN RX10 204 Y_X2_meetingWith := ⟨"WeekWheels", mN_5 75 rfl rfl⟩
theorem lk_X10_207 : LNK RX10 207 Y_X10_isIn := mU_5 79 rfl rfl
theorem lk_X10_211 : LNN RX10 211 Y_X2_firstDayOfAll := ⟨"WeekWheels", mN_5 87 rfl rfl⟩
theorem lk_X10_214 : LNN RX10 214 Y_X2_greatestSet := ⟨"WeekWheels", mN_5 99 rfl rfl⟩
theorem lk_X10_217 : LNK RX10 217 Y_J6_bitCount_0f7a4 := mU_5 114 rfl rfl
theorem lk_X10_222 : LNN RX10 222 Y_X2_tally := ⟨"WeekWheels", mN_5 122 rfl rfl⟩
theorem lk_X10_225 : LNN RX10 225 Y_X2_justSoMany := ⟨"WeekWheels", mN_5 123 rfl rfl⟩
theorem lk_X10_229 : LNK RX10 229 Y_X10_low := mU_5 124 rfl rfl
theorem lk_X10_232 : LNK RX10 232 Y_J13_bitCount_95d88 := mU_5 57 rfl rfl
theorem lk_X10_237 : LNK RX10 237 Y_X10_all := mU_5 74 rfl rfl
theorem lk_X10_240 : LNN RX10 240 Y_X1_bar := ⟨"WeekWheels", mN_5 132 rfl rfl⟩
theorem lk_X10_244 : LNN RX10 244 Y_X1_firstRow := ⟨"WeekWheels", mN_5 137 rfl rfl⟩
theorem lk_X10_247 : LNK RX10 247 Y_X10_isWeek := mU_5 165 rfl rfl
theorem lk_X10_251 : LNN RX10 251 Y_X2_noneMeets := ⟨"WeekWheels", mN_5 170 rfl rfl⟩
theorem lk_X10_255 : LNN RX10 255 Y_X1_mostBarredLaw := ⟨"WeekWheels", mN_5 181 rfl rfl⟩
theorem lk_X10_258 : LNN RX10 258 Y_X6_take := ⟨"WeekWheels", mN_5 201 rfl rfl⟩
theorem lk_X10_261 : LNN RX10 261 Y_X6_firstDays := ⟨"WeekWheels", mN_5 210 rfl rfl⟩
theorem lk_X10_264 : LNN RX10 264 Y_X3_addSight := ⟨"WeekWheels", mN_6 3 rfl rfl⟩
theorem lk_X10_268 : LNN RX10 268 Y_X5_survey := ⟨"WeekWheels", mN_6 14 rfl rfl⟩
theorem lk_X10_280 : LNN RX10 280 Y_X5_tellingLaw := ⟨"WeekWheels", mN_6 42 rfl rfl⟩
theorem lk_X10_283 : LNN RX10 283 Y_X5_leftAtWorst := ⟨"WeekWheels", mN_6 51 rfl rfl⟩
theorem lk_X10_286 : LNN RX10 286 Y_X3_addDeed := ⟨"WeekWheels", mN_6 59 rfl rfl⟩
theorem lk_X10_290 : LNK RX10 290 Y_X10_explains := mU_6 70 rfl rfl
theorem lk_X10_293 : LNK RX10 293 Y_J9_min_7cf53 := mU_6 74 rfl rfl
theorem lk_X10_298 : LNK RX10 298 Y_J9_max_7cf53 := mU_3 177 rfl rfl
theorem lk_X10_307 : LNK RX10 307 Y_X10_housesAlike := mU_6 82 rfl rfl
theorem lk_X10_310 : LNN RX10 310 Y_X3_addWork := ⟨"WeekWheels", mN_6 98 rfl rfl⟩
theorem lk_X10_313 : LNK RX10 313 Y_X10_needWork := mU_6 109 rfl rfl
theorem lk_X10_316 : LNN RX10 316 Y_X9_endOf := ⟨"WeekWheels", mN_6 113 rfl rfl⟩
theorem lk_X10_320 : LNN RX10 320 Y_X9_bestBegin := ⟨"WeekWheels", mN_6 138 rfl rfl⟩
theorem lk_X10_324 : LNN RX10 324 Y_X9_plan := ⟨"WeekWheels", mN_6 160 rfl rfl⟩
theorem lk_X10_327 : LNN RX10 327 Y_X9_earliestEnd := ⟨"WeekWheels", mN_6 171 rfl rfl⟩
theorem lk_X10_330 : LNN RX10 330 Y_X9_firstOrder := ⟨"WeekWheels", mN_6 175 rfl rfl⟩
theorem lk_X10_335 : LNK RX10 335 Y_X10_needTwoLaws := mU_6 207 rfl rfl
theorem lk_X10_338 : LNN RX10 338 Y_X2_daysWithout := ⟨"WeekWheels", mN_6 211 rfl rfl⟩
theorem lk_X10_341 : LNN RX10 341 Y_X2_watchDay := ⟨"WeekWheels", mN_6 224 rfl rfl⟩
theorem lk_X10_344 : LNK RX10 344 Y_X10_needOthers := mU_6 236 rfl rfl
theorem lk_X10_347 : LNN RX10 347 Y_X1_daysFrom := ⟨"WeekWheels", mN_7 0 rfl rfl⟩
theorem lk_X10_349 : LNN RX10 349 Y_X1_nthFrom := ⟨"WeekWheels", mN_7 8 rfl rfl⟩
theorem lk_X10_352 : LNN RX10 352 Y_X3_copy := ⟨"WeekWheels", mN_2 208 rfl rfl⟩
theorem lk_X10_381 : LNK RX10 381 Y_X10_needElement := mU_4 102 rfl rfl
theorem lk_X10_388 : LNN RX10 388 Y_X2_isHeld := ⟨"WeekWheels", mN_4 206 rfl rfl⟩
theorem lk_X10_405 : LNN RX10 405 Y_X3_areAlike := ⟨"WeekWheels", mN_6 86 rfl rfl⟩
theorem lk_X10_412 : LNK RX10 412 Y_X10_commonDivisor := mU_3 224 rfl rfl
theorem lk_X10_418 : LNK RX10 418 Y_X10_lowest := mU_6 34 rfl rfl
theorem lk_X0_37 : LNN RX0 37 Y_X2_copy := ⟨"WeekWheels", mN_3 238 rfl rfl⟩
theorem lk_X0_53 : LNK RX0 53 Y_J9_max_7cf53 := mU_5 38 rfl rfl
theorem lk_X0_60 : LNK RX0 60 Y_J9_min_7cf53 := mU_5 47 rfl rfl
theorem lk_X0_66 : LNN RX0 66 Y_X4_isFine := ⟨"WeekWheels", mN_3 78 rfl rfl⟩
theorem lk_X0_72 : LNN RX0 72 Y_X4_isAtEnd := ⟨"WeekWheels", mN_3 82 rfl rfl⟩
theorem lk_X0_75 : LNK RX0 75 Y_X0_readClause := mU_3 90 rfl rfl
theorem lk_X0_79 : LNN RX0 79 Y_X10_all := ⟨"WeekWheels", mN_3 211 rfl rfl⟩
theorem lk_X0_83 : LNN RX0 83 Y_X2_turnWith := ⟨"WeekWheels", mN_3 214 rfl rfl⟩
theorem lk_X0_90 : LNN RX0 90 Y_X4_blame := ⟨"WeekWheels", mN_3 229 rfl rfl⟩
theorem lk_X0_96 : LNN RX0 96 Y_X4_takesWord := ⟨"WeekWheels", mN_3 95 rfl rfl⟩
theorem lk_X0_100 : LNK RX0 100 Y_X0_readLaw := mU_3 148 rfl rfl
theorem lk_X0_108 : LNK RX0 108 Y_X0_readHouse := mU_3 180 rfl rfl
theorem lk_X0_113 : LNK RX0 113 Y_X0_readSlip := mU_3 185 rfl rfl
theorem lk_X0_117 : LNK RX0 117 Y_X0_readStill := mU_3 198 rfl rfl
theorem lk_X0_120 : LNN RX0 120 Y_X4_blameNext := ⟨"WeekWheels", mN_3 203 rfl rfl⟩
theorem lk_X0_123 : LNN RX0 123 Y_X4_takesSign := ⟨"WeekWheels", mN_3 207 rfl rfl⟩
theorem lk_X0_127 : LNN RX0 127 Y_X2_isFull := ⟨"WeekWheels", mN_3 152 rfl rfl⟩
theorem lk_X0_130 : LNN RX0 130 Y_X4_blameTaken := ⟨"WeekWheels", mN_3 156 rfl rfl⟩
theorem lk_X0_133 : LNN RX0 133 Y_X4_takeNumber := ⟨"WeekWheels", mN_3 164 rfl rfl⟩
theorem lk_X0_136 : LNN RX0 136 Y_X2_add := ⟨"WeekWheels", mN_3 169 rfl rfl⟩
theorem lk_X0_139 : LNN RX0 139 Y_X2_weekOf := ⟨"WeekWheels", mN_3 189 rfl rfl⟩
theorem lk_X1_38 : LNN RX1 38 Y_X2_turnWith := ⟨"WeekWheels", mN_5 136 rfl rfl⟩
theorem lk_X1_44 : LNN RX1 44 Y_X2_someHeldFrom := ⟨"WeekWheels", mN_5 151 rfl rfl⟩
theorem lk_X1_50 : LNK RX1 50 Y_X1_patience := mU_6 126 rfl rfl
theorem lk_X1_55 : LNN RX1 55 Y_X0_stretchFrom := ⟨"WeekWheels", mN_5 145 rfl rfl⟩
theorem lk_X1_59 : LNN RX1 59 Y_X0_turnsOn := ⟨"WeekWheels", mN_5 146 rfl rfl⟩
theorem lk_X1_62 : LNK RX1 62 Y_X1_daysFrom := mU_5 147 rfl rfl
theorem lk_X1_66 : LNN RX1 66 Y_X10_low := ⟨"WeekWheels", mN_5 156 rfl rfl⟩
theorem lk_X1_69 : LNK RX1 69 Y_J13_bitCount_95d88 := mU_5 193 rfl rfl
theorem lk_X1_75 : LNN RX1 75 Y_X10_nthLowest := ⟨"WeekWheels", mN_6 130 rfl rfl⟩
theorem lk_X1_79 : LNK RX1 79 Y_J9_max_7cf53 := mU_5 142 rfl rfl
theorem lk_X1_94 : LNN RX1 94 Y_X10_lowest := ⟨"WeekWheels", mN_5 157 rfl rfl⟩
theorem lk_X1_97 : LNN RX1 97 Y_X0_stretchTo := ⟨"WeekWheels", mN_6 191 rfl rfl⟩
theorem lk_X1_100 : LNN RX1 100 Y_X0_settledDay := ⟨"WeekWheels", mN_5 141 rfl rfl⟩
theorem lk_X1_103 : LNK RX1 103 Y_J9_min_7cf53 := mU_5 144 rfl rfl
theorem lk_X1_108 : LNN RX1 108 Y_X10_commonDivisor := ⟨"WeekWheels", mN_5 186 rfl rfl⟩
theorem lk_X1_111 : LNK RX1 111 Y_X1_countMeetings := mU_5 187 rfl rfl
theorem lk_X1_115 : LNN RX1 115 Y_X10_everyOf := ⟨"WeekWheels", mN_5 191 rfl rfl⟩
theorem lk_X1_118 : LNN RX1 118 Y_X10_daysLeaving := ⟨"WeekWheels", mN_5 192 rfl rfl⟩
theorem lk_X2_9 : LNK RX2 9 Y_J9_max_7cf53 := mU_1 81 rfl rfl
theorem lk_X2_35 : LNK RX2 35 Y_X2_isFull := mU_3 173 rfl rfl
theorem lk_X2_39 : LNN RX2 39 Y_X10_everyOf := ⟨"WeekWheels", mN_3 174 rfl rfl⟩
theorem lk_X2_43 : LNK RX2 43 Y_X2_add := mU_4 2 rfl rfl
theorem lk_X2_47 : LNK RX2 47 Y_X2_lawsThatMeet := mU_4 3 rfl rfl
theorem lk_X2_50 : LNK RX2 50 Y_X2_isLaw := mU_3 193 rfl rfl
theorem lk_X2_54 : LNN RX2 54 Y_X10_left := ⟨"WeekWheels", mN_4 8 rfl rfl⟩
theorem lk_X2_57 : LNN RX2 57 Y_X10_daysLeaving := ⟨"WeekWheels", mN_5 7 rfl rfl⟩
theorem lk_X2_61 : LNN RX2 61 Y_X10_isIn := ⟨"WeekWheels", mN_3 218 rfl rfl⟩
theorem lk_X2_65 : LNN RX2 65 Y_X10_commonDivisor := ⟨"WeekWheels", mN_4 7 rfl rfl⟩
theorem lk_X2_68 : LNN RX2 68 Y_X10_commonTurn := ⟨"WeekWheels", mN_3 221 rfl rfl⟩
theorem lk_X2_71 : LNK RX2 71 Y_X2_isHeld := mU_5 91 rfl rfl
theorem lk_X2_74 : LNN RX2 74 Y_X10_all := ⟨"WeekWheels", mN_5 103 rfl rfl⟩
theorem lk_X2_78 : LNK RX2 78 Y_J6_bitCount_0f7a4 := mU_5 104 rfl rfl
theorem lk_X2_83 : LNK RX2 83 Y_X2_allMeet := mU_5 110 rfl rfl
theorem lk_X2_99 : LNK RX2 99 Y_X2_heldFrom := mU_5 3 rfl rfl
theorem lk_X2_105 : LNK RX2 105 Y_X2_weekOf := mU_6 215 rfl rfl
theorem lk_X2_108 : LNK RX2 108 Y_X2_meetingWith := mU_6 216 rfl rfl
theorem lk_X2_111 : LNK RX2 111 Y_X2_dayOf := mU_6 228 rfl rfl
theorem lk_X3_62 : LNK RX3 62 Y_X3_isWheel := mU_4 146 rfl rfl
theorem lk_X3_66 : LNK RX3 66 Y_X3_aheadOf := mU_6 90 rfl rfl
theorem lk_X4_19 : LNK RX4 19 Y_J9_min_7cf53 := mU_3 71 rfl rfl
theorem lk_X4_40 : LNK RX4 40 Y_X4_skipBlanks := mU_3 86 rfl rfl
theorem lk_X4_43 : LNK RX4 43 Y_X4_blame := mU_3 160 rfl rfl
theorem lk_X4_47 : LNK RX4 47 Y_X4_isFine := mU_3 99 rfl rfl
theorem lk_X5_38 : LNK RX5 38 Y_X5_fittingFrom := mU_6 18 rfl rfl
theorem lk_X5_42 : LNN RX5 42 Y_X10_low := ⟨"WeekWheels", mN_6 24 rfl rfl⟩
theorem lk_X5_45 : LNK RX5 45 Y_X5_note := mU_6 25 rfl rfl
theorem lk_X5_66 : LNN RX5 66 Y_X2_heldFrom := ⟨"WeekWheels", mN_6 23 rfl rfl⟩
theorem lk_X5_76 : LNK RX5 76 Y_J13_bitCount_95d88 := mU_6 29 rfl rfl
theorem lk_X5_82 : LNN RX5 82 Y_X10_lowest := ⟨"WeekWheels", mN_6 30 rfl rfl⟩
theorem lk_X5_85 : LNN RX5 85 Y_X10_nthLowest := ⟨"WeekWheels", mN_6 31 rfl rfl⟩
theorem lk_X5_92 : LNK RX5 92 Y_J9_max_7cf53 := mU_6 50 rfl rfl
theorem lk_X5_98 : LNK RX5 98 Y_X5_leftAtWorst := mU_6 46 rfl rfl
theorem lk_X6_27 : LNK RX6 27 Y_J9_max_f86c9 := mU_5 206 rfl rfl
theorem lk_X6_33 : LNN RX6 33 Y_X10_isWeek := ⟨"WeekWheels", mN_5 209 rfl rfl⟩
theorem lk_X6_37 : LNK RX6 37 Y_X6_isSet := mU_5 214 rfl rfl
theorem lk_X6_43 : LNN RX6 43 Y_X10_commonDivisor := ⟨"WeekWheels", mN_5 218 rfl rfl⟩
theorem lk_X6_47 : LNK RX6 47 Y_X6_leastDay := mU_5 219 rfl rfl
theorem lk_X6_51 : LNK RX6 51 Y_X6_meetsTooMany := mU_5 223 rfl rfl
theorem lk_X6_55 : LNN RX6 55 Y_X10_left := ⟨"WeekWheels", mN_5 227 rfl rfl⟩
theorem lk_X6_58 : LNK RX6 58 Y_J6_bitCount_0f7a4 := mU_5 228 rfl rfl
theorem lk_X6_63 : LNK RX6 63 Y_X6_allMeet := mU_5 229 rfl rfl
theorem lk_X6_67 : LNN RX6 67 Y_X10_isIn := ⟨"WeekWheels", mN_5 233 rfl rfl⟩
theorem lk_X6_70 : LNN RX6 70 Y_X10_all := ⟨"WeekWheels", mN_5 234 rfl rfl⟩
theorem lk_X7_58 : LNN RX7 58 Y_X10_everyOf := ⟨"WeekWheels", mN_4 74 rfl rfl⟩
theorem lk_X7_62 : LNN RX7 62 Y_X10_commonTurn := ⟨"WeekWheels", mN_4 75 rfl rfl⟩
theorem lk_X7_70 : LNN RX7 70 Y_X2_tally := ⟨"WeekWheels", mN_4 239 rfl rfl⟩
theorem lk_X7_76 : LNK RX7 76 Y_X7_daysOf := mU_5 10 rfl rfl
theorem lk_X7_82 : LNN RX7 82 Y_X2_heldFrom := ⟨"WeekWheels", mN_5 14 rfl rfl⟩
theorem lk_X7_86 : LNN RX7 86 Y_X2_justSoMany := ⟨"WeekWheels", mN_5 15 rfl rfl⟩
theorem lk_X7_89 : LNN RX7 89 Y_X10_daysLeaving := ⟨"WeekWheels", mN_5 20 rfl rfl⟩
theorem lk_X7_93 : LNN RX7 93 Y_X3_aheadOf := ⟨"WeekWheels", mN_5 21 rfl rfl⟩
theorem lk_X7_101 : LNN RX7 101 Y_X0_settledDay := ⟨"WeekWheels", mN_5 34 rfl rfl⟩
theorem lk_X7_105 : LNK RX7 105 Y_J9_max_7cf53 := mU_5 39 rfl rfl
theorem lk_X7_111 : LNK RX7 111 Y_J9_min_7cf53 := mU_5 41 rfl rfl
theorem lk_X7_114 : LNN RX7 114 Y_X0_stretchFrom := ⟨"WeekWheels", mN_5 42 rfl rfl⟩
theorem lk_X7_118 : LNN RX7 118 Y_X0_turnsOn := ⟨"WeekWheels", mN_5 48 rfl rfl⟩
theorem lk_X7_121 : LNK RX7 121 Y_X7_daysFrom := mU_5 49 rfl rfl
theorem lk_X7_124 : LNN RX7 124 Y_X10_low := ⟨"WeekWheels", mN_5 50 rfl rfl⟩
theorem lk_X7_127 : LNN RX7 127 Y_X10_lowest := ⟨"WeekWheels", mN_5 54 rfl rfl⟩
theorem lk_X8_19 : LNN RX8 19 Y_X7_clear := ⟨"WeekWheels", mN_4 31 rfl rfl⟩
theorem lk_X8_24 : LNK RX8 24 Y_X8_readChoice := mU_4 32 rfl rfl
theorem lk_X8_28 : LNN RX8 28 Y_X4_isAtEnd := ⟨"WeekWheels", mN_4 69 rfl rfl⟩
theorem lk_X8_34 : LNN RX8 34 Y_X4_blameNext := ⟨"WeekWheels", mN_4 56 rfl rfl⟩
theorem lk_X8_37 : LNN RX8 37 Y_X7_prepare := ⟨"WeekWheels", mN_4 70 rfl rfl⟩
theorem lk_X8_48 : LNN RX8 48 Y_X4_blame := ⟨"WeekWheels", mN_4 77 rfl rfl⟩
theorem lk_X8_52 : LNK RX8 52 Y_X8_readJoined := mU_4 36 rfl rfl
theorem lk_X8_57 : LNN RX8 57 Y_X4_takesWord := ⟨"WeekWheels", mN_4 45 rfl rfl⟩
theorem lk_X8_61 : LNN RX8 61 Y_X7_add := ⟨"WeekWheels", mN_4 51 rfl rfl⟩
theorem lk_X8_65 : LNK RX8 65 Y_X8_readSingle := mU_4 40 rfl rfl
theorem lk_X8_72 : LNK RX8 72 Y_X8_mayOpen := mU_4 46 rfl rfl
theorem lk_X8_76 : LNN RX8 76 Y_X4_takesSign := ⟨"WeekWheels", mN_4 55 rfl rfl⟩
theorem lk_X8_80 : LNK RX8 80 Y_X8_readPlain := mU_4 57 rfl rfl
theorem lk_X8_84 : LNN RX8 84 Y_X4_blameTaken := ⟨"WeekWheels", mN_4 50 rfl rfl⟩
theorem lk_X8_101 : LNN RX8 101 Y_X4_takeNumber := ⟨"WeekWheels", mN_4 62 rfl rfl⟩
theorem lk_X9_35 : LNK RX9 35 Y_X9_isWork := mU_6 117 rfl rfl
theorem lk_X9_42 : LNN RX9 42 Y_X1_bar := ⟨"WeekWheels", mN_6 121 rfl rfl⟩
theorem lk_X9_51 : LNN RX9 51 Y_X1_nthFrom := ⟨"WeekWheels", mN_6 122 rfl rfl⟩
theorem lk_X9_55 : LNN RX9 55 Y_X1_nthBack := ⟨"WeekWheels", mN_6 187 rfl rfl⟩
theorem lk_X9_59 : LNN RX9 59 Y_X1_walkFrom := ⟨"WeekWheels", mN_6 142 rfl rfl⟩
theorem lk_X9_65 : LNN RX9 65 Y_X1_walkOn := ⟨"WeekWheels", mN_6 148 rfl rfl⟩
theorem lk_X9_69 : LNK RX9 69 Y_J9_min_7cf53 := mU_6 152 rfl rfl
theorem lk_X9_74 : LNN RX9 74 Y_X10_all := ⟨"WeekWheels", mN_6 164 rfl rfl⟩
theorem lk_X9_78 : LNK RX9 78 Y_X9_earliestBehind := mU_6 165 rfl rfl
theorem lk_X9_81 : LNN RX9 81 Y_X10_isIn := ⟨"WeekWheels", mN_6 169 rfl rfl⟩
theorem lk_X9_85 : LNK RX9 85 Y_X9_endOf := mU_6 170 rfl rfl
theorem lk_X9_88 : LNK RX9 88 Y_X9_latestAheadOf := mU_6 179 rfl rfl
theorem lk_X9_91 : LNK RX9 91 Y_X9_firstInTime := mU_6 196 rfl rfl
theorem lk_X9_94 : LNK RX9 94 Y_X9_latestBegin := mU_6 183 rfl rfl
theorem lk_X9_97 : LNK RX9 97 Y_J9_max_7cf53 := mU_6 195 rfl rfl
theorem lk_X11_119 : LNK RX11 119 Y_X11_byteAt := mU_7 189 rfl rfl
theorem lk_X11_129 : LNK RX11 129 Y_X11_blanks := mU_7 185 rfl rfl
theorem lk_X11_132 : LNK RX11 132 Y_X11_isDigit := mU_7 220 rfl rfl
theorem lk_X11_136 : LNK RX11 136 Y_X11_wrong := mU_7 208 rfl rfl
theorem lk_X11_141 : LNK RX11 141 Y_X11_in := mU_7 174 rfl rfl
theorem lk_X11_145 : LNK RX11 145 Y_X11_wordHere := mU_7 201 rfl rfl
theorem lk_X11_149 : LNK RX11 149 Y_X11_five := mU_7 205 rfl rfl
theorem lk_X11_153 : LNK RX11 153 Y_X11_isWord := mU_7 197 rfl rfl
theorem lk_X11_157 : LNK RX11 157 Y_X11_skipWord := mU_7 212 rfl rfl
theorem lk_X11_164 : LNK RX11 164 Y_X11_common := mU_7 237 rfl rfl
theorem lk_X11_169 : LNK RX11 169 Y_X11_number := mU_7 216 rfl rfl
theorem lk_X11_173 : LNK RX11 173 Y_X11_stillHere := mU_7 225 rfl rfl
theorem lk_X11_177 : LNK RX11 177 Y_X11_sign := mU_7 229 rfl rfl
theorem lk_X11_180 : LNK RX11 180 Y_X11_bad := mU_7 177 rfl rfl
theorem lk_X11_184 : LNK RX11 184 Y_X11_starts := mU_7 181 rfl rfl
theorem lk_X11_187 : LNK RX11 187 Y_X11_clause := mU_7 193 rfl rfl
theorem lk_X11_190 : LNK RX11 190 Y_X11_both := mU_7 233 rfl rfl
theorem lk_X11_214 : LNK RX11 214 Y_X11_andRow := mU_8 9 rfl rfl
theorem lk_X11_217 : LNK RX11 217 Y_X11_takes := mU_8 25 rfl rfl
theorem lk_X11_220 : LNK RX11 220 Y_X11_says := mU_8 21 rfl rfl
theorem lk_X11_224 : LNK RX11 224 Y_X11_one := mU_8 13 rfl rfl
theorem lk_X11_227 : LNK RX11 227 Y_X11_opens := mU_8 17 rfl rfl
theorem lk_X11_230 : LNK RX11 230 Y_X11_orRow := mU_8 5 rfl rfl
theorem lk_X11_236 : LNK RX11 236 Y_X11_isLaw := mU_8 41 rfl rfl
theorem lk_X11_239 : LNK RX11 239 Y_X11_isHouse := mU_8 49 rfl rfl
theorem lk_X11_243 : LNK RX11 243 Y_X11_holdsAt := mU_8 77 rfl rfl
theorem lk_X11_247 : LNK RX11 247 Y_X11_isDay := mU_8 61 rfl rfl
theorem lk_X11_250 : LNK RX11 250 Y_X11_turnedOn := mU_8 65 rfl rfl
theorem lk_X11_253 : LNK RX11 253 Y_X11_bitsAt := mU_8 73 rfl rfl
theorem lk_X11_256 : LNK RX11 256 Y_X11_inHouseAt := mU_8 89 rfl rfl
theorem lk_X11_259 : LNK RX11 259 Y_X11_inHouseBits := mU_8 85 rfl rfl
theorem lk_X11_262 : LNK RX11 262 Y_X11_ones := mU_8 105 rfl rfl
theorem lk_X11_265 : LNK RX11 265 Y_X11_otherHoldsAt := mU_8 108 rfl rfl
theorem lk_X11_268 : LNK RX11 268 Y_X11_isSuch := mU_8 101 rfl rfl
theorem lk_X11_271 : LNK RX11 271 Y_X11_bound := mU_8 116 rfl rfl
theorem lk_X11_274 : LNK RX11 274 Y_X11_canBe := mU_8 135 rfl rfl
theorem lk_X11_278 : LNK RX11 278 Y_X11_canBoth := mU_8 131 rfl rfl
theorem lk_X11_281 : LNK RX11 281 Y_X11_areLaws := mU_8 123 rfl rfl
theorem lk_X11_284 : LNK RX11 284 Y_X11_neverOf := mU_8 127 rfl rfl
theorem lk_X11_287 : LNK RX11 287 Y_X11_turnOf := mU_8 162 rfl rfl
theorem lk_X11_290 : LNK RX11 290 Y_X11_isCrowd := mU_8 175 rfl rfl
theorem lk_X11_296 : LNK RX11 296 Y_X11_lays := mU_8 171 rfl rfl
theorem lk_X11_303 : LNK RX11 303 Y_X11_isFit := mU_8 188 rfl rfl
theorem lk_X11_306 : LNK RX11 306 Y_X11_explains := mU_8 204 rfl rfl
theorem lk_X11_309 : LNK RX11 309 Y_X11_areAlike := mU_8 216 rfl rfl
theorem lk_X11_312 : LNK RX11 312 Y_X11_isFree := mU_8 236 rfl rfl
theorem lk_X11_315 : LNK RX11 315 Y_X11_isWork := mU_8 228 rfl rfl
theorem lk_X11_318 : LNK RX11 318 Y_X11_doneOf := mU_8 232 rfl rfl
theorem lk_X11_321 : LNK RX11 321 Y_X11_latestOf := mU_9 16 rfl rfl
theorem lk_X11_324 : LNK RX11 324 Y_X11_laysEarly := mU_9 8 rfl rfl
theorem lk_X11_327 : LNK RX11 327 Y_X11_laysLate := mU_9 12 rfl rfl
theorem lk_X11_330 : LNK RX11 330 Y_X11_orderOf := mU_9 20 rfl rfl
theorem lk_X11_333 : LNK RX11 333 Y_X11_badTwo := mU_9 32 rfl rfl
theorem lk_X11_336 : LNK RX11 336 Y_X11_isThiefs := mU_9 36 rfl rfl
theorem lk_X11_339 : LNK RX11 339 Y_X11_areOthers := mU_9 48 rfl rfl
theorem lk_X11_342 : LNK RX11 342 Y_X11_isTrade := mU_9 52 rfl rfl
theorem lk_X11_348 : LNK RX11 348 Y_X11_moves := mU_9 68 rfl rfl
theorem lk_X11_352 : LNK RX11 352 Y_X11_movesAll := mU_9 64 rfl rfl
