theorem ac_int : Cond.arrayClass .int ∈ UW := mU_1 68 rfl rfl
theorem ac_long : Cond.arrayClass .long ∈ UW := mU_1 116 rfl rfl
theorem ac_boolean : Cond.arrayClass .boolean ∈ UW := mU_1 219 rfl rfl
theorem oi_inst : Cond.instanceMethod Lib.objectInit ∈ UW := mU_1 33 rfl rfl
theorem oi_code : Cond.code Lib.objectInit ⟨#[0xb1]⟩ 1 none ∈ UW := mU_1 34 rfl rfl
def Mc_0 : PM := (fun _ _ => 0, fun _ _ => 0, fun _ _ => 0, fun _ _ => 0, fun _ _ _ => 0)
def rs_0 : List (Nat × Nat) := []
def k_X10_init_101 : List CI := (101, .aload_n 0, 1) :: (102, .new 42, 3) :: (105, .dup, 1) :: (106, .aload_n 2, 1) :: (107, .aload_n 3, 1) :: (108, .invokespecial 44, 3) :: (111, .putfield 47, 3) :: (114, .aload_n 0, 1) :: (115, .new 42, 3) :: (118, .dup, 1) :: (119, .aload_n 2, 1) :: (120, .aload_n 3, 1) :: (121, .invokespecial 44, 3) :: (124, .putfield 51, 3) :: (127, .aload_n 0, 1) :: (128, .new 54, 3) :: (131, .dup, 1) :: (132, .aload_n 1, 1) :: (133, .aload_n 2, 1) :: (134, .invokespecial 56, 3) :: (137, .putfield 59, 3) :: (140, .aload_n 0, 1) :: (141, .aload 4, 2) :: (143, .putfield 63, 3) :: (146, .aload_n 0, 1) :: (147, .new 67, 3) :: (150, .dup, 1) :: (151, .aload 4, 2) :: (153, .aload_n 3, 1) :: (154, .invokespecial 69, 3) :: (157, .putfield 72, 3) :: (160, .aload_n 0, 1) :: (161, .new 76, 3) :: (164, .dup, 1) :: (165, .aload_n 2, 1) :: (166, .aload_n 3, 1) :: (167, .invokespecial 78, 3) :: (170, .putfield 79, 3) :: (173, .aload_n 0, 1) :: (174, .new 83, 3) :: (177, .dup, 1) :: (178, .invokespecial 85, 3) :: (181, .putfield 86, 3) :: (184, .aload_n 0, 1) :: (185, .iconst (-1), 1) :: (186, .putfield 90, 3) :: (189, .return_, 1) :: []
def k_X10_init_75 : List CI := (75, .iload 5, 2) :: (77, .iconst 3, 1) :: (78, .if_icmp .ge 23, 3) :: (81, .aload_n 0, 1) :: (82, .getfield 38, 3) :: (85, .iload 5, 2) :: (87, .new 13, 3) :: (90, .dup, 1) :: (91, .invokespecial 15, 3) :: (94, .aastore, 1) :: (95, .iinc 5 1, 3) :: (98, .goto (-23), 3) :: k_X10_init_101
def k_X10_init_0 : List CI := (0, .aload_n 0, 1) :: (1, .invokespecial 1, 3) :: (4, .new 7, 3) :: (7, .dup, 1) :: (8, .invokespecial 9, 3) :: (11, .astore_n 1, 1) :: (12, .new 10, 3) :: (15, .dup, 1) :: (16, .invokespecial 12, 3) :: (19, .astore_n 2, 1) :: (20, .new 13, 3) :: (23, .dup, 1) :: (24, .invokespecial 15, 3) :: (27, .astore_n 3, 1) :: (28, .new 16, 3) :: (31, .dup, 1) :: (32, .aload_n 2, 1) :: (33, .invokespecial 18, 3) :: (36, .astore 4, 2) :: (38, .aload_n 0, 1) :: (39, .aload_n 1, 1) :: (40, .putfield 21, 3) :: (43, .aload_n 0, 1) :: (44, .aload_n 2, 1) :: (45, .putfield 27, 3) :: (48, .aload_n 0, 1) :: (49, .new 10, 3) :: (52, .dup, 1) :: (53, .invokespecial 12, 3) :: (56, .putfield 31, 3) :: (59, .aload_n 0, 1) :: (60, .aload_n 3, 1) :: (61, .putfield 34, 3) :: (64, .aload_n 0, 1) :: (65, .iconst 3, 1) :: (66, .anewarray 13, 3) :: (69, .putfield 38, 3) :: (72, .iconst 0, 1) :: (73, .istore 5, 2) :: k_X10_init_75
def Y_X10_init : MD := (yX10_init, cX10_init, 6, none, k_X10_init_0)
theorem cok_X10_init : COK Y_X10_init.2.1 Y_X10_init.code = true := by decide +kernel
theorem mok_X10_init : MOK Y_X10_init 0 := ⟨mU_1 31 rfl rfl, mU_1 1 rfl rfl, by decide, by decide, by decide +kernel, by decide⟩
theorem in_X10_init : Cond.instanceMethod Y_X10_init.1 ∈ UW := mU_1 30 rfl rfl
theorem nk_X10_7 : NEWK RX10 7 4 7 := ⟨RX4, TX4, tyX4, cls_4, mU_1 35 rfl rfl, mU_1 36 rfl rfl, mU_1 2 rfl rfl, fun j hj => by
  match j, hj with
  | 0, _ => rfl
  | 1, _ => rfl
  | 2, _ => rfl
  | 3, _ => rfl
  | 4, _ => rfl
  | 5, _ => rfl
  | 6, _ => rfl
  | j + 7, hj => exact absurd hj (by omega)⟩
def k_X4_init_0 : List CI := (0, .aload_n 0, 1) :: (1, .invokespecial 3, 3) :: (4, .aload_n 0, 1) :: (5, .sipush 500, 3) :: (8, .newarray .int, 2) :: (10, .putfield 11, 3) :: (13, .return_, 1) :: []
def Y_X4_init : MD := (yX4_init, cX4_init, 1, none, k_X4_init_0)
theorem cok_X4_init : COK Y_X4_init.2.1 Y_X4_init.code = true := by decide +kernel
theorem mok_X4_init : MOK Y_X4_init 0 := ⟨mU_1 39 rfl rfl, mU_1 2 rfl rfl, by decide, by decide, by decide +kernel, by decide⟩
theorem in_X4_init : Cond.instanceMethod Y_X4_init.1 ∈ UW := mU_1 38 rfl rfl
theorem fl_X4_11 : FOKL RX4 11 4 0 (tyX4 0) true := ⟨RX4, TX4, 7, tyX4, cls_4, by decide, rfl, rfl, rfl, mU_1 41 rfl rfl⟩
def rs_1 : List (Nat × Nat) := (1, 0) :: rs_0
set_option maxRecDepth 100000 in
theorem ct_X4_init_1 {l : Launch} : PCN l 1 1 500 Y_X4_init [vR 1] 2 rs_0 Mc_0 3 rs_1 Mc_0 := by
  refine pcn_of (ls := [vR 1]) (by decide +kernel) rfl cok_X4_init (Nat.le_of_ble_eq_true rfl) rfl (fun X hX hW => ?_) rfl
  refine n_aload_n hX rfl ?_
  refine n_obj hX (mU_1 40 rfl rfl) oi_inst oi_code ⟨(Nat.le_of_ble_eq_true rfl), (Nat.le_of_ble_eq_true rfl)⟩ (Nat.le_of_ble_eq_true rfl) ?_
  refine n_aload_n hX rfl ?_
  refine n_sipush hX (v := 500) (by decide) ?_
  refine n_newa (n := 2) (N := 500) hX rfl ac_int (Or.inl ⟨rfl, rfl⟩) ⟨by decide, by decide, (Nat.le_of_ble_eq_true rfl)⟩ gt_2 ⟨(Nat.le_of_ble_eq_true rfl), (Nat.le_of_ble_eq_true rfl)⟩ ⟨rfl, rfl⟩ ⟨(Nat.le_of_ble_eq_true rfl), (Nat.le_of_ble_eq_true rfl)⟩ ?_
  refine n_putR (r := 2) hX fl_X4_11 rfl gt_1 (Nat.le_of_ble_eq_true rfl) rfl (fun _ => ⟨rfl, rfl⟩) rfl (Nat.le_of_ble_eq_true rfl) ?_
  exact n_ret hX hW
theorem cl_X10_9 : LNN RX10 9 Y_X4_init := ⟨"WeekWheels", mN_1 37 rfl rfl⟩
theorem nk_X10_10 : NEWK RX10 10 0 8 := ⟨RX0, TX0, tyX0, cls_0, mU_1 69 rfl rfl, mU_1 70 rfl rfl, mU_1 3 rfl rfl, fun j hj => by
  match j, hj with
  | 0, _ => rfl
  | 1, _ => rfl
  | 2, _ => rfl
  | 3, _ => rfl
  | 4, _ => rfl
  | 5, _ => rfl
  | 6, _ => rfl
  | 7, _ => rfl
  | j + 8, hj => exact absurd hj (by omega)⟩
def k_X0_init_0 : List CI := (0, .aload_n 0, 1) :: (1, .invokespecial 3, 3) :: (4, .aload_n 0, 1) :: (5, .new 9, 3) :: (8, .dup, 1) :: (9, .bipush 12, 2) :: (11, .invokespecial 11, 3) :: (14, .putfield 14, 3) :: (17, .aload_n 0, 1) :: (18, .new 9, 3) :: (21, .dup, 1) :: (22, .bipush 6, 2) :: (24, .invokespecial 11, 3) :: (27, .putfield 20, 3) :: (30, .aload_n 0, 1) :: (31, .bipush 120, 2) :: (33, .newarray .int, 2) :: (35, .putfield 23, 3) :: (38, .aload_n 0, 1) :: (39, .iconst 3, 1) :: (40, .newarray .int, 2) :: (42, .putfield 27, 3) :: (45, .aload_n 0, 1) :: (46, .iconst 1, 1) :: (47, .putfield 30, 3) :: (50, .aload_n 0, 1) :: (51, .iconst 1, 1) :: (52, .putfield 34, 3) :: (55, .return_, 1) :: []
def Y_X0_init : MD := (yX0_init, cX0_init, 1, none, k_X0_init_0)
theorem cok_X0_init : COK Y_X0_init.2.1 Y_X0_init.code = true := by decide +kernel
theorem mok_X0_init : MOK Y_X0_init 0 := ⟨mU_1 73 rfl rfl, mU_1 3 rfl rfl, by decide, by decide, by decide +kernel, by decide⟩
theorem in_X0_init : Cond.instanceMethod Y_X0_init.1 ∈ UW := mU_1 72 rfl rfl
theorem nk_X0_9 : NEWK RX0 9 2 9 := ⟨RX2, TX2, tyX2, cls_2, mU_1 75 rfl rfl, mU_1 76 rfl rfl, mU_1 4 rfl rfl, fun j hj => by
  match j, hj with
  | 0, _ => rfl
  | 1, _ => rfl
  | 2, _ => rfl
  | 3, _ => rfl
  | 4, _ => rfl
  | 5, _ => rfl
  | 6, _ => rfl
  | 7, _ => rfl
  | 8, _ => rfl
  | j + 9, hj => exact absurd hj (by omega)⟩
def k_X2_init_0 : List CI := (0, .aload_n 0, 1) :: (1, .invokespecial 3, 3) :: (4, .iload_n 1, 1) :: (5, .iconst 1, 1) :: (6, .invokestatic 9, 3) :: (9, .istore_n 2, 1) :: (10, .aload_n 0, 1) :: (11, .iload_n 2, 1) :: (12, .newarray .int, 2) :: (14, .putfield 15, 3) :: (17, .aload_n 0, 1) :: (18, .iload_n 2, 1) :: (19, .newarray .int, 2) :: (21, .putfield 21, 3) :: (24, .aload_n 0, 1) :: (25, .iload_n 2, 1) :: (26, .newarray .long, 2) :: (28, .putfield 24, 3) :: (31, .aload_n 0, 1) :: (32, .iload_n 2, 1) :: (33, .newarray .int, 2) :: (35, .putfield 28, 3) :: (38, .return_, 1) :: []
def Y_X2_init : MD := (yX2_init, cX2_init, 3, none, k_X2_init_0)
theorem cok_X2_init : COK Y_X2_init.2.1 Y_X2_init.code = true := by decide +kernel
theorem mok_X2_init : MOK Y_X2_init 1 := ⟨mU_1 79 rfl rfl, mU_1 4 rfl rfl, by decide, by decide, by decide +kernel, by decide⟩
theorem in_X2_init : Cond.instanceMethod Y_X2_init.1 ∈ UW := mU_1 78 rfl rfl
theorem cl_X2_9 : LNK RX2 9 Y_J9_max_7cf53 := mU_1 81 rfl rfl
theorem fl_X2_15 : FOKL RX2 15 2 0 (tyX2 0) true := ⟨RX2, TX2, 9, tyX2, cls_2, by decide, rfl, rfl, rfl, mU_1 84 rfl rfl⟩
theorem fl_X2_21 : FOKL RX2 21 2 1 (tyX2 1) true := ⟨RX2, TX2, 9, tyX2, cls_2, by decide, rfl, rfl, rfl, mU_1 85 rfl rfl⟩
theorem fl_X2_24 : FOKL RX2 24 2 2 (tyX2 2) true := ⟨RX2, TX2, 9, tyX2, cls_2, by decide, rfl, rfl, rfl, mU_1 86 rfl rfl⟩
theorem fl_X2_28 : FOKL RX2 28 2 3 (tyX2 3) true := ⟨RX2, TX2, 9, tyX2, cls_2, by decide, rfl, rfl, rfl, mU_1 87 rfl rfl⟩
def rs_2 : List (Nat × Nat) := (4, 3) :: (4, 2) :: (4, 1) :: (4, 0) :: rs_1
set_option maxRecDepth 100000 in
theorem ct_X2_init_4 {l : Launch} : PCN l 1 4 48 Y_X2_init [vR 4, vI 12] 5 rs_1 Mc_0 9 rs_2 Mc_0 := by
  refine pcn_of (ls := [vR 4, vI 12, jk]) (by decide +kernel) rfl cok_X2_init (Nat.le_of_ble_eq_true rfl) rfl (fun X hX hW => ?_) rfl
  refine n_aload_n hX rfl ?_
  refine n_obj hX (mU_1 80 rfl rfl) oi_inst oi_code ⟨(Nat.le_of_ble_eq_true rfl), (Nat.le_of_ble_eq_true rfl)⟩ (Nat.le_of_ble_eq_true rfl) ?_
  refine n_iload_n hX rfl ?_
  refine n_iconst hX (v := 1) (by decide) ?_
  refine n_max hX cl_X2_9 (by decide) ⟨(Nat.le_of_ble_eq_true rfl), (Nat.le_of_ble_eq_true rfl), (Nat.le_of_ble_eq_true rfl), (Nat.le_of_ble_eq_true rfl)⟩ (Nat.le_of_ble_eq_true rfl) ?_
  refine n_istore_n hX (Nat.le_of_ble_eq_true rfl) rfl ?_
  refine n_aload_n hX rfl ?_
  refine n_iload_n hX rfl ?_
  refine n_newa (n := 5) (N := 12) hX rfl ac_int (Or.inl ⟨rfl, rfl⟩) ⟨by decide, by decide, (Nat.le_of_ble_eq_true rfl)⟩ gt_5 ⟨(Nat.le_of_ble_eq_true rfl), (Nat.le_of_ble_eq_true rfl)⟩ ⟨rfl, rfl⟩ ⟨(Nat.le_of_ble_eq_true rfl), (Nat.le_of_ble_eq_true rfl)⟩ ?_
  refine n_putR (r := 5) hX fl_X2_15 rfl gt_4 (Nat.le_of_ble_eq_true rfl) rfl (fun _ => ⟨rfl, rfl⟩) rfl (Nat.le_of_ble_eq_true rfl) ?_
  refine n_aload_n hX rfl ?_
  refine n_iload_n hX rfl ?_
  refine n_newa (n := 6) (N := 12) hX rfl ac_int (Or.inl ⟨rfl, rfl⟩) ⟨by decide, by decide, (Nat.le_of_ble_eq_true rfl)⟩ gt_6 ⟨(Nat.le_of_ble_eq_true rfl), (Nat.le_of_ble_eq_true rfl)⟩ ⟨rfl, rfl⟩ ⟨(Nat.le_of_ble_eq_true rfl), (Nat.le_of_ble_eq_true rfl)⟩ ?_
  refine n_putR (r := 6) hX fl_X2_21 rfl gt_4 (Nat.le_of_ble_eq_true rfl) rfl (fun _ => ⟨rfl, rfl⟩) rfl (Nat.le_of_ble_eq_true rfl) ?_
  refine n_aload_n hX rfl ?_
  refine n_iload_n hX rfl ?_
  refine n_newa (n := 7) (N := 12) hX rfl ac_long (Or.inr (Or.inl ⟨rfl, rfl⟩)) ⟨by decide, by decide, (Nat.le_of_ble_eq_true rfl)⟩ gt_7 ⟨(Nat.le_of_ble_eq_true rfl), (Nat.le_of_ble_eq_true rfl)⟩ ⟨rfl, rfl⟩ ⟨(Nat.le_of_ble_eq_true rfl), (Nat.le_of_ble_eq_true rfl)⟩ ?_
  refine n_putR (r := 7) hX fl_X2_24 rfl gt_4 (Nat.le_of_ble_eq_true rfl) rfl (fun _ => ⟨rfl, rfl⟩) rfl (Nat.le_of_ble_eq_true rfl) ?_
  refine n_aload_n hX rfl ?_
  refine n_iload_n hX rfl ?_
  refine n_newa (n := 8) (N := 12) hX rfl ac_int (Or.inl ⟨rfl, rfl⟩) ⟨by decide, by decide, (Nat.le_of_ble_eq_true rfl)⟩ gt_8 ⟨(Nat.le_of_ble_eq_true rfl), (Nat.le_of_ble_eq_true rfl)⟩ ⟨rfl, rfl⟩ ⟨(Nat.le_of_ble_eq_true rfl), (Nat.le_of_ble_eq_true rfl)⟩ ?_
  refine n_putR (r := 8) hX fl_X2_28 rfl gt_4 (Nat.le_of_ble_eq_true rfl) rfl (fun _ => ⟨rfl, rfl⟩) rfl (Nat.le_of_ble_eq_true rfl) ?_
  exact n_ret hX hW
theorem cl_X0_11 : LNN RX0 11 Y_X2_init := ⟨"WeekWheels", mN_1 77 rfl rfl⟩
theorem fl_X0_14 : FOKL RX0 14 0 0 (tyX0 0) true := ⟨RX0, TX0, 8, tyX0, cls_0, by decide, rfl, rfl, rfl, mU_1 117 rfl rfl⟩
def rs_3 : List (Nat × Nat) := (3, 0) :: rs_2
def rs_4 : List (Nat × Nat) := (9, 3) :: (9, 2) :: (9, 1) :: (9, 0) :: rs_3
set_option maxRecDepth 100000 in
theorem ct_X2_init_9 {l : Launch} : PCN l 1 4 24 Y_X2_init [vR 9, vI 6] 10 rs_3 Mc_0 14 rs_4 Mc_0 := by
  refine pcn_of (ls := [vR 9, vI 6, jk]) (by decide +kernel) rfl cok_X2_init (Nat.le_of_ble_eq_true rfl) rfl (fun X hX hW => ?_) rfl
  refine n_aload_n hX rfl ?_
  refine n_obj hX (mU_1 80 rfl rfl) oi_inst oi_code ⟨(Nat.le_of_ble_eq_true rfl), (Nat.le_of_ble_eq_true rfl)⟩ (Nat.le_of_ble_eq_true rfl) ?_
  refine n_iload_n hX rfl ?_
  refine n_iconst hX (v := 1) (by decide) ?_
  refine n_max hX cl_X2_9 (by decide) ⟨(Nat.le_of_ble_eq_true rfl), (Nat.le_of_ble_eq_true rfl), (Nat.le_of_ble_eq_true rfl), (Nat.le_of_ble_eq_true rfl)⟩ (Nat.le_of_ble_eq_true rfl) ?_
  refine n_istore_n hX (Nat.le_of_ble_eq_true rfl) rfl ?_
  refine n_aload_n hX rfl ?_
  refine n_iload_n hX rfl ?_
  refine n_newa (n := 10) (N := 6) hX rfl ac_int (Or.inl ⟨rfl, rfl⟩) ⟨by decide, by decide, (Nat.le_of_ble_eq_true rfl)⟩ gt_10 ⟨(Nat.le_of_ble_eq_true rfl), (Nat.le_of_ble_eq_true rfl)⟩ ⟨rfl, rfl⟩ ⟨(Nat.le_of_ble_eq_true rfl), (Nat.le_of_ble_eq_true rfl)⟩ ?_
  refine n_putR (r := 10) hX fl_X2_15 rfl gt_9 (Nat.le_of_ble_eq_true rfl) rfl (fun _ => ⟨rfl, rfl⟩) rfl (Nat.le_of_ble_eq_true rfl) ?_
  refine n_aload_n hX rfl ?_
  refine n_iload_n hX rfl ?_
  refine n_newa (n := 11) (N := 6) hX rfl ac_int (Or.inl ⟨rfl, rfl⟩) ⟨by decide, by decide, (Nat.le_of_ble_eq_true rfl)⟩ gt_11 ⟨(Nat.le_of_ble_eq_true rfl), (Nat.le_of_ble_eq_true rfl)⟩ ⟨rfl, rfl⟩ ⟨(Nat.le_of_ble_eq_true rfl), (Nat.le_of_ble_eq_true rfl)⟩ ?_
  refine n_putR (r := 11) hX fl_X2_21 rfl gt_9 (Nat.le_of_ble_eq_true rfl) rfl (fun _ => ⟨rfl, rfl⟩) rfl (Nat.le_of_ble_eq_true rfl) ?_
  refine n_aload_n hX rfl ?_
  refine n_iload_n hX rfl ?_
  refine n_newa (n := 12) (N := 6) hX rfl ac_long (Or.inr (Or.inl ⟨rfl, rfl⟩)) ⟨by decide, by decide, (Nat.le_of_ble_eq_true rfl)⟩ gt_12 ⟨(Nat.le_of_ble_eq_true rfl), (Nat.le_of_ble_eq_true rfl)⟩ ⟨rfl, rfl⟩ ⟨(Nat.le_of_ble_eq_true rfl), (Nat.le_of_ble_eq_true rfl)⟩ ?_
  refine n_putR (r := 12) hX fl_X2_24 rfl gt_9 (Nat.le_of_ble_eq_true rfl) rfl (fun _ => ⟨rfl, rfl⟩) rfl (Nat.le_of_ble_eq_true rfl) ?_
  refine n_aload_n hX rfl ?_
  refine n_iload_n hX rfl ?_
  refine n_newa (n := 13) (N := 6) hX rfl ac_int (Or.inl ⟨rfl, rfl⟩) ⟨by decide, by decide, (Nat.le_of_ble_eq_true rfl)⟩ gt_13 ⟨(Nat.le_of_ble_eq_true rfl), (Nat.le_of_ble_eq_true rfl)⟩ ⟨rfl, rfl⟩ ⟨(Nat.le_of_ble_eq_true rfl), (Nat.le_of_ble_eq_true rfl)⟩ ?_
  refine n_putR (r := 13) hX fl_X2_28 rfl gt_9 (Nat.le_of_ble_eq_true rfl) rfl (fun _ => ⟨rfl, rfl⟩) rfl (Nat.le_of_ble_eq_true rfl) ?_
  exact n_ret hX hW
theorem fl_X0_20 : FOKL RX0 20 0 1 (tyX0 1) true := ⟨RX0, TX0, 8, tyX0, cls_0, by decide, rfl, rfl, rfl, mU_1 123 rfl rfl⟩
theorem fl_X0_23 : FOKL RX0 23 0 2 (tyX0 2) true := ⟨RX0, TX0, 8, tyX0, cls_0, by decide, rfl, rfl, rfl, mU_1 128 rfl rfl⟩
theorem fl_X0_27 : FOKL RX0 27 0 3 (tyX0 3) true := ⟨RX0, TX0, 8, tyX0, cls_0, by decide, rfl, rfl, rfl, mU_1 130 rfl rfl⟩
theorem fl_X0_30 : FOKL RX0 30 0 6 .int false := ⟨RX0, TX0, 8, tyX0, cls_0, by decide, rfl, rfl, rfl, mU_1 136 rfl rfl⟩
theorem fl_X0_34 : FOKL RX0 34 0 7 .int false := ⟨RX0, TX0, 8, tyX0, cls_0, by decide, rfl, rfl, rfl, mU_1 139 rfl rfl⟩
def rs_5 : List (Nat × Nat) := (3, 3) :: (3, 2) :: (3, 1) :: rs_4
def Mc_1 : PM := (sI (sI Mc_0 3 6 1) 3 7 1)
set_option maxRecDepth 100000 in
theorem ct_X0_init_3 {l : Launch} : PCN l 2 12 213 Y_X0_init [vR 3] 4 rs_1 Mc_0 16 rs_5 Mc_1 := by
  refine pcn_of (ls := [vR 3]) (by decide +kernel) rfl cok_X0_init (Nat.le_of_ble_eq_true rfl) rfl (fun X hX hW => ?_) rfl
  refine n_aload_n hX rfl ?_
  refine n_obj hX (mU_1 74 rfl rfl) oi_inst oi_code ⟨(Nat.le_of_ble_eq_true rfl), (Nat.le_of_ble_eq_true rfl)⟩ (Nat.le_of_ble_eq_true rfl) ?_
  refine n_aload_n hX rfl ?_
  refine n_new (n := 4) hX nk_X0_9 gt_4 ⟨(Nat.le_of_ble_eq_true rfl), (Nat.le_of_ble_eq_true rfl)⟩ ⟨rfl, rfl⟩ ⟨(Nat.le_of_ble_eq_true rfl), (Nat.le_of_ble_eq_true rfl)⟩ ?_
  refine n_dup hX rfl ?_
  refine n_bipush hX (v := 12) (by decide) ?_
  refine n_call (d2 := 1) (ca := 4) (sl := 48) (as := [vI 12]) hX mok_X2_init rfl rfl in_X2_init (Or.inr cl_X0_11) rfl ⟨(Nat.le_of_ble_eq_true rfl), (Nat.le_of_ble_eq_true rfl), (Nat.le_of_ble_eq_true rfl), (Nat.le_of_ble_eq_true rfl)⟩ (Nat.le_of_ble_eq_true rfl) (Nat.le_of_ble_eq_true rfl) ⟨rfl, rfl⟩ rfl ct_X2_init_4 ?_
  refine n_putR (r := 4) hX fl_X0_14 rfl gt_3 (Nat.le_of_ble_eq_true rfl) rfl (fun _ => ⟨rfl, rfl⟩) rfl (Nat.le_of_ble_eq_true rfl) ?_
  refine n_aload_n hX rfl ?_
  refine n_new (n := 9) hX nk_X0_9 gt_9 ⟨(Nat.le_of_ble_eq_true rfl), (Nat.le_of_ble_eq_true rfl)⟩ ⟨rfl, rfl⟩ ⟨(Nat.le_of_ble_eq_true rfl), (Nat.le_of_ble_eq_true rfl)⟩ ?_
  refine n_dup hX rfl ?_
  refine n_bipush hX (v := 6) (by decide) ?_
  refine n_call (d2 := 1) (ca := 4) (sl := 24) (as := [vI 6]) hX mok_X2_init rfl rfl in_X2_init (Or.inr cl_X0_11) rfl ⟨(Nat.le_of_ble_eq_true rfl), (Nat.le_of_ble_eq_true rfl), (Nat.le_of_ble_eq_true rfl), (Nat.le_of_ble_eq_true rfl)⟩ (Nat.le_of_ble_eq_true rfl) (Nat.le_of_ble_eq_true rfl) ⟨rfl, rfl⟩ rfl ct_X2_init_9 ?_
  refine n_putR (r := 9) hX fl_X0_20 rfl gt_3 (Nat.le_of_ble_eq_true rfl) rfl (fun _ => ⟨rfl, rfl⟩) rfl (Nat.le_of_ble_eq_true rfl) ?_
  refine n_aload_n hX rfl ?_
  refine n_bipush hX (v := 120) (by decide) ?_
  refine n_newa (n := 14) (N := 120) hX rfl ac_int (Or.inl ⟨rfl, rfl⟩) ⟨by decide, by decide, (Nat.le_of_ble_eq_true rfl)⟩ gt_14 ⟨(Nat.le_of_ble_eq_true rfl), (Nat.le_of_ble_eq_true rfl)⟩ ⟨rfl, rfl⟩ ⟨(Nat.le_of_ble_eq_true rfl), (Nat.le_of_ble_eq_true rfl)⟩ ?_
  refine n_putR (r := 14) hX fl_X0_23 rfl gt_3 (Nat.le_of_ble_eq_true rfl) rfl (fun _ => ⟨rfl, rfl⟩) rfl (Nat.le_of_ble_eq_true rfl) ?_
  refine n_aload_n hX rfl ?_
  refine n_iconst hX (v := 3) (by decide) ?_
  refine n_newa (n := 15) (N := 3) hX rfl ac_int (Or.inl ⟨rfl, rfl⟩) ⟨by decide, by decide, (Nat.le_of_ble_eq_true rfl)⟩ gt_15 ⟨(Nat.le_of_ble_eq_true rfl), (Nat.le_of_ble_eq_true rfl)⟩ ⟨rfl, rfl⟩ ⟨(Nat.le_of_ble_eq_true rfl), (Nat.le_of_ble_eq_true rfl)⟩ ?_
  refine n_putR (r := 15) hX fl_X0_27 rfl gt_3 (Nat.le_of_ble_eq_true rfl) rfl (fun _ => ⟨rfl, rfl⟩) rfl (Nat.le_of_ble_eq_true rfl) ?_
  refine n_aload_n hX rfl ?_
  refine n_iconst hX (v := 1) (by decide) ?_
  refine n_putI hX fl_X0_30 rfl gt_3 (Nat.le_of_ble_eq_true rfl) rfl ?_
  refine n_aload_n hX rfl ?_
  refine n_iconst hX (v := 1) (by decide) ?_
  refine n_putI hX fl_X0_34 rfl gt_3 (Nat.le_of_ble_eq_true rfl) rfl ?_
  exact n_ret hX hW
theorem cl_X10_12 : LNN RX10 12 Y_X0_init := ⟨"WeekWheels", mN_1 71 rfl rfl⟩
theorem nk_X10_13 : NEWK RX10 13 3 13 := ⟨RX3, TX3, tyX3, cls_3, mU_1 159 rfl rfl, mU_1 160 rfl rfl, mU_1 6 rfl rfl, fun j hj => by
  match j, hj with
  | 0, _ => rfl
  | 1, _ => rfl
  | 2, _ => rfl
  | 3, _ => rfl
  | 4, _ => rfl
  | 5, _ => rfl
  | 6, _ => rfl
  | 7, _ => rfl
  | 8, _ => rfl
  | 9, _ => rfl
  | 10, _ => rfl
  | 11, _ => rfl
  | 12, _ => rfl
  | j + 13, hj => exact absurd hj (by omega)⟩
def k_X3_init_0 : List CI := (0, .aload_n 0, 1) :: (1, .invokespecial 3, 3) :: (4, .aload_n 0, 1) :: (5, .bipush 120, 2) :: (7, .newarray .int, 2) :: (9, .putfield 9, 3) :: (12, .aload_n 0, 1) :: (13, .bipush 20, 2) :: (15, .newarray .int, 2) :: (17, .putfield 15, 3) :: (20, .aload_n 0, 1) :: (21, .bipush 20, 2) :: (23, .newarray .int, 2) :: (25, .putfield 18, 3) :: (28, .aload_n 0, 1) :: (29, .bipush 20, 2) :: (31, .newarray .boolean, 2) :: (33, .putfield 21, 3) :: (36, .aload_n 0, 1) :: (37, .bipush 20, 2) :: (39, .newarray .int, 2) :: (41, .putfield 25, 3) :: (44, .aload_n 0, 1) :: (45, .bipush 20, 2) :: (47, .newarray .int, 2) :: (49, .putfield 28, 3) :: (52, .aload_n 0, 1) :: (53, .bipush 20, 2) :: (55, .newarray .int, 2) :: (57, .putfield 31, 3) :: (60, .aload_n 0, 1) :: (61, .bipush 20, 2) :: (63, .newarray .boolean, 2) :: (65, .putfield 34, 3) :: (68, .aload_n 0, 1) :: (69, .bipush 8, 2) :: (71, .newarray .int, 2) :: (73, .putfield 37, 3) :: (76, .aload_n 0, 1) :: (77, .bipush 8, 2) :: (79, .newarray .int, 2) :: (81, .putfield 40, 3) :: (84, .return_, 1) :: []
def Y_X3_init : MD := (yX3_init, cX3_init, 1, none, k_X3_init_0)
theorem cok_X3_init : COK Y_X3_init.2.1 Y_X3_init.code = true := by decide +kernel
theorem mok_X3_init : MOK Y_X3_init 0 := ⟨mU_1 163 rfl rfl, mU_1 6 rfl rfl, by decide, by decide, by decide +kernel, by decide⟩
theorem in_X3_init : Cond.instanceMethod Y_X3_init.1 ∈ UW := mU_1 162 rfl rfl
theorem fl_X3_9 : FOKL RX3 9 3 0 (tyX3 0) true := ⟨RX3, TX3, 13, tyX3, cls_3, by decide, rfl, rfl, rfl, mU_1 165 rfl rfl⟩
theorem fl_X3_15 : FOKL RX3 15 3 1 (tyX3 1) true := ⟨RX3, TX3, 13, tyX3, cls_3, by decide, rfl, rfl, rfl, mU_1 166 rfl rfl⟩
theorem fl_X3_18 : FOKL RX3 18 3 2 (tyX3 2) true := ⟨RX3, TX3, 13, tyX3, cls_3, by decide, rfl, rfl, rfl, mU_1 168 rfl rfl⟩
theorem fl_X3_21 : FOKL RX3 21 3 3 (tyX3 3) true := ⟨RX3, TX3, 13, tyX3, cls_3, by decide, rfl, rfl, rfl, mU_1 170 rfl rfl⟩
theorem fl_X3_25 : FOKL RX3 25 3 5 (tyX3 5) true := ⟨RX3, TX3, 13, tyX3, cls_3, by decide, rfl, rfl, rfl, mU_1 175 rfl rfl⟩
theorem fl_X3_28 : FOKL RX3 28 3 6 (tyX3 6) true := ⟨RX3, TX3, 13, tyX3, cls_3, by decide, rfl, rfl, rfl, mU_1 177 rfl rfl⟩
theorem fl_X3_31 : FOKL RX3 31 3 7 (tyX3 7) true := ⟨RX3, TX3, 13, tyX3, cls_3, by decide, rfl, rfl, rfl, mU_1 179 rfl rfl⟩
theorem fl_X3_34 : FOKL RX3 34 3 8 (tyX3 8) true := ⟨RX3, TX3, 13, tyX3, cls_3, by decide, rfl, rfl, rfl, mU_1 181 rfl rfl⟩
theorem fl_X3_37 : FOKL RX3 37 3 10 (tyX3 10) true := ⟨RX3, TX3, 13, tyX3, cls_3, by decide, rfl, rfl, rfl, mU_1 185 rfl rfl⟩
theorem fl_X3_40 : FOKL RX3 40 3 11 (tyX3 11) true := ⟨RX3, TX3, 13, tyX3, cls_3, by decide, rfl, rfl, rfl, mU_1 187 rfl rfl⟩
def rs_6 : List (Nat × Nat) := (16, 11) :: (16, 10) :: (16, 8) :: (16, 7) :: (16, 6) :: (16, 5) :: (16, 3) :: (16, 2) :: (16, 1) :: (16, 0) :: rs_5
set_option maxRecDepth 100000 in
theorem ct_X3_init_16 {l : Launch} : PCN l 1 10 276 Y_X3_init [vR 16] 17 rs_5 Mc_1 27 rs_6 Mc_1 := by
  refine pcn_of (ls := [vR 16]) (by decide +kernel) rfl cok_X3_init (Nat.le_of_ble_eq_true rfl) rfl (fun X hX hW => ?_) rfl
  refine n_aload_n hX rfl ?_
  refine n_obj hX (mU_1 164 rfl rfl) oi_inst oi_code ⟨(Nat.le_of_ble_eq_true rfl), (Nat.le_of_ble_eq_true rfl)⟩ (Nat.le_of_ble_eq_true rfl) ?_
  refine n_aload_n hX rfl ?_
  refine n_bipush hX (v := 120) (by decide) ?_
  refine n_newa (n := 17) (N := 120) hX rfl ac_int (Or.inl ⟨rfl, rfl⟩) ⟨by decide, by decide, (Nat.le_of_ble_eq_true rfl)⟩ gt_17 ⟨(Nat.le_of_ble_eq_true rfl), (Nat.le_of_ble_eq_true rfl)⟩ ⟨rfl, rfl⟩ ⟨(Nat.le_of_ble_eq_true rfl), (Nat.le_of_ble_eq_true rfl)⟩ ?_
  refine n_putR (r := 17) hX fl_X3_9 rfl gt_16 (Nat.le_of_ble_eq_true rfl) rfl (fun _ => ⟨rfl, rfl⟩) rfl (Nat.le_of_ble_eq_true rfl) ?_
  refine n_aload_n hX rfl ?_
  refine n_bipush hX (v := 20) (by decide) ?_
  refine n_newa (n := 18) (N := 20) hX rfl ac_int (Or.inl ⟨rfl, rfl⟩) ⟨by decide, by decide, (Nat.le_of_ble_eq_true rfl)⟩ gt_18 ⟨(Nat.le_of_ble_eq_true rfl), (Nat.le_of_ble_eq_true rfl)⟩ ⟨rfl, rfl⟩ ⟨(Nat.le_of_ble_eq_true rfl), (Nat.le_of_ble_eq_true rfl)⟩ ?_
  refine n_putR (r := 18) hX fl_X3_15 rfl gt_16 (Nat.le_of_ble_eq_true rfl) rfl (fun _ => ⟨rfl, rfl⟩) rfl (Nat.le_of_ble_eq_true rfl) ?_
  refine n_aload_n hX rfl ?_
  refine n_bipush hX (v := 20) (by decide) ?_
  refine n_newa (n := 19) (N := 20) hX rfl ac_int (Or.inl ⟨rfl, rfl⟩) ⟨by decide, by decide, (Nat.le_of_ble_eq_true rfl)⟩ gt_19 ⟨(Nat.le_of_ble_eq_true rfl), (Nat.le_of_ble_eq_true rfl)⟩ ⟨rfl, rfl⟩ ⟨(Nat.le_of_ble_eq_true rfl), (Nat.le_of_ble_eq_true rfl)⟩ ?_
  refine n_putR (r := 19) hX fl_X3_18 rfl gt_16 (Nat.le_of_ble_eq_true rfl) rfl (fun _ => ⟨rfl, rfl⟩) rfl (Nat.le_of_ble_eq_true rfl) ?_
  refine n_aload_n hX rfl ?_
  refine n_bipush hX (v := 20) (by decide) ?_
  refine n_newa (n := 20) (N := 20) hX rfl ac_boolean (Or.inr (Or.inr ⟨rfl, rfl⟩)) ⟨by decide, by decide, (Nat.le_of_ble_eq_true rfl)⟩ gt_20 ⟨(Nat.le_of_ble_eq_true rfl), (Nat.le_of_ble_eq_true rfl)⟩ ⟨rfl, rfl⟩ ⟨(Nat.le_of_ble_eq_true rfl), (Nat.le_of_ble_eq_true rfl)⟩ ?_
  refine n_putR (r := 20) hX fl_X3_21 rfl gt_16 (Nat.le_of_ble_eq_true rfl) rfl (fun _ => ⟨rfl, rfl⟩) rfl (Nat.le_of_ble_eq_true rfl) ?_
  refine n_aload_n hX rfl ?_
  refine n_bipush hX (v := 20) (by decide) ?_
  refine n_newa (n := 21) (N := 20) hX rfl ac_int (Or.inl ⟨rfl, rfl⟩) ⟨by decide, by decide, (Nat.le_of_ble_eq_true rfl)⟩ gt_21 ⟨(Nat.le_of_ble_eq_true rfl), (Nat.le_of_ble_eq_true rfl)⟩ ⟨rfl, rfl⟩ ⟨(Nat.le_of_ble_eq_true rfl), (Nat.le_of_ble_eq_true rfl)⟩ ?_
  refine n_putR (r := 21) hX fl_X3_25 rfl gt_16 (Nat.le_of_ble_eq_true rfl) rfl (fun _ => ⟨rfl, rfl⟩) rfl (Nat.le_of_ble_eq_true rfl) ?_
  refine n_aload_n hX rfl ?_
  refine n_bipush hX (v := 20) (by decide) ?_
  refine n_newa (n := 22) (N := 20) hX rfl ac_int (Or.inl ⟨rfl, rfl⟩) ⟨by decide, by decide, (Nat.le_of_ble_eq_true rfl)⟩ gt_22 ⟨(Nat.le_of_ble_eq_true rfl), (Nat.le_of_ble_eq_true rfl)⟩ ⟨rfl, rfl⟩ ⟨(Nat.le_of_ble_eq_true rfl), (Nat.le_of_ble_eq_true rfl)⟩ ?_
  refine n_putR (r := 22) hX fl_X3_28 rfl gt_16 (Nat.le_of_ble_eq_true rfl) rfl (fun _ => ⟨rfl, rfl⟩) rfl (Nat.le_of_ble_eq_true rfl) ?_
  refine n_aload_n hX rfl ?_
  refine n_bipush hX (v := 20) (by decide) ?_
  refine n_newa (n := 23) (N := 20) hX rfl ac_int (Or.inl ⟨rfl, rfl⟩) ⟨by decide, by decide, (Nat.le_of_ble_eq_true rfl)⟩ gt_23 ⟨(Nat.le_of_ble_eq_true rfl), (Nat.le_of_ble_eq_true rfl)⟩ ⟨rfl, rfl⟩ ⟨(Nat.le_of_ble_eq_true rfl), (Nat.le_of_ble_eq_true rfl)⟩ ?_
  refine n_putR (r := 23) hX fl_X3_31 rfl gt_16 (Nat.le_of_ble_eq_true rfl) rfl (fun _ => ⟨rfl, rfl⟩) rfl (Nat.le_of_ble_eq_true rfl) ?_
  refine n_aload_n hX rfl ?_
  refine n_bipush hX (v := 20) (by decide) ?_
  refine n_newa (n := 24) (N := 20) hX rfl ac_boolean (Or.inr (Or.inr ⟨rfl, rfl⟩)) ⟨by decide, by decide, (Nat.le_of_ble_eq_true rfl)⟩ gt_24 ⟨(Nat.le_of_ble_eq_true rfl), (Nat.le_of_ble_eq_true rfl)⟩ ⟨rfl, rfl⟩ ⟨(Nat.le_of_ble_eq_true rfl), (Nat.le_of_ble_eq_true rfl)⟩ ?_
  refine n_putR (r := 24) hX fl_X3_34 rfl gt_16 (Nat.le_of_ble_eq_true rfl) rfl (fun _ => ⟨rfl, rfl⟩) rfl (Nat.le_of_ble_eq_true rfl) ?_
  refine n_aload_n hX rfl ?_
  refine n_bipush hX (v := 8) (by decide) ?_
  refine n_newa (n := 25) (N := 8) hX rfl ac_int (Or.inl ⟨rfl, rfl⟩) ⟨by decide, by decide, (Nat.le_of_ble_eq_true rfl)⟩ gt_25 ⟨(Nat.le_of_ble_eq_true rfl), (Nat.le_of_ble_eq_true rfl)⟩ ⟨rfl, rfl⟩ ⟨(Nat.le_of_ble_eq_true rfl), (Nat.le_of_ble_eq_true rfl)⟩ ?_
  refine n_putR (r := 25) hX fl_X3_37 rfl gt_16 (Nat.le_of_ble_eq_true rfl) rfl (fun _ => ⟨rfl, rfl⟩) rfl (Nat.le_of_ble_eq_true rfl) ?_
  refine n_aload_n hX rfl ?_
  refine n_bipush hX (v := 8) (by decide) ?_
  refine n_newa (n := 26) (N := 8) hX rfl ac_int (Or.inl ⟨rfl, rfl⟩) ⟨by decide, by decide, (Nat.le_of_ble_eq_true rfl)⟩ gt_26 ⟨(Nat.le_of_ble_eq_true rfl), (Nat.le_of_ble_eq_true rfl)⟩ ⟨rfl, rfl⟩ ⟨(Nat.le_of_ble_eq_true rfl), (Nat.le_of_ble_eq_true rfl)⟩ ?_
  refine n_putR (r := 26) hX fl_X3_40 rfl gt_16 (Nat.le_of_ble_eq_true rfl) rfl (fun _ => ⟨rfl, rfl⟩) rfl (Nat.le_of_ble_eq_true rfl) ?_
  exact n_ret hX hW
theorem cl_X10_15 : LNN RX10 15 Y_X3_init := ⟨"WeekWheels", mN_1 161 rfl rfl⟩
theorem nk_X10_16 : NEWK RX10 16 1 8 := ⟨RX1, TX1, tyX1, cls_1, mU_1 220 rfl rfl, mU_1 221 rfl rfl, mU_1 7 rfl rfl, fun j hj => by
  match j, hj with
  | 0, _ => rfl
  | 1, _ => rfl
  | 2, _ => rfl
  | 3, _ => rfl
  | 4, _ => rfl
  | 5, _ => rfl
  | 6, _ => rfl
  | 7, _ => rfl
  | j + 8, hj => exact absurd hj (by omega)⟩
def k_X1_init_0 : List CI := (0, .aload_n 0, 1) :: (1, .invokespecial 3, 3) :: (4, .aload_n 0, 1) :: (5, .bipush 24, 2) :: (7, .newarray .int, 2) :: (9, .putfield 9, 3) :: (12, .aload_n 0, 1) :: (13, .iconst 1, 1) :: (14, .putfield 15, 3) :: (17, .aload_n 0, 1) :: (18, .aload_n 1, 1) :: (19, .putfield 19, 3) :: (22, .return_, 1) :: []
def Y_X1_init : MD := (yX1_init, cX1_init, 2, none, k_X1_init_0)
theorem cok_X1_init : COK Y_X1_init.2.1 Y_X1_init.code = true := by decide +kernel
theorem mok_X1_init : MOK Y_X1_init 1 := ⟨mU_1 224 rfl rfl, mU_1 7 rfl rfl, by decide, by decide, by decide +kernel, by decide⟩
theorem in_X1_init : Cond.instanceMethod Y_X1_init.1 ∈ UW := mU_1 223 rfl rfl
theorem fl_X1_9 : FOKL RX1 9 1 1 (tyX1 1) true := ⟨RX1, TX1, 8, tyX1, cls_1, by decide, rfl, rfl, rfl, mU_1 227 rfl rfl⟩
theorem fl_X1_15 : FOKL RX1 15 1 4 .int false := ⟨RX1, TX1, 8, tyX1, cls_1, by decide, rfl, rfl, rfl, mU_1 230 rfl rfl⟩
theorem fl_X1_19 : FOKL RX1 19 1 0 (tyX1 0) true := ⟨RX1, TX1, 8, tyX1, cls_1, by decide, rfl, rfl, rfl, mU_1 226 rfl rfl⟩
def rs_7 : List (Nat × Nat) := (27, 0) :: (27, 1) :: rs_6
def Mc_2 : PM := (sI Mc_1 27 4 1)
set_option maxRecDepth 100000 in
theorem ct_X1_init_27 {l : Launch} : PCN l 1 1 24 Y_X1_init [vR 27, vR 3] 28 rs_6 Mc_1 29 rs_7 Mc_2 := by
  refine pcn_of (ls := [vR 27, vR 3]) (by decide +kernel) rfl cok_X1_init (Nat.le_of_ble_eq_true rfl) rfl (fun X hX hW => ?_) rfl
  refine n_aload_n hX rfl ?_
  refine n_obj hX (mU_1 225 rfl rfl) oi_inst oi_code ⟨(Nat.le_of_ble_eq_true rfl), (Nat.le_of_ble_eq_true rfl)⟩ (Nat.le_of_ble_eq_true rfl) ?_
  refine n_aload_n hX rfl ?_
  refine n_bipush hX (v := 24) (by decide) ?_
  refine n_newa (n := 28) (N := 24) hX rfl ac_int (Or.inl ⟨rfl, rfl⟩) ⟨by decide, by decide, (Nat.le_of_ble_eq_true rfl)⟩ gt_28 ⟨(Nat.le_of_ble_eq_true rfl), (Nat.le_of_ble_eq_true rfl)⟩ ⟨rfl, rfl⟩ ⟨(Nat.le_of_ble_eq_true rfl), (Nat.le_of_ble_eq_true rfl)⟩ ?_
  refine n_putR (r := 28) hX fl_X1_9 rfl gt_27 (Nat.le_of_ble_eq_true rfl) rfl (fun _ => ⟨rfl, rfl⟩) rfl (Nat.le_of_ble_eq_true rfl) ?_
  refine n_aload_n hX rfl ?_
  refine n_iconst hX (v := 1) (by decide) ?_
  refine n_putI hX fl_X1_15 rfl gt_27 (Nat.le_of_ble_eq_true rfl) rfl ?_
  refine n_aload_n hX rfl ?_
  refine n_aload_n hX rfl ?_
  refine n_putR (r := 3) hX fl_X1_19 rfl gt_27 (Nat.le_of_ble_eq_true rfl) rfl (fun _ => ⟨rfl, rfl⟩) rfl (Nat.le_of_ble_eq_true rfl) ?_
  exact n_ret hX hW
theorem cl_X10_18 : LNN RX10 18 Y_X1_init := ⟨"WeekWheels", mN_1 222 rfl rfl⟩
theorem fl_X10_21 : FOKL RX10 21 10 0 (tyX10 0) true := ⟨RX10, TX10, 17, tyX10, cls_10, by decide, rfl, rfl, rfl, mU_2 132 rfl rfl⟩
theorem fl_X10_27 : FOKL RX10 27 10 1 (tyX10 1) true := ⟨RX10, TX10, 17, tyX10, cls_10, by decide, rfl, rfl, rfl, mU_2 133 rfl rfl⟩
def rs_8 : List (Nat × Nat) := (0, 1) :: (0, 0) :: rs_7
def rs_9 : List (Nat × Nat) := (30, 3) :: (30, 2) :: (30, 1) :: (30, 0) :: rs_8
set_option maxRecDepth 100000 in
theorem ct_X2_init_30 {l : Launch} : PCN l 1 4 48 Y_X2_init [vR 30, vI 12] 31 rs_8 Mc_2 35 rs_9 Mc_2 := by
  refine pcn_of (ls := [vR 30, vI 12, jk]) (by decide +kernel) rfl cok_X2_init (Nat.le_of_ble_eq_true rfl) rfl (fun X hX hW => ?_) rfl
  refine n_aload_n hX rfl ?_
  refine n_obj hX (mU_1 80 rfl rfl) oi_inst oi_code ⟨(Nat.le_of_ble_eq_true rfl), (Nat.le_of_ble_eq_true rfl)⟩ (Nat.le_of_ble_eq_true rfl) ?_
  refine n_iload_n hX rfl ?_
  refine n_iconst hX (v := 1) (by decide) ?_
  refine n_max hX cl_X2_9 (by decide) ⟨(Nat.le_of_ble_eq_true rfl), (Nat.le_of_ble_eq_true rfl), (Nat.le_of_ble_eq_true rfl), (Nat.le_of_ble_eq_true rfl)⟩ (Nat.le_of_ble_eq_true rfl) ?_
  refine n_istore_n hX (Nat.le_of_ble_eq_true rfl) rfl ?_
  refine n_aload_n hX rfl ?_
  refine n_iload_n hX rfl ?_
  refine n_newa (n := 31) (N := 12) hX rfl ac_int (Or.inl ⟨rfl, rfl⟩) ⟨by decide, by decide, (Nat.le_of_ble_eq_true rfl)⟩ gt_31 ⟨(Nat.le_of_ble_eq_true rfl), (Nat.le_of_ble_eq_true rfl)⟩ ⟨rfl, rfl⟩ ⟨(Nat.le_of_ble_eq_true rfl), (Nat.le_of_ble_eq_true rfl)⟩ ?_
  refine n_putR (r := 31) hX fl_X2_15 rfl gt_30 (Nat.le_of_ble_eq_true rfl) rfl (fun _ => ⟨rfl, rfl⟩) rfl (Nat.le_of_ble_eq_true rfl) ?_
  refine n_aload_n hX rfl ?_
  refine n_iload_n hX rfl ?_
  refine n_newa (n := 32) (N := 12) hX rfl ac_int (Or.inl ⟨rfl, rfl⟩) ⟨by decide, by decide, (Nat.le_of_ble_eq_true rfl)⟩ gt_32 ⟨(Nat.le_of_ble_eq_true rfl), (Nat.le_of_ble_eq_true rfl)⟩ ⟨rfl, rfl⟩ ⟨(Nat.le_of_ble_eq_true rfl), (Nat.le_of_ble_eq_true rfl)⟩ ?_
  refine n_putR (r := 32) hX fl_X2_21 rfl gt_30 (Nat.le_of_ble_eq_true rfl) rfl (fun _ => ⟨rfl, rfl⟩) rfl (Nat.le_of_ble_eq_true rfl) ?_
  refine n_aload_n hX rfl ?_
  refine n_iload_n hX rfl ?_
  refine n_newa (n := 33) (N := 12) hX rfl ac_long (Or.inr (Or.inl ⟨rfl, rfl⟩)) ⟨by decide, by decide, (Nat.le_of_ble_eq_true rfl)⟩ gt_33 ⟨(Nat.le_of_ble_eq_true rfl), (Nat.le_of_ble_eq_true rfl)⟩ ⟨rfl, rfl⟩ ⟨(Nat.le_of_ble_eq_true rfl), (Nat.le_of_ble_eq_true rfl)⟩ ?_
  refine n_putR (r := 33) hX fl_X2_24 rfl gt_30 (Nat.le_of_ble_eq_true rfl) rfl (fun _ => ⟨rfl, rfl⟩) rfl (Nat.le_of_ble_eq_true rfl) ?_
  refine n_aload_n hX rfl ?_
  refine n_iload_n hX rfl ?_
  refine n_newa (n := 34) (N := 12) hX rfl ac_int (Or.inl ⟨rfl, rfl⟩) ⟨by decide, by decide, (Nat.le_of_ble_eq_true rfl)⟩ gt_34 ⟨(Nat.le_of_ble_eq_true rfl), (Nat.le_of_ble_eq_true rfl)⟩ ⟨rfl, rfl⟩ ⟨(Nat.le_of_ble_eq_true rfl), (Nat.le_of_ble_eq_true rfl)⟩ ?_
  refine n_putR (r := 34) hX fl_X2_28 rfl gt_30 (Nat.le_of_ble_eq_true rfl) rfl (fun _ => ⟨rfl, rfl⟩) rfl (Nat.le_of_ble_eq_true rfl) ?_
  exact n_ret hX hW
def rs_10 : List (Nat × Nat) := (29, 0) :: rs_9
def rs_11 : List (Nat × Nat) := (35, 3) :: (35, 2) :: (35, 1) :: (35, 0) :: rs_10
set_option maxRecDepth 100000 in
theorem ct_X2_init_35 {l : Launch} : PCN l 1 4 24 Y_X2_init [vR 35, vI 6] 36 rs_10 Mc_2 40 rs_11 Mc_2 := by
  refine pcn_of (ls := [vR 35, vI 6, jk]) (by decide +kernel) rfl cok_X2_init (Nat.le_of_ble_eq_true rfl) rfl (fun X hX hW => ?_) rfl
  refine n_aload_n hX rfl ?_
  refine n_obj hX (mU_1 80 rfl rfl) oi_inst oi_code ⟨(Nat.le_of_ble_eq_true rfl), (Nat.le_of_ble_eq_true rfl)⟩ (Nat.le_of_ble_eq_true rfl) ?_
  refine n_iload_n hX rfl ?_
  refine n_iconst hX (v := 1) (by decide) ?_
  refine n_max hX cl_X2_9 (by decide) ⟨(Nat.le_of_ble_eq_true rfl), (Nat.le_of_ble_eq_true rfl), (Nat.le_of_ble_eq_true rfl), (Nat.le_of_ble_eq_true rfl)⟩ (Nat.le_of_ble_eq_true rfl) ?_
  refine n_istore_n hX (Nat.le_of_ble_eq_true rfl) rfl ?_
  refine n_aload_n hX rfl ?_
  refine n_iload_n hX rfl ?_
  refine n_newa (n := 36) (N := 6) hX rfl ac_int (Or.inl ⟨rfl, rfl⟩) ⟨by decide, by decide, (Nat.le_of_ble_eq_true rfl)⟩ gt_36 ⟨(Nat.le_of_ble_eq_true rfl), (Nat.le_of_ble_eq_true rfl)⟩ ⟨rfl, rfl⟩ ⟨(Nat.le_of_ble_eq_true rfl), (Nat.le_of_ble_eq_true rfl)⟩ ?_
  refine n_putR (r := 36) hX fl_X2_15 rfl gt_35 (Nat.le_of_ble_eq_true rfl) rfl (fun _ => ⟨rfl, rfl⟩) rfl (Nat.le_of_ble_eq_true rfl) ?_
  refine n_aload_n hX rfl ?_
  refine n_iload_n hX rfl ?_
  refine n_newa (n := 37) (N := 6) hX rfl ac_int (Or.inl ⟨rfl, rfl⟩) ⟨by decide, by decide, (Nat.le_of_ble_eq_true rfl)⟩ gt_37 ⟨(Nat.le_of_ble_eq_true rfl), (Nat.le_of_ble_eq_true rfl)⟩ ⟨rfl, rfl⟩ ⟨(Nat.le_of_ble_eq_true rfl), (Nat.le_of_ble_eq_true rfl)⟩ ?_
  refine n_putR (r := 37) hX fl_X2_21 rfl gt_35 (Nat.le_of_ble_eq_true rfl) rfl (fun _ => ⟨rfl, rfl⟩) rfl (Nat.le_of_ble_eq_true rfl) ?_
  refine n_aload_n hX rfl ?_
  refine n_iload_n hX rfl ?_
  refine n_newa (n := 38) (N := 6) hX rfl ac_long (Or.inr (Or.inl ⟨rfl, rfl⟩)) ⟨by decide, by decide, (Nat.le_of_ble_eq_true rfl)⟩ gt_38 ⟨(Nat.le_of_ble_eq_true rfl), (Nat.le_of_ble_eq_true rfl)⟩ ⟨rfl, rfl⟩ ⟨(Nat.le_of_ble_eq_true rfl), (Nat.le_of_ble_eq_true rfl)⟩ ?_
  refine n_putR (r := 38) hX fl_X2_24 rfl gt_35 (Nat.le_of_ble_eq_true rfl) rfl (fun _ => ⟨rfl, rfl⟩) rfl (Nat.le_of_ble_eq_true rfl) ?_
  refine n_aload_n hX rfl ?_
  refine n_iload_n hX rfl ?_
  refine n_newa (n := 39) (N := 6) hX rfl ac_int (Or.inl ⟨rfl, rfl⟩) ⟨by decide, by decide, (Nat.le_of_ble_eq_true rfl)⟩ gt_39 ⟨(Nat.le_of_ble_eq_true rfl), (Nat.le_of_ble_eq_true rfl)⟩ ⟨rfl, rfl⟩ ⟨(Nat.le_of_ble_eq_true rfl), (Nat.le_of_ble_eq_true rfl)⟩ ?_
  refine n_putR (r := 39) hX fl_X2_28 rfl gt_35 (Nat.le_of_ble_eq_true rfl) rfl (fun _ => ⟨rfl, rfl⟩) rfl (Nat.le_of_ble_eq_true rfl) ?_
  exact n_ret hX hW
def rs_12 : List (Nat × Nat) := (29, 3) :: (29, 2) :: (29, 1) :: rs_11
def Mc_3 : PM := (sI (sI Mc_2 29 6 1) 29 7 1)
set_option maxRecDepth 100000 in
theorem ct_X0_init_29 {l : Launch} : PCN l 2 12 213 Y_X0_init [vR 29] 30 rs_8 Mc_2 42 rs_12 Mc_3 := by
  refine pcn_of (ls := [vR 29]) (by decide +kernel) rfl cok_X0_init (Nat.le_of_ble_eq_true rfl) rfl (fun X hX hW => ?_) rfl
  refine n_aload_n hX rfl ?_
  refine n_obj hX (mU_1 74 rfl rfl) oi_inst oi_code ⟨(Nat.le_of_ble_eq_true rfl), (Nat.le_of_ble_eq_true rfl)⟩ (Nat.le_of_ble_eq_true rfl) ?_
  refine n_aload_n hX rfl ?_
  refine n_new (n := 30) hX nk_X0_9 gt_30 ⟨(Nat.le_of_ble_eq_true rfl), (Nat.le_of_ble_eq_true rfl)⟩ ⟨rfl, rfl⟩ ⟨(Nat.le_of_ble_eq_true rfl), (Nat.le_of_ble_eq_true rfl)⟩ ?_
  refine n_dup hX rfl ?_
  refine n_bipush hX (v := 12) (by decide) ?_
  refine n_call (d2 := 1) (ca := 4) (sl := 48) (as := [vI 12]) hX mok_X2_init rfl rfl in_X2_init (Or.inr cl_X0_11) rfl ⟨(Nat.le_of_ble_eq_true rfl), (Nat.le_of_ble_eq_true rfl), (Nat.le_of_ble_eq_true rfl), (Nat.le_of_ble_eq_true rfl)⟩ (Nat.le_of_ble_eq_true rfl) (Nat.le_of_ble_eq_true rfl) ⟨rfl, rfl⟩ rfl ct_X2_init_30 ?_
  refine n_putR (r := 30) hX fl_X0_14 rfl gt_29 (Nat.le_of_ble_eq_true rfl) rfl (fun _ => ⟨rfl, rfl⟩) rfl (Nat.le_of_ble_eq_true rfl) ?_
  refine n_aload_n hX rfl ?_
  refine n_new (n := 35) hX nk_X0_9 gt_35 ⟨(Nat.le_of_ble_eq_true rfl), (Nat.le_of_ble_eq_true rfl)⟩ ⟨rfl, rfl⟩ ⟨(Nat.le_of_ble_eq_true rfl), (Nat.le_of_ble_eq_true rfl)⟩ ?_
  refine n_dup hX rfl ?_
  refine n_bipush hX (v := 6) (by decide) ?_
  refine n_call (d2 := 1) (ca := 4) (sl := 24) (as := [vI 6]) hX mok_X2_init rfl rfl in_X2_init (Or.inr cl_X0_11) rfl ⟨(Nat.le_of_ble_eq_true rfl), (Nat.le_of_ble_eq_true rfl), (Nat.le_of_ble_eq_true rfl), (Nat.le_of_ble_eq_true rfl)⟩ (Nat.le_of_ble_eq_true rfl) (Nat.le_of_ble_eq_true rfl) ⟨rfl, rfl⟩ rfl ct_X2_init_35 ?_
  refine n_putR (r := 35) hX fl_X0_20 rfl gt_29 (Nat.le_of_ble_eq_true rfl) rfl (fun _ => ⟨rfl, rfl⟩) rfl (Nat.le_of_ble_eq_true rfl) ?_
  refine n_aload_n hX rfl ?_
  refine n_bipush hX (v := 120) (by decide) ?_
  refine n_newa (n := 40) (N := 120) hX rfl ac_int (Or.inl ⟨rfl, rfl⟩) ⟨by decide, by decide, (Nat.le_of_ble_eq_true rfl)⟩ gt_40 ⟨(Nat.le_of_ble_eq_true rfl), (Nat.le_of_ble_eq_true rfl)⟩ ⟨rfl, rfl⟩ ⟨(Nat.le_of_ble_eq_true rfl), (Nat.le_of_ble_eq_true rfl)⟩ ?_
  refine n_putR (r := 40) hX fl_X0_23 rfl gt_29 (Nat.le_of_ble_eq_true rfl) rfl (fun _ => ⟨rfl, rfl⟩) rfl (Nat.le_of_ble_eq_true rfl) ?_
  refine n_aload_n hX rfl ?_
  refine n_iconst hX (v := 3) (by decide) ?_
  refine n_newa (n := 41) (N := 3) hX rfl ac_int (Or.inl ⟨rfl, rfl⟩) ⟨by decide, by decide, (Nat.le_of_ble_eq_true rfl)⟩ gt_41 ⟨(Nat.le_of_ble_eq_true rfl), (Nat.le_of_ble_eq_true rfl)⟩ ⟨rfl, rfl⟩ ⟨(Nat.le_of_ble_eq_true rfl), (Nat.le_of_ble_eq_true rfl)⟩ ?_
  refine n_putR (r := 41) hX fl_X0_27 rfl gt_29 (Nat.le_of_ble_eq_true rfl) rfl (fun _ => ⟨rfl, rfl⟩) rfl (Nat.le_of_ble_eq_true rfl) ?_
  refine n_aload_n hX rfl ?_
  refine n_iconst hX (v := 1) (by decide) ?_
  refine n_putI hX fl_X0_30 rfl gt_29 (Nat.le_of_ble_eq_true rfl) rfl ?_
  refine n_aload_n hX rfl ?_
  refine n_iconst hX (v := 1) (by decide) ?_
  refine n_putI hX fl_X0_34 rfl gt_29 (Nat.le_of_ble_eq_true rfl) rfl ?_
  exact n_ret hX hW
theorem fl_X10_31 : FOKL RX10 31 10 2 (tyX10 2) true := ⟨RX10, TX10, 17, tyX10, cls_10, by decide, rfl, rfl, rfl, mU_2 134 rfl rfl⟩
theorem fl_X10_34 : FOKL RX10 34 10 3 (tyX10 3) true := ⟨RX10, TX10, 17, tyX10, cls_10, by decide, rfl, rfl, rfl, mU_2 135 rfl rfl⟩
theorem fl_X10_38 : FOKL RX10 38 10 4 (tyX10 4) true := ⟨RX10, TX10, 17, tyX10, cls_10, by decide, rfl, rfl, rfl, mU_2 136 rfl rfl⟩
def rs_13 : List (Nat × Nat) := (0, 4) :: (0, 3) :: (0, 2) :: rs_12
def rs_14 : List (Nat × Nat) := (43, 11) :: (43, 10) :: (43, 8) :: (43, 7) :: (43, 6) :: (43, 5) :: (43, 3) :: (43, 2) :: (43, 1) :: (43, 0) :: rs_13
set_option maxRecDepth 100000 in
theorem ct_X3_init_43 {l : Launch} : PCN l 1 10 276 Y_X3_init [vR 43] 44 rs_13 Mc_3 54 rs_14 Mc_3 := by
  refine pcn_of (ls := [vR 43]) (by decide +kernel) rfl cok_X3_init (Nat.le_of_ble_eq_true rfl) rfl (fun X hX hW => ?_) rfl
  refine n_aload_n hX rfl ?_
  refine n_obj hX (mU_1 164 rfl rfl) oi_inst oi_code ⟨(Nat.le_of_ble_eq_true rfl), (Nat.le_of_ble_eq_true rfl)⟩ (Nat.le_of_ble_eq_true rfl) ?_
  refine n_aload_n hX rfl ?_
  refine n_bipush hX (v := 120) (by decide) ?_
  refine n_newa (n := 44) (N := 120) hX rfl ac_int (Or.inl ⟨rfl, rfl⟩) ⟨by decide, by decide, (Nat.le_of_ble_eq_true rfl)⟩ gt_44 ⟨(Nat.le_of_ble_eq_true rfl), (Nat.le_of_ble_eq_true rfl)⟩ ⟨rfl, rfl⟩ ⟨(Nat.le_of_ble_eq_true rfl), (Nat.le_of_ble_eq_true rfl)⟩ ?_
  refine n_putR (r := 44) hX fl_X3_9 rfl gt_43 (Nat.le_of_ble_eq_true rfl) rfl (fun _ => ⟨rfl, rfl⟩) rfl (Nat.le_of_ble_eq_true rfl) ?_
  refine n_aload_n hX rfl ?_
  refine n_bipush hX (v := 20) (by decide) ?_
  refine n_newa (n := 45) (N := 20) hX rfl ac_int (Or.inl ⟨rfl, rfl⟩) ⟨by decide, by decide, (Nat.le_of_ble_eq_true rfl)⟩ gt_45 ⟨(Nat.le_of_ble_eq_true rfl), (Nat.le_of_ble_eq_true rfl)⟩ ⟨rfl, rfl⟩ ⟨(Nat.le_of_ble_eq_true rfl), (Nat.le_of_ble_eq_true rfl)⟩ ?_
  refine n_putR (r := 45) hX fl_X3_15 rfl gt_43 (Nat.le_of_ble_eq_true rfl) rfl (fun _ => ⟨rfl, rfl⟩) rfl (Nat.le_of_ble_eq_true rfl) ?_
  refine n_aload_n hX rfl ?_
  refine n_bipush hX (v := 20) (by decide) ?_
  refine n_newa (n := 46) (N := 20) hX rfl ac_int (Or.inl ⟨rfl, rfl⟩) ⟨by decide, by decide, (Nat.le_of_ble_eq_true rfl)⟩ gt_46 ⟨(Nat.le_of_ble_eq_true rfl), (Nat.le_of_ble_eq_true rfl)⟩ ⟨rfl, rfl⟩ ⟨(Nat.le_of_ble_eq_true rfl), (Nat.le_of_ble_eq_true rfl)⟩ ?_
  refine n_putR (r := 46) hX fl_X3_18 rfl gt_43 (Nat.le_of_ble_eq_true rfl) rfl (fun _ => ⟨rfl, rfl⟩) rfl (Nat.le_of_ble_eq_true rfl) ?_
  refine n_aload_n hX rfl ?_
  refine n_bipush hX (v := 20) (by decide) ?_
  refine n_newa (n := 47) (N := 20) hX rfl ac_boolean (Or.inr (Or.inr ⟨rfl, rfl⟩)) ⟨by decide, by decide, (Nat.le_of_ble_eq_true rfl)⟩ gt_47 ⟨(Nat.le_of_ble_eq_true rfl), (Nat.le_of_ble_eq_true rfl)⟩ ⟨rfl, rfl⟩ ⟨(Nat.le_of_ble_eq_true rfl), (Nat.le_of_ble_eq_true rfl)⟩ ?_
  refine n_putR (r := 47) hX fl_X3_21 rfl gt_43 (Nat.le_of_ble_eq_true rfl) rfl (fun _ => ⟨rfl, rfl⟩) rfl (Nat.le_of_ble_eq_true rfl) ?_
  refine n_aload_n hX rfl ?_
  refine n_bipush hX (v := 20) (by decide) ?_
  refine n_newa (n := 48) (N := 20) hX rfl ac_int (Or.inl ⟨rfl, rfl⟩) ⟨by decide, by decide, (Nat.le_of_ble_eq_true rfl)⟩ gt_48 ⟨(Nat.le_of_ble_eq_true rfl), (Nat.le_of_ble_eq_true rfl)⟩ ⟨rfl, rfl⟩ ⟨(Nat.le_of_ble_eq_true rfl), (Nat.le_of_ble_eq_true rfl)⟩ ?_
  refine n_putR (r := 48) hX fl_X3_25 rfl gt_43 (Nat.le_of_ble_eq_true rfl) rfl (fun _ => ⟨rfl, rfl⟩) rfl (Nat.le_of_ble_eq_true rfl) ?_
  refine n_aload_n hX rfl ?_
  refine n_bipush hX (v := 20) (by decide) ?_
  refine n_newa (n := 49) (N := 20) hX rfl ac_int (Or.inl ⟨rfl, rfl⟩) ⟨by decide, by decide, (Nat.le_of_ble_eq_true rfl)⟩ gt_49 ⟨(Nat.le_of_ble_eq_true rfl), (Nat.le_of_ble_eq_true rfl)⟩ ⟨rfl, rfl⟩ ⟨(Nat.le_of_ble_eq_true rfl), (Nat.le_of_ble_eq_true rfl)⟩ ?_
  refine n_putR (r := 49) hX fl_X3_28 rfl gt_43 (Nat.le_of_ble_eq_true rfl) rfl (fun _ => ⟨rfl, rfl⟩) rfl (Nat.le_of_ble_eq_true rfl) ?_
  refine n_aload_n hX rfl ?_
  refine n_bipush hX (v := 20) (by decide) ?_
  refine n_newa (n := 50) (N := 20) hX rfl ac_int (Or.inl ⟨rfl, rfl⟩) ⟨by decide, by decide, (Nat.le_of_ble_eq_true rfl)⟩ gt_50 ⟨(Nat.le_of_ble_eq_true rfl), (Nat.le_of_ble_eq_true rfl)⟩ ⟨rfl, rfl⟩ ⟨(Nat.le_of_ble_eq_true rfl), (Nat.le_of_ble_eq_true rfl)⟩ ?_
  refine n_putR (r := 50) hX fl_X3_31 rfl gt_43 (Nat.le_of_ble_eq_true rfl) rfl (fun _ => ⟨rfl, rfl⟩) rfl (Nat.le_of_ble_eq_true rfl) ?_
  refine n_aload_n hX rfl ?_
  refine n_bipush hX (v := 20) (by decide) ?_
  refine n_newa (n := 51) (N := 20) hX rfl ac_boolean (Or.inr (Or.inr ⟨rfl, rfl⟩)) ⟨by decide, by decide, (Nat.le_of_ble_eq_true rfl)⟩ gt_51 ⟨(Nat.le_of_ble_eq_true rfl), (Nat.le_of_ble_eq_true rfl)⟩ ⟨rfl, rfl⟩ ⟨(Nat.le_of_ble_eq_true rfl), (Nat.le_of_ble_eq_true rfl)⟩ ?_
  refine n_putR (r := 51) hX fl_X3_34 rfl gt_43 (Nat.le_of_ble_eq_true rfl) rfl (fun _ => ⟨rfl, rfl⟩) rfl (Nat.le_of_ble_eq_true rfl) ?_
  refine n_aload_n hX rfl ?_
  refine n_bipush hX (v := 8) (by decide) ?_
  refine n_newa (n := 52) (N := 8) hX rfl ac_int (Or.inl ⟨rfl, rfl⟩) ⟨by decide, by decide, (Nat.le_of_ble_eq_true rfl)⟩ gt_52 ⟨(Nat.le_of_ble_eq_true rfl), (Nat.le_of_ble_eq_true rfl)⟩ ⟨rfl, rfl⟩ ⟨(Nat.le_of_ble_eq_true rfl), (Nat.le_of_ble_eq_true rfl)⟩ ?_
  refine n_putR (r := 52) hX fl_X3_37 rfl gt_43 (Nat.le_of_ble_eq_true rfl) rfl (fun _ => ⟨rfl, rfl⟩) rfl (Nat.le_of_ble_eq_true rfl) ?_
  refine n_aload_n hX rfl ?_
  refine n_bipush hX (v := 8) (by decide) ?_
  refine n_newa (n := 53) (N := 8) hX rfl ac_int (Or.inl ⟨rfl, rfl⟩) ⟨by decide, by decide, (Nat.le_of_ble_eq_true rfl)⟩ gt_53 ⟨(Nat.le_of_ble_eq_true rfl), (Nat.le_of_ble_eq_true rfl)⟩ ⟨rfl, rfl⟩ ⟨(Nat.le_of_ble_eq_true rfl), (Nat.le_of_ble_eq_true rfl)⟩ ?_
  refine n_putR (r := 53) hX fl_X3_40 rfl gt_43 (Nat.le_of_ble_eq_true rfl) rfl (fun _ => ⟨rfl, rfl⟩) rfl (Nat.le_of_ble_eq_true rfl) ?_
  exact n_ret hX hW
def rs_15 : List (Nat × Nat) := (42, 0) :: rs_14
def rs_16 : List (Nat × Nat) := (54, 11) :: (54, 10) :: (54, 8) :: (54, 7) :: (54, 6) :: (54, 5) :: (54, 3) :: (54, 2) :: (54, 1) :: (54, 0) :: rs_15
set_option maxRecDepth 100000 in
theorem ct_X3_init_54 {l : Launch} : PCN l 1 10 276 Y_X3_init [vR 54] 55 rs_15 Mc_3 65 rs_16 Mc_3 := by
  refine pcn_of (ls := [vR 54]) (by decide +kernel) rfl cok_X3_init (Nat.le_of_ble_eq_true rfl) rfl (fun X hX hW => ?_) rfl
  refine n_aload_n hX rfl ?_
  refine n_obj hX (mU_1 164 rfl rfl) oi_inst oi_code ⟨(Nat.le_of_ble_eq_true rfl), (Nat.le_of_ble_eq_true rfl)⟩ (Nat.le_of_ble_eq_true rfl) ?_
  refine n_aload_n hX rfl ?_
  refine n_bipush hX (v := 120) (by decide) ?_
  refine n_newa (n := 55) (N := 120) hX rfl ac_int (Or.inl ⟨rfl, rfl⟩) ⟨by decide, by decide, (Nat.le_of_ble_eq_true rfl)⟩ gt_55 ⟨(Nat.le_of_ble_eq_true rfl), (Nat.le_of_ble_eq_true rfl)⟩ ⟨rfl, rfl⟩ ⟨(Nat.le_of_ble_eq_true rfl), (Nat.le_of_ble_eq_true rfl)⟩ ?_
  refine n_putR (r := 55) hX fl_X3_9 rfl gt_54 (Nat.le_of_ble_eq_true rfl) rfl (fun _ => ⟨rfl, rfl⟩) rfl (Nat.le_of_ble_eq_true rfl) ?_
  refine n_aload_n hX rfl ?_
  refine n_bipush hX (v := 20) (by decide) ?_
  refine n_newa (n := 56) (N := 20) hX rfl ac_int (Or.inl ⟨rfl, rfl⟩) ⟨by decide, by decide, (Nat.le_of_ble_eq_true rfl)⟩ gt_56 ⟨(Nat.le_of_ble_eq_true rfl), (Nat.le_of_ble_eq_true rfl)⟩ ⟨rfl, rfl⟩ ⟨(Nat.le_of_ble_eq_true rfl), (Nat.le_of_ble_eq_true rfl)⟩ ?_
  refine n_putR (r := 56) hX fl_X3_15 rfl gt_54 (Nat.le_of_ble_eq_true rfl) rfl (fun _ => ⟨rfl, rfl⟩) rfl (Nat.le_of_ble_eq_true rfl) ?_
  refine n_aload_n hX rfl ?_
  refine n_bipush hX (v := 20) (by decide) ?_
  refine n_newa (n := 57) (N := 20) hX rfl ac_int (Or.inl ⟨rfl, rfl⟩) ⟨by decide, by decide, (Nat.le_of_ble_eq_true rfl)⟩ gt_57 ⟨(Nat.le_of_ble_eq_true rfl), (Nat.le_of_ble_eq_true rfl)⟩ ⟨rfl, rfl⟩ ⟨(Nat.le_of_ble_eq_true rfl), (Nat.le_of_ble_eq_true rfl)⟩ ?_
  refine n_putR (r := 57) hX fl_X3_18 rfl gt_54 (Nat.le_of_ble_eq_true rfl) rfl (fun _ => ⟨rfl, rfl⟩) rfl (Nat.le_of_ble_eq_true rfl) ?_
  refine n_aload_n hX rfl ?_
  refine n_bipush hX (v := 20) (by decide) ?_
  refine n_newa (n := 58) (N := 20) hX rfl ac_boolean (Or.inr (Or.inr ⟨rfl, rfl⟩)) ⟨by decide, by decide, (Nat.le_of_ble_eq_true rfl)⟩ gt_58 ⟨(Nat.le_of_ble_eq_true rfl), (Nat.le_of_ble_eq_true rfl)⟩ ⟨rfl, rfl⟩ ⟨(Nat.le_of_ble_eq_true rfl), (Nat.le_of_ble_eq_true rfl)⟩ ?_
  refine n_putR (r := 58) hX fl_X3_21 rfl gt_54 (Nat.le_of_ble_eq_true rfl) rfl (fun _ => ⟨rfl, rfl⟩) rfl (Nat.le_of_ble_eq_true rfl) ?_
  refine n_aload_n hX rfl ?_
  refine n_bipush hX (v := 20) (by decide) ?_
  refine n_newa (n := 59) (N := 20) hX rfl ac_int (Or.inl ⟨rfl, rfl⟩) ⟨by decide, by decide, (Nat.le_of_ble_eq_true rfl)⟩ gt_59 ⟨(Nat.le_of_ble_eq_true rfl), (Nat.le_of_ble_eq_true rfl)⟩ ⟨rfl, rfl⟩ ⟨(Nat.le_of_ble_eq_true rfl), (Nat.le_of_ble_eq_true rfl)⟩ ?_
  refine n_putR (r := 59) hX fl_X3_25 rfl gt_54 (Nat.le_of_ble_eq_true rfl) rfl (fun _ => ⟨rfl, rfl⟩) rfl (Nat.le_of_ble_eq_true rfl) ?_
  refine n_aload_n hX rfl ?_
  refine n_bipush hX (v := 20) (by decide) ?_
  refine n_newa (n := 60) (N := 20) hX rfl ac_int (Or.inl ⟨rfl, rfl⟩) ⟨by decide, by decide, (Nat.le_of_ble_eq_true rfl)⟩ gt_60 ⟨(Nat.le_of_ble_eq_true rfl), (Nat.le_of_ble_eq_true rfl)⟩ ⟨rfl, rfl⟩ ⟨(Nat.le_of_ble_eq_true rfl), (Nat.le_of_ble_eq_true rfl)⟩ ?_
  refine n_putR (r := 60) hX fl_X3_28 rfl gt_54 (Nat.le_of_ble_eq_true rfl) rfl (fun _ => ⟨rfl, rfl⟩) rfl (Nat.le_of_ble_eq_true rfl) ?_
  refine n_aload_n hX rfl ?_
  refine n_bipush hX (v := 20) (by decide) ?_
  refine n_newa (n := 61) (N := 20) hX rfl ac_int (Or.inl ⟨rfl, rfl⟩) ⟨by decide, by decide, (Nat.le_of_ble_eq_true rfl)⟩ gt_61 ⟨(Nat.le_of_ble_eq_true rfl), (Nat.le_of_ble_eq_true rfl)⟩ ⟨rfl, rfl⟩ ⟨(Nat.le_of_ble_eq_true rfl), (Nat.le_of_ble_eq_true rfl)⟩ ?_
  refine n_putR (r := 61) hX fl_X3_31 rfl gt_54 (Nat.le_of_ble_eq_true rfl) rfl (fun _ => ⟨rfl, rfl⟩) rfl (Nat.le_of_ble_eq_true rfl) ?_
  refine n_aload_n hX rfl ?_
  refine n_bipush hX (v := 20) (by decide) ?_
  refine n_newa (n := 62) (N := 20) hX rfl ac_boolean (Or.inr (Or.inr ⟨rfl, rfl⟩)) ⟨by decide, by decide, (Nat.le_of_ble_eq_true rfl)⟩ gt_62 ⟨(Nat.le_of_ble_eq_true rfl), (Nat.le_of_ble_eq_true rfl)⟩ ⟨rfl, rfl⟩ ⟨(Nat.le_of_ble_eq_true rfl), (Nat.le_of_ble_eq_true rfl)⟩ ?_
  refine n_putR (r := 62) hX fl_X3_34 rfl gt_54 (Nat.le_of_ble_eq_true rfl) rfl (fun _ => ⟨rfl, rfl⟩) rfl (Nat.le_of_ble_eq_true rfl) ?_
  refine n_aload_n hX rfl ?_
  refine n_bipush hX (v := 8) (by decide) ?_
  refine n_newa (n := 63) (N := 8) hX rfl ac_int (Or.inl ⟨rfl, rfl⟩) ⟨by decide, by decide, (Nat.le_of_ble_eq_true rfl)⟩ gt_63 ⟨(Nat.le_of_ble_eq_true rfl), (Nat.le_of_ble_eq_true rfl)⟩ ⟨rfl, rfl⟩ ⟨(Nat.le_of_ble_eq_true rfl), (Nat.le_of_ble_eq_true rfl)⟩ ?_
  refine n_putR (r := 63) hX fl_X3_37 rfl gt_54 (Nat.le_of_ble_eq_true rfl) rfl (fun _ => ⟨rfl, rfl⟩) rfl (Nat.le_of_ble_eq_true rfl) ?_
  refine n_aload_n hX rfl ?_
  refine n_bipush hX (v := 8) (by decide) ?_
  refine n_newa (n := 64) (N := 8) hX rfl ac_int (Or.inl ⟨rfl, rfl⟩) ⟨by decide, by decide, (Nat.le_of_ble_eq_true rfl)⟩ gt_64 ⟨(Nat.le_of_ble_eq_true rfl), (Nat.le_of_ble_eq_true rfl)⟩ ⟨rfl, rfl⟩ ⟨(Nat.le_of_ble_eq_true rfl), (Nat.le_of_ble_eq_true rfl)⟩ ?_
  refine n_putR (r := 64) hX fl_X3_40 rfl gt_54 (Nat.le_of_ble_eq_true rfl) rfl (fun _ => ⟨rfl, rfl⟩) rfl (Nat.le_of_ble_eq_true rfl) ?_
  exact n_ret hX hW
def rs_17 : List (Nat × Nat) := (42, 1) :: rs_16
def rs_18 : List (Nat × Nat) := (65, 11) :: (65, 10) :: (65, 8) :: (65, 7) :: (65, 6) :: (65, 5) :: (65, 3) :: (65, 2) :: (65, 1) :: (65, 0) :: rs_17
set_option maxRecDepth 100000 in
theorem ct_X3_init_65 {l : Launch} : PCN l 1 10 276 Y_X3_init [vR 65] 66 rs_17 Mc_3 76 rs_18 Mc_3 := by
  refine pcn_of (ls := [vR 65]) (by decide +kernel) rfl cok_X3_init (Nat.le_of_ble_eq_true rfl) rfl (fun X hX hW => ?_) rfl
  refine n_aload_n hX rfl ?_
  refine n_obj hX (mU_1 164 rfl rfl) oi_inst oi_code ⟨(Nat.le_of_ble_eq_true rfl), (Nat.le_of_ble_eq_true rfl)⟩ (Nat.le_of_ble_eq_true rfl) ?_
  refine n_aload_n hX rfl ?_
  refine n_bipush hX (v := 120) (by decide) ?_
  refine n_newa (n := 66) (N := 120) hX rfl ac_int (Or.inl ⟨rfl, rfl⟩) ⟨by decide, by decide, (Nat.le_of_ble_eq_true rfl)⟩ gt_66 ⟨(Nat.le_of_ble_eq_true rfl), (Nat.le_of_ble_eq_true rfl)⟩ ⟨rfl, rfl⟩ ⟨(Nat.le_of_ble_eq_true rfl), (Nat.le_of_ble_eq_true rfl)⟩ ?_
  refine n_putR (r := 66) hX fl_X3_9 rfl gt_65 (Nat.le_of_ble_eq_true rfl) rfl (fun _ => ⟨rfl, rfl⟩) rfl (Nat.le_of_ble_eq_true rfl) ?_
  refine n_aload_n hX rfl ?_
  refine n_bipush hX (v := 20) (by decide) ?_
  refine n_newa (n := 67) (N := 20) hX rfl ac_int (Or.inl ⟨rfl, rfl⟩) ⟨by decide, by decide, (Nat.le_of_ble_eq_true rfl)⟩ gt_67 ⟨(Nat.le_of_ble_eq_true rfl), (Nat.le_of_ble_eq_true rfl)⟩ ⟨rfl, rfl⟩ ⟨(Nat.le_of_ble_eq_true rfl), (Nat.le_of_ble_eq_true rfl)⟩ ?_
  refine n_putR (r := 67) hX fl_X3_15 rfl gt_65 (Nat.le_of_ble_eq_true rfl) rfl (fun _ => ⟨rfl, rfl⟩) rfl (Nat.le_of_ble_eq_true rfl) ?_
  refine n_aload_n hX rfl ?_
  refine n_bipush hX (v := 20) (by decide) ?_
  refine n_newa (n := 68) (N := 20) hX rfl ac_int (Or.inl ⟨rfl, rfl⟩) ⟨by decide, by decide, (Nat.le_of_ble_eq_true rfl)⟩ gt_68 ⟨(Nat.le_of_ble_eq_true rfl), (Nat.le_of_ble_eq_true rfl)⟩ ⟨rfl, rfl⟩ ⟨(Nat.le_of_ble_eq_true rfl), (Nat.le_of_ble_eq_true rfl)⟩ ?_
  refine n_putR (r := 68) hX fl_X3_18 rfl gt_65 (Nat.le_of_ble_eq_true rfl) rfl (fun _ => ⟨rfl, rfl⟩) rfl (Nat.le_of_ble_eq_true rfl) ?_
  refine n_aload_n hX rfl ?_
  refine n_bipush hX (v := 20) (by decide) ?_
  refine n_newa (n := 69) (N := 20) hX rfl ac_boolean (Or.inr (Or.inr ⟨rfl, rfl⟩)) ⟨by decide, by decide, (Nat.le_of_ble_eq_true rfl)⟩ gt_69 ⟨(Nat.le_of_ble_eq_true rfl), (Nat.le_of_ble_eq_true rfl)⟩ ⟨rfl, rfl⟩ ⟨(Nat.le_of_ble_eq_true rfl), (Nat.le_of_ble_eq_true rfl)⟩ ?_
  refine n_putR (r := 69) hX fl_X3_21 rfl gt_65 (Nat.le_of_ble_eq_true rfl) rfl (fun _ => ⟨rfl, rfl⟩) rfl (Nat.le_of_ble_eq_true rfl) ?_
  refine n_aload_n hX rfl ?_
  refine n_bipush hX (v := 20) (by decide) ?_
  refine n_newa (n := 70) (N := 20) hX rfl ac_int (Or.inl ⟨rfl, rfl⟩) ⟨by decide, by decide, (Nat.le_of_ble_eq_true rfl)⟩ gt_70 ⟨(Nat.le_of_ble_eq_true rfl), (Nat.le_of_ble_eq_true rfl)⟩ ⟨rfl, rfl⟩ ⟨(Nat.le_of_ble_eq_true rfl), (Nat.le_of_ble_eq_true rfl)⟩ ?_
  refine n_putR (r := 70) hX fl_X3_25 rfl gt_65 (Nat.le_of_ble_eq_true rfl) rfl (fun _ => ⟨rfl, rfl⟩) rfl (Nat.le_of_ble_eq_true rfl) ?_
  refine n_aload_n hX rfl ?_
  refine n_bipush hX (v := 20) (by decide) ?_
  refine n_newa (n := 71) (N := 20) hX rfl ac_int (Or.inl ⟨rfl, rfl⟩) ⟨by decide, by decide, (Nat.le_of_ble_eq_true rfl)⟩ gt_71 ⟨(Nat.le_of_ble_eq_true rfl), (Nat.le_of_ble_eq_true rfl)⟩ ⟨rfl, rfl⟩ ⟨(Nat.le_of_ble_eq_true rfl), (Nat.le_of_ble_eq_true rfl)⟩ ?_
  refine n_putR (r := 71) hX fl_X3_28 rfl gt_65 (Nat.le_of_ble_eq_true rfl) rfl (fun _ => ⟨rfl, rfl⟩) rfl (Nat.le_of_ble_eq_true rfl) ?_
  refine n_aload_n hX rfl ?_
  refine n_bipush hX (v := 20) (by decide) ?_
  refine n_newa (n := 72) (N := 20) hX rfl ac_int (Or.inl ⟨rfl, rfl⟩) ⟨by decide, by decide, (Nat.le_of_ble_eq_true rfl)⟩ gt_72 ⟨(Nat.le_of_ble_eq_true rfl), (Nat.le_of_ble_eq_true rfl)⟩ ⟨rfl, rfl⟩ ⟨(Nat.le_of_ble_eq_true rfl), (Nat.le_of_ble_eq_true rfl)⟩ ?_
  refine n_putR (r := 72) hX fl_X3_31 rfl gt_65 (Nat.le_of_ble_eq_true rfl) rfl (fun _ => ⟨rfl, rfl⟩) rfl (Nat.le_of_ble_eq_true rfl) ?_
  refine n_aload_n hX rfl ?_
  refine n_bipush hX (v := 20) (by decide) ?_
  refine n_newa (n := 73) (N := 20) hX rfl ac_boolean (Or.inr (Or.inr ⟨rfl, rfl⟩)) ⟨by decide, by decide, (Nat.le_of_ble_eq_true rfl)⟩ gt_73 ⟨(Nat.le_of_ble_eq_true rfl), (Nat.le_of_ble_eq_true rfl)⟩ ⟨rfl, rfl⟩ ⟨(Nat.le_of_ble_eq_true rfl), (Nat.le_of_ble_eq_true rfl)⟩ ?_
  refine n_putR (r := 73) hX fl_X3_34 rfl gt_65 (Nat.le_of_ble_eq_true rfl) rfl (fun _ => ⟨rfl, rfl⟩) rfl (Nat.le_of_ble_eq_true rfl) ?_
  refine n_aload_n hX rfl ?_
  refine n_bipush hX (v := 8) (by decide) ?_
  refine n_newa (n := 74) (N := 8) hX rfl ac_int (Or.inl ⟨rfl, rfl⟩) ⟨by decide, by decide, (Nat.le_of_ble_eq_true rfl)⟩ gt_74 ⟨(Nat.le_of_ble_eq_true rfl), (Nat.le_of_ble_eq_true rfl)⟩ ⟨rfl, rfl⟩ ⟨(Nat.le_of_ble_eq_true rfl), (Nat.le_of_ble_eq_true rfl)⟩ ?_
  refine n_putR (r := 74) hX fl_X3_37 rfl gt_65 (Nat.le_of_ble_eq_true rfl) rfl (fun _ => ⟨rfl, rfl⟩) rfl (Nat.le_of_ble_eq_true rfl) ?_
  refine n_aload_n hX rfl ?_
  refine n_bipush hX (v := 8) (by decide) ?_
  refine n_newa (n := 75) (N := 8) hX rfl ac_int (Or.inl ⟨rfl, rfl⟩) ⟨by decide, by decide, (Nat.le_of_ble_eq_true rfl)⟩ gt_75 ⟨(Nat.le_of_ble_eq_true rfl), (Nat.le_of_ble_eq_true rfl)⟩ ⟨rfl, rfl⟩ ⟨(Nat.le_of_ble_eq_true rfl), (Nat.le_of_ble_eq_true rfl)⟩ ?_
  refine n_putR (r := 75) hX fl_X3_40 rfl gt_65 (Nat.le_of_ble_eq_true rfl) rfl (fun _ => ⟨rfl, rfl⟩) rfl (Nat.le_of_ble_eq_true rfl) ?_
  exact n_ret hX hW
theorem nk_X10_42 : NEWK RX10 42 7 10 := ⟨RX7, TX7, tyX7, cls_7, mU_2 12 rfl rfl, mU_2 13 rfl rfl, mU_1 8 rfl rfl, fun j hj => by
  match j, hj with
  | 0, _ => rfl
  | 1, _ => rfl
  | 2, _ => rfl
  | 3, _ => rfl
  | 4, _ => rfl
  | 5, _ => rfl
  | 6, _ => rfl
  | 7, _ => rfl
  | 8, _ => rfl
  | 9, _ => rfl
  | j + 10, hj => exact absurd hj (by omega)⟩
def rs_19 : List (Nat × Nat) := (42, 2) :: rs_18
def k_X7_init_0 : List CI := (0, .aload_n 0, 1) :: (1, .invokespecial 3, 3) :: (4, .aload_n 0, 1) :: (5, .bipush 100, 2) :: (7, .newarray .int, 2) :: (9, .putfield 11, 3) :: (12, .aload_n 0, 1) :: (13, .bipush 100, 2) :: (15, .newarray .int, 2) :: (17, .putfield 15, 3) :: (20, .aload_n 0, 1) :: (21, .bipush 100, 2) :: (23, .newarray .int, 2) :: (25, .putfield 18, 3) :: (28, .aload_n 0, 1) :: (29, .bipush 100, 2) :: (31, .newarray .long, 2) :: (33, .putfield 21, 3) :: (36, .aload_n 0, 1) :: (37, .bipush 100, 2) :: (39, .newarray .long, 2) :: (41, .putfield 25, 3) :: (44, .aload_n 0, 1) :: (45, .iconst 1, 1) :: (46, .putfield 28, 3) :: (49, .aload_n 0, 1) :: (50, .aload_n 1, 1) :: (51, .putfield 32, 3) :: (54, .aload_n 0, 1) :: (55, .aload_n 2, 1) :: (56, .putfield 36, 3) :: (59, .return_, 1) :: []
def Y_X7_init : MD := (yX7_init, cX7_init, 3, none, k_X7_init_0)
theorem cok_X7_init : COK Y_X7_init.2.1 Y_X7_init.code = true := by decide +kernel
theorem mok_X7_init : MOK Y_X7_init 2 := ⟨mU_2 16 rfl rfl, mU_1 8 rfl rfl, by decide, by decide, by decide +kernel, by decide⟩
theorem in_X7_init : Cond.instanceMethod Y_X7_init.1 ∈ UW := mU_2 15 rfl rfl
theorem fl_X7_11 : FOKL RX7 11 7 2 (tyX7 2) true := ⟨RX7, TX7, 10, tyX7, cls_7, by decide, rfl, rfl, rfl, mU_2 20 rfl rfl⟩
theorem fl_X7_15 : FOKL RX7 15 7 3 (tyX7 3) true := ⟨RX7, TX7, 10, tyX7, cls_7, by decide, rfl, rfl, rfl, mU_2 21 rfl rfl⟩
theorem fl_X7_18 : FOKL RX7 18 7 4 (tyX7 4) true := ⟨RX7, TX7, 10, tyX7, cls_7, by decide, rfl, rfl, rfl, mU_2 22 rfl rfl⟩
theorem fl_X7_21 : FOKL RX7 21 7 5 (tyX7 5) true := ⟨RX7, TX7, 10, tyX7, cls_7, by decide, rfl, rfl, rfl, mU_2 23 rfl rfl⟩
theorem fl_X7_25 : FOKL RX7 25 7 6 (tyX7 6) true := ⟨RX7, TX7, 10, tyX7, cls_7, by decide, rfl, rfl, rfl, mU_2 24 rfl rfl⟩
theorem fl_X7_28 : FOKL RX7 28 7 9 .int false := ⟨RX7, TX7, 10, tyX7, cls_7, by decide, rfl, rfl, rfl, mU_2 27 rfl rfl⟩
theorem fl_X7_32 : FOKL RX7 32 7 0 (tyX7 0) true := ⟨RX7, TX7, 10, tyX7, cls_7, by decide, rfl, rfl, rfl, mU_2 18 rfl rfl⟩
theorem fl_X7_36 : FOKL RX7 36 7 1 (tyX7 1) true := ⟨RX7, TX7, 10, tyX7, cls_7, by decide, rfl, rfl, rfl, mU_2 19 rfl rfl⟩
def rs_20 : List (Nat × Nat) := (76, 1) :: (76, 0) :: (76, 6) :: (76, 5) :: (76, 4) :: (76, 3) :: (76, 2) :: rs_19
def Mc_4 : PM := (sI Mc_3 76 9 1)
set_option maxRecDepth 100000 in
theorem ct_X7_init_76 {l : Launch} : PCN l 1 5 500 Y_X7_init [vR 76, vR 3, vR 16] 77 rs_19 Mc_3 82 rs_20 Mc_4 := by
  refine pcn_of (ls := [vR 76, vR 3, vR 16]) (by decide +kernel) rfl cok_X7_init (Nat.le_of_ble_eq_true rfl) rfl (fun X hX hW => ?_) rfl
  refine n_aload_n hX rfl ?_
  refine n_obj hX (mU_2 17 rfl rfl) oi_inst oi_code ⟨(Nat.le_of_ble_eq_true rfl), (Nat.le_of_ble_eq_true rfl)⟩ (Nat.le_of_ble_eq_true rfl) ?_
  refine n_aload_n hX rfl ?_
  refine n_bipush hX (v := 100) (by decide) ?_
  refine n_newa (n := 77) (N := 100) hX rfl ac_int (Or.inl ⟨rfl, rfl⟩) ⟨by decide, by decide, (Nat.le_of_ble_eq_true rfl)⟩ gt_77 ⟨(Nat.le_of_ble_eq_true rfl), (Nat.le_of_ble_eq_true rfl)⟩ ⟨rfl, rfl⟩ ⟨(Nat.le_of_ble_eq_true rfl), (Nat.le_of_ble_eq_true rfl)⟩ ?_
  refine n_putR (r := 77) hX fl_X7_11 rfl gt_76 (Nat.le_of_ble_eq_true rfl) rfl (fun _ => ⟨rfl, rfl⟩) rfl (Nat.le_of_ble_eq_true rfl) ?_
  refine n_aload_n hX rfl ?_
  refine n_bipush hX (v := 100) (by decide) ?_
  refine n_newa (n := 78) (N := 100) hX rfl ac_int (Or.inl ⟨rfl, rfl⟩) ⟨by decide, by decide, (Nat.le_of_ble_eq_true rfl)⟩ gt_78 ⟨(Nat.le_of_ble_eq_true rfl), (Nat.le_of_ble_eq_true rfl)⟩ ⟨rfl, rfl⟩ ⟨(Nat.le_of_ble_eq_true rfl), (Nat.le_of_ble_eq_true rfl)⟩ ?_
  refine n_putR (r := 78) hX fl_X7_15 rfl gt_76 (Nat.le_of_ble_eq_true rfl) rfl (fun _ => ⟨rfl, rfl⟩) rfl (Nat.le_of_ble_eq_true rfl) ?_
  refine n_aload_n hX rfl ?_
  refine n_bipush hX (v := 100) (by decide) ?_
  refine n_newa (n := 79) (N := 100) hX rfl ac_int (Or.inl ⟨rfl, rfl⟩) ⟨by decide, by decide, (Nat.le_of_ble_eq_true rfl)⟩ gt_79 ⟨(Nat.le_of_ble_eq_true rfl), (Nat.le_of_ble_eq_true rfl)⟩ ⟨rfl, rfl⟩ ⟨(Nat.le_of_ble_eq_true rfl), (Nat.le_of_ble_eq_true rfl)⟩ ?_
  refine n_putR (r := 79) hX fl_X7_18 rfl gt_76 (Nat.le_of_ble_eq_true rfl) rfl (fun _ => ⟨rfl, rfl⟩) rfl (Nat.le_of_ble_eq_true rfl) ?_
  refine n_aload_n hX rfl ?_
  refine n_bipush hX (v := 100) (by decide) ?_
  refine n_newa (n := 80) (N := 100) hX rfl ac_long (Or.inr (Or.inl ⟨rfl, rfl⟩)) ⟨by decide, by decide, (Nat.le_of_ble_eq_true rfl)⟩ gt_80 ⟨(Nat.le_of_ble_eq_true rfl), (Nat.le_of_ble_eq_true rfl)⟩ ⟨rfl, rfl⟩ ⟨(Nat.le_of_ble_eq_true rfl), (Nat.le_of_ble_eq_true rfl)⟩ ?_
  refine n_putR (r := 80) hX fl_X7_21 rfl gt_76 (Nat.le_of_ble_eq_true rfl) rfl (fun _ => ⟨rfl, rfl⟩) rfl (Nat.le_of_ble_eq_true rfl) ?_
  refine n_aload_n hX rfl ?_
  refine n_bipush hX (v := 100) (by decide) ?_
  refine n_newa (n := 81) (N := 100) hX rfl ac_long (Or.inr (Or.inl ⟨rfl, rfl⟩)) ⟨by decide, by decide, (Nat.le_of_ble_eq_true rfl)⟩ gt_81 ⟨(Nat.le_of_ble_eq_true rfl), (Nat.le_of_ble_eq_true rfl)⟩ ⟨rfl, rfl⟩ ⟨(Nat.le_of_ble_eq_true rfl), (Nat.le_of_ble_eq_true rfl)⟩ ?_
  refine n_putR (r := 81) hX fl_X7_25 rfl gt_76 (Nat.le_of_ble_eq_true rfl) rfl (fun _ => ⟨rfl, rfl⟩) rfl (Nat.le_of_ble_eq_true rfl) ?_
  refine n_aload_n hX rfl ?_
  refine n_iconst hX (v := 1) (by decide) ?_
  refine n_putI hX fl_X7_28 rfl gt_76 (Nat.le_of_ble_eq_true rfl) rfl ?_
  refine n_aload_n hX rfl ?_
  refine n_aload_n hX rfl ?_
  refine n_putR (r := 3) hX fl_X7_32 rfl gt_76 (Nat.le_of_ble_eq_true rfl) rfl (fun _ => ⟨rfl, rfl⟩) rfl (Nat.le_of_ble_eq_true rfl) ?_
  refine n_aload_n hX rfl ?_
  refine n_aload_n hX rfl ?_
  refine n_putR (r := 16) hX fl_X7_36 rfl gt_76 (Nat.le_of_ble_eq_true rfl) rfl (fun _ => ⟨rfl, rfl⟩) rfl (Nat.le_of_ble_eq_true rfl) ?_
  exact n_ret hX hW
theorem cl_X10_44 : LNN RX10 44 Y_X7_init := ⟨"WeekWheels", mN_2 14 rfl rfl⟩
theorem fl_X10_47 : FOKL RX10 47 10 6 (tyX10 6) true := ⟨RX10, TX10, 17, tyX10, cls_10, by decide, rfl, rfl, rfl, mU_2 138 rfl rfl⟩
def rs_21 : List (Nat × Nat) := (0, 6) :: rs_20
def rs_22 : List (Nat × Nat) := (82, 1) :: (82, 0) :: (82, 6) :: (82, 5) :: (82, 4) :: (82, 3) :: (82, 2) :: rs_21
def Mc_5 : PM := (sI Mc_4 82 9 1)
set_option maxRecDepth 100000 in
theorem ct_X7_init_82 {l : Launch} : PCN l 1 5 500 Y_X7_init [vR 82, vR 3, vR 16] 83 rs_21 Mc_4 88 rs_22 Mc_5 := by
  refine pcn_of (ls := [vR 82, vR 3, vR 16]) (by decide +kernel) rfl cok_X7_init (Nat.le_of_ble_eq_true rfl) rfl (fun X hX hW => ?_) rfl
  refine n_aload_n hX rfl ?_
  refine n_obj hX (mU_2 17 rfl rfl) oi_inst oi_code ⟨(Nat.le_of_ble_eq_true rfl), (Nat.le_of_ble_eq_true rfl)⟩ (Nat.le_of_ble_eq_true rfl) ?_
  refine n_aload_n hX rfl ?_
  refine n_bipush hX (v := 100) (by decide) ?_
  refine n_newa (n := 83) (N := 100) hX rfl ac_int (Or.inl ⟨rfl, rfl⟩) ⟨by decide, by decide, (Nat.le_of_ble_eq_true rfl)⟩ gt_83 ⟨(Nat.le_of_ble_eq_true rfl), (Nat.le_of_ble_eq_true rfl)⟩ ⟨rfl, rfl⟩ ⟨(Nat.le_of_ble_eq_true rfl), (Nat.le_of_ble_eq_true rfl)⟩ ?_
  refine n_putR (r := 83) hX fl_X7_11 rfl gt_82 (Nat.le_of_ble_eq_true rfl) rfl (fun _ => ⟨rfl, rfl⟩) rfl (Nat.le_of_ble_eq_true rfl) ?_
  refine n_aload_n hX rfl ?_
  refine n_bipush hX (v := 100) (by decide) ?_
  refine n_newa (n := 84) (N := 100) hX rfl ac_int (Or.inl ⟨rfl, rfl⟩) ⟨by decide, by decide, (Nat.le_of_ble_eq_true rfl)⟩ gt_84 ⟨(Nat.le_of_ble_eq_true rfl), (Nat.le_of_ble_eq_true rfl)⟩ ⟨rfl, rfl⟩ ⟨(Nat.le_of_ble_eq_true rfl), (Nat.le_of_ble_eq_true rfl)⟩ ?_
  refine n_putR (r := 84) hX fl_X7_15 rfl gt_82 (Nat.le_of_ble_eq_true rfl) rfl (fun _ => ⟨rfl, rfl⟩) rfl (Nat.le_of_ble_eq_true rfl) ?_
  refine n_aload_n hX rfl ?_
  refine n_bipush hX (v := 100) (by decide) ?_
  refine n_newa (n := 85) (N := 100) hX rfl ac_int (Or.inl ⟨rfl, rfl⟩) ⟨by decide, by decide, (Nat.le_of_ble_eq_true rfl)⟩ gt_85 ⟨(Nat.le_of_ble_eq_true rfl), (Nat.le_of_ble_eq_true rfl)⟩ ⟨rfl, rfl⟩ ⟨(Nat.le_of_ble_eq_true rfl), (Nat.le_of_ble_eq_true rfl)⟩ ?_
  refine n_putR (r := 85) hX fl_X7_18 rfl gt_82 (Nat.le_of_ble_eq_true rfl) rfl (fun _ => ⟨rfl, rfl⟩) rfl (Nat.le_of_ble_eq_true rfl) ?_
  refine n_aload_n hX rfl ?_
  refine n_bipush hX (v := 100) (by decide) ?_
  refine n_newa (n := 86) (N := 100) hX rfl ac_long (Or.inr (Or.inl ⟨rfl, rfl⟩)) ⟨by decide, by decide, (Nat.le_of_ble_eq_true rfl)⟩ gt_86 ⟨(Nat.le_of_ble_eq_true rfl), (Nat.le_of_ble_eq_true rfl)⟩ ⟨rfl, rfl⟩ ⟨(Nat.le_of_ble_eq_true rfl), (Nat.le_of_ble_eq_true rfl)⟩ ?_
  refine n_putR (r := 86) hX fl_X7_21 rfl gt_82 (Nat.le_of_ble_eq_true rfl) rfl (fun _ => ⟨rfl, rfl⟩) rfl (Nat.le_of_ble_eq_true rfl) ?_
  refine n_aload_n hX rfl ?_
  refine n_bipush hX (v := 100) (by decide) ?_
  refine n_newa (n := 87) (N := 100) hX rfl ac_long (Or.inr (Or.inl ⟨rfl, rfl⟩)) ⟨by decide, by decide, (Nat.le_of_ble_eq_true rfl)⟩ gt_87 ⟨(Nat.le_of_ble_eq_true rfl), (Nat.le_of_ble_eq_true rfl)⟩ ⟨rfl, rfl⟩ ⟨(Nat.le_of_ble_eq_true rfl), (Nat.le_of_ble_eq_true rfl)⟩ ?_
  refine n_putR (r := 87) hX fl_X7_25 rfl gt_82 (Nat.le_of_ble_eq_true rfl) rfl (fun _ => ⟨rfl, rfl⟩) rfl (Nat.le_of_ble_eq_true rfl) ?_
  refine n_aload_n hX rfl ?_
  refine n_iconst hX (v := 1) (by decide) ?_
  refine n_putI hX fl_X7_28 rfl gt_82 (Nat.le_of_ble_eq_true rfl) rfl ?_
  refine n_aload_n hX rfl ?_
  refine n_aload_n hX rfl ?_
  refine n_putR (r := 3) hX fl_X7_32 rfl gt_82 (Nat.le_of_ble_eq_true rfl) rfl (fun _ => ⟨rfl, rfl⟩) rfl (Nat.le_of_ble_eq_true rfl) ?_
  refine n_aload_n hX rfl ?_
  refine n_aload_n hX rfl ?_
  refine n_putR (r := 16) hX fl_X7_36 rfl gt_82 (Nat.le_of_ble_eq_true rfl) rfl (fun _ => ⟨rfl, rfl⟩) rfl (Nat.le_of_ble_eq_true rfl) ?_
  exact n_ret hX hW
theorem fl_X10_51 : FOKL RX10 51 10 7 (tyX10 7) true := ⟨RX10, TX10, 17, tyX10, cls_10, by decide, rfl, rfl, rfl, mU_2 139 rfl rfl⟩
theorem nk_X10_54 : NEWK RX10 54 8 2 := ⟨RX8, TX8, tyX8, cls_8, mU_2 50 rfl rfl, mU_2 51 rfl rfl, mU_1 9 rfl rfl, fun j hj => by
  match j, hj with
  | 0, _ => rfl
  | 1, _ => rfl
  | j + 2, hj => exact absurd hj (by omega)⟩
def rs_23 : List (Nat × Nat) := (0, 7) :: rs_22
def k_X8_init_0 : List CI := (0, .aload_n 0, 1) :: (1, .invokespecial 3, 3) :: (4, .aload_n 0, 1) :: (5, .aload_n 1, 1) :: (6, .putfield 9, 3) :: (9, .aload_n 0, 1) :: (10, .aload_n 2, 1) :: (11, .putfield 15, 3) :: (14, .return_, 1) :: []
def Y_X8_init : MD := (yX8_init, cX8_init, 3, none, k_X8_init_0)
theorem cok_X8_init : COK Y_X8_init.2.1 Y_X8_init.code = true := by decide +kernel
theorem mok_X8_init : MOK Y_X8_init 2 := ⟨mU_2 54 rfl rfl, mU_1 9 rfl rfl, by decide, by decide, by decide +kernel, by decide⟩
theorem in_X8_init : Cond.instanceMethod Y_X8_init.1 ∈ UW := mU_2 53 rfl rfl
theorem fl_X8_9 : FOKL RX8 9 8 0 (tyX8 0) true := ⟨RX8, TX8, 2, tyX8, cls_8, by decide, rfl, rfl, rfl, mU_2 56 rfl rfl⟩
theorem fl_X8_15 : FOKL RX8 15 8 1 (tyX8 1) true := ⟨RX8, TX8, 2, tyX8, cls_8, by decide, rfl, rfl, rfl, mU_2 57 rfl rfl⟩
def rs_24 : List (Nat × Nat) := (88, 1) :: (88, 0) :: rs_23
set_option maxRecDepth 100000 in
theorem ct_X8_init_88 {l : Launch} : PCN l 1 0 0 Y_X8_init [vR 88, vR 1, vR 3] 89 rs_23 Mc_5 89 rs_24 Mc_5 := by
  refine pcn_of (ls := [vR 88, vR 1, vR 3]) (by decide +kernel) rfl cok_X8_init (Nat.le_of_ble_eq_true rfl) rfl (fun X hX hW => ?_) rfl
  refine n_aload_n hX rfl ?_
  refine n_obj hX (mU_2 55 rfl rfl) oi_inst oi_code ⟨(Nat.le_of_ble_eq_true rfl), (Nat.le_of_ble_eq_true rfl)⟩ (Nat.le_of_ble_eq_true rfl) ?_
  refine n_aload_n hX rfl ?_
  refine n_aload_n hX rfl ?_
  refine n_putR (r := 1) hX fl_X8_9 rfl gt_88 (Nat.le_of_ble_eq_true rfl) rfl (fun _ => ⟨rfl, rfl⟩) rfl (Nat.le_of_ble_eq_true rfl) ?_
  refine n_aload_n hX rfl ?_
  refine n_aload_n hX rfl ?_
  refine n_putR (r := 3) hX fl_X8_15 rfl gt_88 (Nat.le_of_ble_eq_true rfl) rfl (fun _ => ⟨rfl, rfl⟩) rfl (Nat.le_of_ble_eq_true rfl) ?_
  exact n_ret hX hW
theorem cl_X10_56 : LNN RX10 56 Y_X8_init := ⟨"WeekWheels", mN_2 52 rfl rfl⟩
theorem fl_X10_59 : FOKL RX10 59 10 8 (tyX10 8) true := ⟨RX10, TX10, 17, tyX10, cls_10, by decide, rfl, rfl, rfl, mU_2 140 rfl rfl⟩
theorem fl_X10_63 : FOKL RX10 63 10 9 (tyX10 9) true := ⟨RX10, TX10, 17, tyX10, cls_10, by decide, rfl, rfl, rfl, mU_2 141 rfl rfl⟩
theorem nk_X10_67 : NEWK RX10 67 9 5 := ⟨RX9, TX9, tyX9, cls_9, mU_2 63 rfl rfl, mU_2 64 rfl rfl, mU_1 10 rfl rfl, fun j hj => by
  match j, hj with
  | 0, _ => rfl
  | 1, _ => rfl
  | 2, _ => rfl
  | 3, _ => rfl
  | 4, _ => rfl
  | j + 5, hj => exact absurd hj (by omega)⟩
def rs_25 : List (Nat × Nat) := (0, 9) :: (0, 8) :: rs_24
def k_X9_init_0 : List CI := (0, .aload_n 0, 1) :: (1, .invokespecial 3, 3) :: (4, .aload_n 0, 1) :: (5, .sipush 256, 3) :: (8, .newarray .int, 2) :: (10, .putfield 11, 3) :: (13, .aload_n 0, 1) :: (14, .sipush 256, 3) :: (17, .newarray .int, 2) :: (19, .putfield 15, 3) :: (22, .aload_n 0, 1) :: (23, .bipush 60, 2) :: (25, .newarray .int, 2) :: (27, .putfield 18, 3) :: (30, .aload_n 0, 1) :: (31, .aload_n 1, 1) :: (32, .putfield 21, 3) :: (35, .aload_n 0, 1) :: (36, .aload_n 2, 1) :: (37, .putfield 25, 3) :: (40, .return_, 1) :: []
def Y_X9_init : MD := (yX9_init, cX9_init, 3, none, k_X9_init_0)
theorem cok_X9_init : COK Y_X9_init.2.1 Y_X9_init.code = true := by decide +kernel
theorem mok_X9_init : MOK Y_X9_init 2 := ⟨mU_2 67 rfl rfl, mU_1 10 rfl rfl, by decide, by decide, by decide +kernel, by decide⟩
theorem in_X9_init : Cond.instanceMethod Y_X9_init.1 ∈ UW := mU_2 66 rfl rfl
theorem fl_X9_11 : FOKL RX9 11 9 2 (tyX9 2) true := ⟨RX9, TX9, 5, tyX9, cls_9, by decide, rfl, rfl, rfl, mU_2 71 rfl rfl⟩
theorem fl_X9_15 : FOKL RX9 15 9 3 (tyX9 3) true := ⟨RX9, TX9, 5, tyX9, cls_9, by decide, rfl, rfl, rfl, mU_2 72 rfl rfl⟩
theorem fl_X9_18 : FOKL RX9 18 9 4 (tyX9 4) true := ⟨RX9, TX9, 5, tyX9, cls_9, by decide, rfl, rfl, rfl, mU_2 73 rfl rfl⟩
theorem fl_X9_21 : FOKL RX9 21 9 0 (tyX9 0) true := ⟨RX9, TX9, 5, tyX9, cls_9, by decide, rfl, rfl, rfl, mU_2 69 rfl rfl⟩
theorem fl_X9_25 : FOKL RX9 25 9 1 (tyX9 1) true := ⟨RX9, TX9, 5, tyX9, cls_9, by decide, rfl, rfl, rfl, mU_2 70 rfl rfl⟩
def rs_26 : List (Nat × Nat) := (89, 1) :: (89, 0) :: (89, 4) :: (89, 3) :: (89, 2) :: rs_25
set_option maxRecDepth 100000 in
theorem ct_X9_init_89 {l : Launch} : PCN l 1 3 572 Y_X9_init [vR 89, vR 27, vR 16] 90 rs_25 Mc_5 93 rs_26 Mc_5 := by
  refine pcn_of (ls := [vR 89, vR 27, vR 16]) (by decide +kernel) rfl cok_X9_init (Nat.le_of_ble_eq_true rfl) rfl (fun X hX hW => ?_) rfl
  refine n_aload_n hX rfl ?_
  refine n_obj hX (mU_2 68 rfl rfl) oi_inst oi_code ⟨(Nat.le_of_ble_eq_true rfl), (Nat.le_of_ble_eq_true rfl)⟩ (Nat.le_of_ble_eq_true rfl) ?_
  refine n_aload_n hX rfl ?_
  refine n_sipush hX (v := 256) (by decide) ?_
  refine n_newa (n := 90) (N := 256) hX rfl ac_int (Or.inl ⟨rfl, rfl⟩) ⟨by decide, by decide, (Nat.le_of_ble_eq_true rfl)⟩ gt_90 ⟨(Nat.le_of_ble_eq_true rfl), (Nat.le_of_ble_eq_true rfl)⟩ ⟨rfl, rfl⟩ ⟨(Nat.le_of_ble_eq_true rfl), (Nat.le_of_ble_eq_true rfl)⟩ ?_
  refine n_putR (r := 90) hX fl_X9_11 rfl gt_89 (Nat.le_of_ble_eq_true rfl) rfl (fun _ => ⟨rfl, rfl⟩) rfl (Nat.le_of_ble_eq_true rfl) ?_
  refine n_aload_n hX rfl ?_
  refine n_sipush hX (v := 256) (by decide) ?_
  refine n_newa (n := 91) (N := 256) hX rfl ac_int (Or.inl ⟨rfl, rfl⟩) ⟨by decide, by decide, (Nat.le_of_ble_eq_true rfl)⟩ gt_91 ⟨(Nat.le_of_ble_eq_true rfl), (Nat.le_of_ble_eq_true rfl)⟩ ⟨rfl, rfl⟩ ⟨(Nat.le_of_ble_eq_true rfl), (Nat.le_of_ble_eq_true rfl)⟩ ?_
  refine n_putR (r := 91) hX fl_X9_15 rfl gt_89 (Nat.le_of_ble_eq_true rfl) rfl (fun _ => ⟨rfl, rfl⟩) rfl (Nat.le_of_ble_eq_true rfl) ?_
  refine n_aload_n hX rfl ?_
  refine n_bipush hX (v := 60) (by decide) ?_
  refine n_newa (n := 92) (N := 60) hX rfl ac_int (Or.inl ⟨rfl, rfl⟩) ⟨by decide, by decide, (Nat.le_of_ble_eq_true rfl)⟩ gt_92 ⟨(Nat.le_of_ble_eq_true rfl), (Nat.le_of_ble_eq_true rfl)⟩ ⟨rfl, rfl⟩ ⟨(Nat.le_of_ble_eq_true rfl), (Nat.le_of_ble_eq_true rfl)⟩ ?_
  refine n_putR (r := 92) hX fl_X9_18 rfl gt_89 (Nat.le_of_ble_eq_true rfl) rfl (fun _ => ⟨rfl, rfl⟩) rfl (Nat.le_of_ble_eq_true rfl) ?_
  refine n_aload_n hX rfl ?_
  refine n_aload_n hX rfl ?_
  refine n_putR (r := 27) hX fl_X9_21 rfl gt_89 (Nat.le_of_ble_eq_true rfl) rfl (fun _ => ⟨rfl, rfl⟩) rfl (Nat.le_of_ble_eq_true rfl) ?_
  refine n_aload_n hX rfl ?_
  refine n_aload_n hX rfl ?_
  refine n_putR (r := 16) hX fl_X9_25 rfl gt_89 (Nat.le_of_ble_eq_true rfl) rfl (fun _ => ⟨rfl, rfl⟩) rfl (Nat.le_of_ble_eq_true rfl) ?_
  exact n_ret hX hW
theorem cl_X10_69 : LNN RX10 69 Y_X9_init := ⟨"WeekWheels", mN_2 65 rfl rfl⟩
theorem fl_X10_72 : FOKL RX10 72 10 10 (tyX10 10) true := ⟨RX10, TX10, 17, tyX10, cls_10, by decide, rfl, rfl, rfl, mU_2 142 rfl rfl⟩
theorem nk_X10_76 : NEWK RX10 76 5 6 := ⟨RX5, TX5, tyX5, cls_5, mU_2 85 rfl rfl, mU_2 86 rfl rfl, mU_1 11 rfl rfl, fun j hj => by
  match j, hj with
  | 0, _ => rfl
  | 1, _ => rfl
  | 2, _ => rfl
  | 3, _ => rfl
  | 4, _ => rfl
  | 5, _ => rfl
  | j + 6, hj => exact absurd hj (by omega)⟩
def rs_27 : List (Nat × Nat) := (0, 10) :: rs_26
def k_X5_init_0 : List CI := (0, .aload_n 0, 1) :: (1, .invokespecial 3, 3) :: (4, .aload_n 0, 1) :: (5, .bipush 12, 2) :: (7, .newarray .int, 2) :: (9, .putfield 9, 3) :: (12, .aload_n 0, 1) :: (13, .aload_n 1, 1) :: (14, .putfield 15, 3) :: (17, .aload_n 0, 1) :: (18, .aload_n 2, 1) :: (19, .putfield 19, 3) :: (22, .return_, 1) :: []
def Y_X5_init : MD := (yX5_init, cX5_init, 3, none, k_X5_init_0)
theorem cok_X5_init : COK Y_X5_init.2.1 Y_X5_init.code = true := by decide +kernel
theorem mok_X5_init : MOK Y_X5_init 2 := ⟨mU_2 89 rfl rfl, mU_1 11 rfl rfl, by decide, by decide, by decide +kernel, by decide⟩
theorem in_X5_init : Cond.instanceMethod Y_X5_init.1 ∈ UW := mU_2 88 rfl rfl
theorem fl_X5_9 : FOKL RX5 9 5 2 (tyX5 2) true := ⟨RX5, TX5, 6, tyX5, cls_5, by decide, rfl, rfl, rfl, mU_2 93 rfl rfl⟩
theorem fl_X5_15 : FOKL RX5 15 5 0 (tyX5 0) true := ⟨RX5, TX5, 6, tyX5, cls_5, by decide, rfl, rfl, rfl, mU_2 91 rfl rfl⟩
theorem fl_X5_19 : FOKL RX5 19 5 1 (tyX5 1) true := ⟨RX5, TX5, 6, tyX5, cls_5, by decide, rfl, rfl, rfl, mU_2 92 rfl rfl⟩
def rs_28 : List (Nat × Nat) := (93, 1) :: (93, 0) :: (93, 2) :: rs_27
set_option maxRecDepth 100000 in
theorem ct_X5_init_93 {l : Launch} : PCN l 1 1 12 Y_X5_init [vR 93, vR 3, vR 16] 94 rs_27 Mc_5 95 rs_28 Mc_5 := by
  refine pcn_of (ls := [vR 93, vR 3, vR 16]) (by decide +kernel) rfl cok_X5_init (Nat.le_of_ble_eq_true rfl) rfl (fun X hX hW => ?_) rfl
  refine n_aload_n hX rfl ?_
  refine n_obj hX (mU_2 90 rfl rfl) oi_inst oi_code ⟨(Nat.le_of_ble_eq_true rfl), (Nat.le_of_ble_eq_true rfl)⟩ (Nat.le_of_ble_eq_true rfl) ?_
  refine n_aload_n hX rfl ?_
  refine n_bipush hX (v := 12) (by decide) ?_
  refine n_newa (n := 94) (N := 12) hX rfl ac_int (Or.inl ⟨rfl, rfl⟩) ⟨by decide, by decide, (Nat.le_of_ble_eq_true rfl)⟩ gt_94 ⟨(Nat.le_of_ble_eq_true rfl), (Nat.le_of_ble_eq_true rfl)⟩ ⟨rfl, rfl⟩ ⟨(Nat.le_of_ble_eq_true rfl), (Nat.le_of_ble_eq_true rfl)⟩ ?_
  refine n_putR (r := 94) hX fl_X5_9 rfl gt_93 (Nat.le_of_ble_eq_true rfl) rfl (fun _ => ⟨rfl, rfl⟩) rfl (Nat.le_of_ble_eq_true rfl) ?_
  refine n_aload_n hX rfl ?_
  refine n_aload_n hX rfl ?_
  refine n_putR (r := 3) hX fl_X5_15 rfl gt_93 (Nat.le_of_ble_eq_true rfl) rfl (fun _ => ⟨rfl, rfl⟩) rfl (Nat.le_of_ble_eq_true rfl) ?_
  refine n_aload_n hX rfl ?_
  refine n_aload_n hX rfl ?_
  refine n_putR (r := 16) hX fl_X5_19 rfl gt_93 (Nat.le_of_ble_eq_true rfl) rfl (fun _ => ⟨rfl, rfl⟩) rfl (Nat.le_of_ble_eq_true rfl) ?_
  exact n_ret hX hW
theorem cl_X10_78 : LNN RX10 78 Y_X5_init := ⟨"WeekWheels", mN_2 87 rfl rfl⟩
theorem fl_X10_79 : FOKL RX10 79 10 11 (tyX10 11) true := ⟨RX10, TX10, 17, tyX10, cls_10, by decide, rfl, rfl, rfl, mU_2 143 rfl rfl⟩
theorem nk_X10_83 : NEWK RX10 83 6 4 := ⟨RX6, TX6, tyX6, cls_6, mU_2 113 rfl rfl, mU_2 114 rfl rfl, mU_1 12 rfl rfl, fun j hj => by
  match j, hj with
  | 0, _ => rfl
  | 1, _ => rfl
  | 2, _ => rfl
  | 3, _ => rfl
  | j + 4, hj => exact absurd hj (by omega)⟩
def rs_29 : List (Nat × Nat) := (0, 11) :: rs_28
def k_X6_init_0 : List CI := (0, .aload_n 0, 1) :: (1, .invokespecial 3, 3) :: (4, .aload_n 0, 1) :: (5, .bipush 6, 2) :: (7, .newarray .int, 2) :: (9, .putfield 11, 3) :: (12, .aload_n 0, 1) :: (13, .bipush 6, 2) :: (15, .newarray .int, 2) :: (17, .putfield 15, 3) :: (20, .aload_n 0, 1) :: (21, .bipush 6, 2) :: (23, .newarray .int, 2) :: (25, .putfield 18, 3) :: (28, .return_, 1) :: []
def Y_X6_init : MD := (yX6_init, cX6_init, 1, none, k_X6_init_0)
theorem cok_X6_init : COK Y_X6_init.2.1 Y_X6_init.code = true := by decide +kernel
theorem mok_X6_init : MOK Y_X6_init 0 := ⟨mU_2 117 rfl rfl, mU_1 12 rfl rfl, by decide, by decide, by decide +kernel, by decide⟩
theorem in_X6_init : Cond.instanceMethod Y_X6_init.1 ∈ UW := mU_2 116 rfl rfl
theorem fl_X6_11 : FOKL RX6 11 6 0 (tyX6 0) true := ⟨RX6, TX6, 4, tyX6, cls_6, by decide, rfl, rfl, rfl, mU_2 119 rfl rfl⟩
theorem fl_X6_15 : FOKL RX6 15 6 1 (tyX6 1) true := ⟨RX6, TX6, 4, tyX6, cls_6, by decide, rfl, rfl, rfl, mU_2 120 rfl rfl⟩
theorem fl_X6_18 : FOKL RX6 18 6 2 (tyX6 2) true := ⟨RX6, TX6, 4, tyX6, cls_6, by decide, rfl, rfl, rfl, mU_2 121 rfl rfl⟩
def rs_30 : List (Nat × Nat) := (95, 2) :: (95, 1) :: (95, 0) :: rs_29
set_option maxRecDepth 100000 in
theorem ct_X6_init_95 {l : Launch} : PCN l 1 3 18 Y_X6_init [vR 95] 96 rs_29 Mc_5 99 rs_30 Mc_5 := by
  refine pcn_of (ls := [vR 95]) (by decide +kernel) rfl cok_X6_init (Nat.le_of_ble_eq_true rfl) rfl (fun X hX hW => ?_) rfl
  refine n_aload_n hX rfl ?_
  refine n_obj hX (mU_2 118 rfl rfl) oi_inst oi_code ⟨(Nat.le_of_ble_eq_true rfl), (Nat.le_of_ble_eq_true rfl)⟩ (Nat.le_of_ble_eq_true rfl) ?_
  refine n_aload_n hX rfl ?_
  refine n_bipush hX (v := 6) (by decide) ?_
  refine n_newa (n := 96) (N := 6) hX rfl ac_int (Or.inl ⟨rfl, rfl⟩) ⟨by decide, by decide, (Nat.le_of_ble_eq_true rfl)⟩ gt_96 ⟨(Nat.le_of_ble_eq_true rfl), (Nat.le_of_ble_eq_true rfl)⟩ ⟨rfl, rfl⟩ ⟨(Nat.le_of_ble_eq_true rfl), (Nat.le_of_ble_eq_true rfl)⟩ ?_
  refine n_putR (r := 96) hX fl_X6_11 rfl gt_95 (Nat.le_of_ble_eq_true rfl) rfl (fun _ => ⟨rfl, rfl⟩) rfl (Nat.le_of_ble_eq_true rfl) ?_
  refine n_aload_n hX rfl ?_
  refine n_bipush hX (v := 6) (by decide) ?_
  refine n_newa (n := 97) (N := 6) hX rfl ac_int (Or.inl ⟨rfl, rfl⟩) ⟨by decide, by decide, (Nat.le_of_ble_eq_true rfl)⟩ gt_97 ⟨(Nat.le_of_ble_eq_true rfl), (Nat.le_of_ble_eq_true rfl)⟩ ⟨rfl, rfl⟩ ⟨(Nat.le_of_ble_eq_true rfl), (Nat.le_of_ble_eq_true rfl)⟩ ?_
  refine n_putR (r := 97) hX fl_X6_15 rfl gt_95 (Nat.le_of_ble_eq_true rfl) rfl (fun _ => ⟨rfl, rfl⟩) rfl (Nat.le_of_ble_eq_true rfl) ?_
  refine n_aload_n hX rfl ?_
  refine n_bipush hX (v := 6) (by decide) ?_
  refine n_newa (n := 98) (N := 6) hX rfl ac_int (Or.inl ⟨rfl, rfl⟩) ⟨by decide, by decide, (Nat.le_of_ble_eq_true rfl)⟩ gt_98 ⟨(Nat.le_of_ble_eq_true rfl), (Nat.le_of_ble_eq_true rfl)⟩ ⟨rfl, rfl⟩ ⟨(Nat.le_of_ble_eq_true rfl), (Nat.le_of_ble_eq_true rfl)⟩ ?_
  refine n_putR (r := 98) hX fl_X6_18 rfl gt_95 (Nat.le_of_ble_eq_true rfl) rfl (fun _ => ⟨rfl, rfl⟩) rfl (Nat.le_of_ble_eq_true rfl) ?_
  exact n_ret hX hW
theorem cl_X10_85 : LNN RX10 85 Y_X6_init := ⟨"WeekWheels", mN_2 115 rfl rfl⟩
theorem fl_X10_86 : FOKL RX10 86 10 12 (tyX10 12) true := ⟨RX10, TX10, 17, tyX10, cls_10, by decide, rfl, rfl, rfl, mU_2 144 rfl rfl⟩
theorem fl_X10_90 : FOKL RX10 90 10 13 .int false := ⟨RX10, TX10, 17, tyX10, cls_10, by decide, rfl, rfl, rfl, mU_2 145 rfl rfl⟩
def rs_31 : List (Nat × Nat) := (0, 12) :: rs_30
def Mc_6 : PM := (sI Mc_5 0 13 (-1))
set_option maxRecDepth 100000 in
theorem ct_X10_init_0 {l : Launch} : PCN l 3 98 3779 Y_X10_init [vR 0] 1 rs_0 Mc_0 99 rs_31 Mc_6 := by
  refine pcn_of (ls := [vR 0, jk, jk, jk, jk, jk]) (by decide +kernel) rfl cok_X10_init (Nat.le_of_ble_eq_true rfl) rfl (fun X hX hW => ?_) rfl
  refine n_aload_n hX rfl ?_
  refine n_obj hX (mU_1 32 rfl rfl) oi_inst oi_code ⟨(Nat.le_of_ble_eq_true rfl), (Nat.le_of_ble_eq_true rfl)⟩ (Nat.le_of_ble_eq_true rfl) ?_
  refine n_new (n := 1) hX nk_X10_7 gt_1 ⟨(Nat.le_of_ble_eq_true rfl), (Nat.le_of_ble_eq_true rfl)⟩ ⟨rfl, rfl⟩ ⟨(Nat.le_of_ble_eq_true rfl), (Nat.le_of_ble_eq_true rfl)⟩ ?_
  refine n_dup hX rfl ?_
  refine n_call (d2 := 1) (ca := 1) (sl := 500) (as := []) hX mok_X4_init rfl rfl in_X4_init (Or.inr cl_X10_9) rfl ⟨(Nat.le_of_ble_eq_true rfl), (Nat.le_of_ble_eq_true rfl), (Nat.le_of_ble_eq_true rfl), (Nat.le_of_ble_eq_true rfl)⟩ (Nat.le_of_ble_eq_true rfl) (Nat.le_of_ble_eq_true rfl) ⟨rfl, rfl⟩ rfl ct_X4_init_1 ?_
  refine n_astore_n hX (Nat.le_of_ble_eq_true rfl) rfl ?_
  refine n_new (n := 3) hX nk_X10_10 gt_3 ⟨(Nat.le_of_ble_eq_true rfl), (Nat.le_of_ble_eq_true rfl)⟩ ⟨rfl, rfl⟩ ⟨(Nat.le_of_ble_eq_true rfl), (Nat.le_of_ble_eq_true rfl)⟩ ?_
  refine n_dup hX rfl ?_
  refine n_call (d2 := 2) (ca := 12) (sl := 213) (as := []) hX mok_X0_init rfl rfl in_X0_init (Or.inr cl_X10_12) rfl ⟨(Nat.le_of_ble_eq_true rfl), (Nat.le_of_ble_eq_true rfl), (Nat.le_of_ble_eq_true rfl), (Nat.le_of_ble_eq_true rfl)⟩ (Nat.le_of_ble_eq_true rfl) (Nat.le_of_ble_eq_true rfl) ⟨rfl, rfl⟩ rfl ct_X0_init_3 ?_
  refine n_astore_n hX (Nat.le_of_ble_eq_true rfl) rfl ?_
  refine n_new (n := 16) hX nk_X10_13 gt_16 ⟨(Nat.le_of_ble_eq_true rfl), (Nat.le_of_ble_eq_true rfl)⟩ ⟨rfl, rfl⟩ ⟨(Nat.le_of_ble_eq_true rfl), (Nat.le_of_ble_eq_true rfl)⟩ ?_
  refine n_dup hX rfl ?_
  refine n_call (d2 := 1) (ca := 10) (sl := 276) (as := []) hX mok_X3_init rfl rfl in_X3_init (Or.inr cl_X10_15) rfl ⟨(Nat.le_of_ble_eq_true rfl), (Nat.le_of_ble_eq_true rfl), (Nat.le_of_ble_eq_true rfl), (Nat.le_of_ble_eq_true rfl)⟩ (Nat.le_of_ble_eq_true rfl) (Nat.le_of_ble_eq_true rfl) ⟨rfl, rfl⟩ rfl ct_X3_init_16 ?_
  refine n_astore_n hX (Nat.le_of_ble_eq_true rfl) rfl ?_
  refine n_new (n := 27) hX nk_X10_16 gt_27 ⟨(Nat.le_of_ble_eq_true rfl), (Nat.le_of_ble_eq_true rfl)⟩ ⟨rfl, rfl⟩ ⟨(Nat.le_of_ble_eq_true rfl), (Nat.le_of_ble_eq_true rfl)⟩ ?_
  refine n_dup hX rfl ?_
  refine n_aload_n hX rfl ?_
  refine n_call (d2 := 1) (ca := 1) (sl := 24) (as := [vR 3]) hX mok_X1_init rfl rfl in_X1_init (Or.inr cl_X10_18) rfl ⟨(Nat.le_of_ble_eq_true rfl), (Nat.le_of_ble_eq_true rfl), (Nat.le_of_ble_eq_true rfl), (Nat.le_of_ble_eq_true rfl)⟩ (Nat.le_of_ble_eq_true rfl) (Nat.le_of_ble_eq_true rfl) ⟨rfl, rfl⟩ rfl ct_X1_init_27 ?_
  refine n_astore hX (Nat.le_of_ble_eq_true rfl) rfl ?_
  refine n_aload_n hX rfl ?_
  refine n_aload_n hX rfl ?_
  refine n_putR (r := 1) hX fl_X10_21 rfl gt_0 (Nat.le_of_ble_eq_true rfl) rfl (fun _ => ⟨rfl, rfl⟩) rfl (Nat.le_of_ble_eq_true rfl) ?_
  refine n_aload_n hX rfl ?_
  refine n_aload_n hX rfl ?_
  refine n_putR (r := 3) hX fl_X10_27 rfl gt_0 (Nat.le_of_ble_eq_true rfl) rfl (fun _ => ⟨rfl, rfl⟩) rfl (Nat.le_of_ble_eq_true rfl) ?_
  refine n_aload_n hX rfl ?_
  refine n_new (n := 29) hX nk_X10_10 gt_29 ⟨(Nat.le_of_ble_eq_true rfl), (Nat.le_of_ble_eq_true rfl)⟩ ⟨rfl, rfl⟩ ⟨(Nat.le_of_ble_eq_true rfl), (Nat.le_of_ble_eq_true rfl)⟩ ?_
  refine n_dup hX rfl ?_
  refine n_call (d2 := 2) (ca := 12) (sl := 213) (as := []) hX mok_X0_init rfl rfl in_X0_init (Or.inr cl_X10_12) rfl ⟨(Nat.le_of_ble_eq_true rfl), (Nat.le_of_ble_eq_true rfl), (Nat.le_of_ble_eq_true rfl), (Nat.le_of_ble_eq_true rfl)⟩ (Nat.le_of_ble_eq_true rfl) (Nat.le_of_ble_eq_true rfl) ⟨rfl, rfl⟩ rfl ct_X0_init_29 ?_
  refine n_putR (r := 29) hX fl_X10_31 rfl gt_0 (Nat.le_of_ble_eq_true rfl) rfl (fun _ => ⟨rfl, rfl⟩) rfl (Nat.le_of_ble_eq_true rfl) ?_
  refine n_aload_n hX rfl ?_
  refine n_aload_n hX rfl ?_
  refine n_putR (r := 16) hX fl_X10_34 rfl gt_0 (Nat.le_of_ble_eq_true rfl) rfl (fun _ => ⟨rfl, rfl⟩) rfl (Nat.le_of_ble_eq_true rfl) ?_
  refine n_aload_n hX rfl ?_
  refine n_iconst hX (v := 3) (by decide) ?_
  refine n_anew (n := 42) (N := 3) hX (mU_1 159 rfl rfl) ⟨by decide, by decide, (Nat.le_of_ble_eq_true rfl)⟩ gt_42 ⟨(Nat.le_of_ble_eq_true rfl), (Nat.le_of_ble_eq_true rfl)⟩ ⟨rfl, rfl⟩ ⟨(Nat.le_of_ble_eq_true rfl), (Nat.le_of_ble_eq_true rfl)⟩ ?_
  refine n_putR (r := 42) hX fl_X10_38 rfl gt_0 (Nat.le_of_ble_eq_true rfl) rfl (fun _ => ⟨rfl, rfl⟩) rfl (Nat.le_of_ble_eq_true rfl) ?_
  refine n_iconst hX (v := 0) (by decide) ?_
  refine n_istore hX (Nat.le_of_ble_eq_true rfl) rfl ?_
  refine n_iload hX rfl ?_
  refine n_iconst hX (v := 3) (by decide) ?_
  refine n_icmp_geF (tg := 101) hX rfl (by decide) ?_
  refine n_aload_n hX rfl ?_
  refine n_getR (r := 42) hX fl_X10_38 gt_0 (Nat.le_of_ble_eq_true rfl) rfl rfl (by decide +kernel) ?_
  refine n_iload hX rfl ?_
  refine n_new (n := 43) hX nk_X10_13 gt_43 ⟨(Nat.le_of_ble_eq_true rfl), (Nat.le_of_ble_eq_true rfl)⟩ ⟨rfl, rfl⟩ ⟨(Nat.le_of_ble_eq_true rfl), (Nat.le_of_ble_eq_true rfl)⟩ ?_
  refine n_dup hX rfl ?_
  refine n_call (d2 := 1) (ca := 10) (sl := 276) (as := []) hX mok_X3_init rfl rfl in_X3_init (Or.inr cl_X10_15) rfl ⟨(Nat.le_of_ble_eq_true rfl), (Nat.le_of_ble_eq_true rfl), (Nat.le_of_ble_eq_true rfl), (Nat.le_of_ble_eq_true rfl)⟩ (Nat.le_of_ble_eq_true rfl) (Nat.le_of_ble_eq_true rfl) ⟨rfl, rfl⟩ rfl ct_X3_init_43 ?_
  refine n_aast (r := 43) hX gt_42 (Nat.le_of_ble_eq_true rfl) rfl rfl (Nat.le_of_ble_eq_true rfl) gt_43 ?_
  refine n_iinc hX (Nat.le_of_ble_eq_true rfl) rfl (v := 1) (by decide) rfl ?_
  refine n_goto hX 39 rfl rfl ?_
  refine n_iload hX rfl ?_
  refine n_iconst hX (v := 3) (by decide) ?_
  refine n_icmp_geF (tg := 101) hX rfl (by decide) ?_
  refine n_aload_n hX rfl ?_
  refine n_getR (r := 42) hX fl_X10_38 gt_0 (Nat.le_of_ble_eq_true rfl) rfl rfl (by decide +kernel) ?_
  refine n_iload hX rfl ?_
  refine n_new (n := 54) hX nk_X10_13 gt_54 ⟨(Nat.le_of_ble_eq_true rfl), (Nat.le_of_ble_eq_true rfl)⟩ ⟨rfl, rfl⟩ ⟨(Nat.le_of_ble_eq_true rfl), (Nat.le_of_ble_eq_true rfl)⟩ ?_
  refine n_dup hX rfl ?_
  refine n_call (d2 := 1) (ca := 10) (sl := 276) (as := []) hX mok_X3_init rfl rfl in_X3_init (Or.inr cl_X10_15) rfl ⟨(Nat.le_of_ble_eq_true rfl), (Nat.le_of_ble_eq_true rfl), (Nat.le_of_ble_eq_true rfl), (Nat.le_of_ble_eq_true rfl)⟩ (Nat.le_of_ble_eq_true rfl) (Nat.le_of_ble_eq_true rfl) ⟨rfl, rfl⟩ rfl ct_X3_init_54 ?_
  refine n_aast (r := 54) hX gt_42 (Nat.le_of_ble_eq_true rfl) rfl rfl (Nat.le_of_ble_eq_true rfl) gt_54 ?_
  refine n_iinc hX (Nat.le_of_ble_eq_true rfl) rfl (v := 2) (by decide) rfl ?_
  refine n_goto hX 39 rfl rfl ?_
  refine n_iload hX rfl ?_
  refine n_iconst hX (v := 3) (by decide) ?_
  refine n_icmp_geF (tg := 101) hX rfl (by decide) ?_
  refine n_aload_n hX rfl ?_
  refine n_getR (r := 42) hX fl_X10_38 gt_0 (Nat.le_of_ble_eq_true rfl) rfl rfl (by decide +kernel) ?_
  refine n_iload hX rfl ?_
  refine n_new (n := 65) hX nk_X10_13 gt_65 ⟨(Nat.le_of_ble_eq_true rfl), (Nat.le_of_ble_eq_true rfl)⟩ ⟨rfl, rfl⟩ ⟨(Nat.le_of_ble_eq_true rfl), (Nat.le_of_ble_eq_true rfl)⟩ ?_
  refine n_dup hX rfl ?_
  refine n_call (d2 := 1) (ca := 10) (sl := 276) (as := []) hX mok_X3_init rfl rfl in_X3_init (Or.inr cl_X10_15) rfl ⟨(Nat.le_of_ble_eq_true rfl), (Nat.le_of_ble_eq_true rfl), (Nat.le_of_ble_eq_true rfl), (Nat.le_of_ble_eq_true rfl)⟩ (Nat.le_of_ble_eq_true rfl) (Nat.le_of_ble_eq_true rfl) ⟨rfl, rfl⟩ rfl ct_X3_init_65 ?_
  refine n_aast (r := 65) hX gt_42 (Nat.le_of_ble_eq_true rfl) rfl rfl (Nat.le_of_ble_eq_true rfl) gt_65 ?_
  refine n_iinc hX (Nat.le_of_ble_eq_true rfl) rfl (v := 3) (by decide) rfl ?_
  refine n_goto hX 39 rfl rfl ?_
  refine n_iload hX rfl ?_
  refine n_iconst hX (v := 3) (by decide) ?_
  refine n_icmp_geT hX 51 rfl rfl (by decide) ?_
  refine n_aload_n hX rfl ?_
  refine n_new (n := 76) hX nk_X10_42 gt_76 ⟨(Nat.le_of_ble_eq_true rfl), (Nat.le_of_ble_eq_true rfl)⟩ ⟨rfl, rfl⟩ ⟨(Nat.le_of_ble_eq_true rfl), (Nat.le_of_ble_eq_true rfl)⟩ ?_
  refine n_dup hX rfl ?_
  refine n_aload_n hX rfl ?_
  refine n_aload_n hX rfl ?_
  refine n_call (d2 := 1) (ca := 5) (sl := 500) (as := [vR 3, vR 16]) hX mok_X7_init rfl rfl in_X7_init (Or.inr cl_X10_44) rfl ⟨(Nat.le_of_ble_eq_true rfl), (Nat.le_of_ble_eq_true rfl), (Nat.le_of_ble_eq_true rfl), (Nat.le_of_ble_eq_true rfl)⟩ (Nat.le_of_ble_eq_true rfl) (Nat.le_of_ble_eq_true rfl) ⟨rfl, rfl⟩ rfl ct_X7_init_76 ?_
  refine n_putR (r := 76) hX fl_X10_47 rfl gt_0 (Nat.le_of_ble_eq_true rfl) rfl (fun _ => ⟨rfl, rfl⟩) rfl (Nat.le_of_ble_eq_true rfl) ?_
  refine n_aload_n hX rfl ?_
  refine n_new (n := 82) hX nk_X10_42 gt_82 ⟨(Nat.le_of_ble_eq_true rfl), (Nat.le_of_ble_eq_true rfl)⟩ ⟨rfl, rfl⟩ ⟨(Nat.le_of_ble_eq_true rfl), (Nat.le_of_ble_eq_true rfl)⟩ ?_
  refine n_dup hX rfl ?_
  refine n_aload_n hX rfl ?_
  refine n_aload_n hX rfl ?_
  refine n_call (d2 := 1) (ca := 5) (sl := 500) (as := [vR 3, vR 16]) hX mok_X7_init rfl rfl in_X7_init (Or.inr cl_X10_44) rfl ⟨(Nat.le_of_ble_eq_true rfl), (Nat.le_of_ble_eq_true rfl), (Nat.le_of_ble_eq_true rfl), (Nat.le_of_ble_eq_true rfl)⟩ (Nat.le_of_ble_eq_true rfl) (Nat.le_of_ble_eq_true rfl) ⟨rfl, rfl⟩ rfl ct_X7_init_82 ?_
  refine n_putR (r := 82) hX fl_X10_51 rfl gt_0 (Nat.le_of_ble_eq_true rfl) rfl (fun _ => ⟨rfl, rfl⟩) rfl (Nat.le_of_ble_eq_true rfl) ?_
  refine n_aload_n hX rfl ?_
  refine n_new (n := 88) hX nk_X10_54 gt_88 ⟨(Nat.le_of_ble_eq_true rfl), (Nat.le_of_ble_eq_true rfl)⟩ ⟨rfl, rfl⟩ ⟨(Nat.le_of_ble_eq_true rfl), (Nat.le_of_ble_eq_true rfl)⟩ ?_
  refine n_dup hX rfl ?_
  refine n_aload_n hX rfl ?_
  refine n_aload_n hX rfl ?_
  refine n_call (d2 := 1) (ca := 0) (sl := 0) (as := [vR 1, vR 3]) hX mok_X8_init rfl rfl in_X8_init (Or.inr cl_X10_56) rfl ⟨(Nat.le_of_ble_eq_true rfl), (Nat.le_of_ble_eq_true rfl), (Nat.le_of_ble_eq_true rfl), (Nat.le_of_ble_eq_true rfl)⟩ (Nat.le_of_ble_eq_true rfl) (Nat.le_of_ble_eq_true rfl) ⟨rfl, rfl⟩ rfl ct_X8_init_88 ?_
  refine n_putR (r := 88) hX fl_X10_59 rfl gt_0 (Nat.le_of_ble_eq_true rfl) rfl (fun _ => ⟨rfl, rfl⟩) rfl (Nat.le_of_ble_eq_true rfl) ?_
  refine n_aload_n hX rfl ?_
  refine n_aload hX rfl ?_
  refine n_putR (r := 27) hX fl_X10_63 rfl gt_0 (Nat.le_of_ble_eq_true rfl) rfl (fun _ => ⟨rfl, rfl⟩) rfl (Nat.le_of_ble_eq_true rfl) ?_
  refine n_aload_n hX rfl ?_
  refine n_new (n := 89) hX nk_X10_67 gt_89 ⟨(Nat.le_of_ble_eq_true rfl), (Nat.le_of_ble_eq_true rfl)⟩ ⟨rfl, rfl⟩ ⟨(Nat.le_of_ble_eq_true rfl), (Nat.le_of_ble_eq_true rfl)⟩ ?_
  refine n_dup hX rfl ?_
  refine n_aload hX rfl ?_
  refine n_aload_n hX rfl ?_
  refine n_call (d2 := 1) (ca := 3) (sl := 572) (as := [vR 27, vR 16]) hX mok_X9_init rfl rfl in_X9_init (Or.inr cl_X10_69) rfl ⟨(Nat.le_of_ble_eq_true rfl), (Nat.le_of_ble_eq_true rfl), (Nat.le_of_ble_eq_true rfl), (Nat.le_of_ble_eq_true rfl)⟩ (Nat.le_of_ble_eq_true rfl) (Nat.le_of_ble_eq_true rfl) ⟨rfl, rfl⟩ rfl ct_X9_init_89 ?_
  refine n_putR (r := 89) hX fl_X10_72 rfl gt_0 (Nat.le_of_ble_eq_true rfl) rfl (fun _ => ⟨rfl, rfl⟩) rfl (Nat.le_of_ble_eq_true rfl) ?_
  refine n_aload_n hX rfl ?_
  refine n_new (n := 93) hX nk_X10_76 gt_93 ⟨(Nat.le_of_ble_eq_true rfl), (Nat.le_of_ble_eq_true rfl)⟩ ⟨rfl, rfl⟩ ⟨(Nat.le_of_ble_eq_true rfl), (Nat.le_of_ble_eq_true rfl)⟩ ?_
  refine n_dup hX rfl ?_
  refine n_aload_n hX rfl ?_
  refine n_aload_n hX rfl ?_
  refine n_call (d2 := 1) (ca := 1) (sl := 12) (as := [vR 3, vR 16]) hX mok_X5_init rfl rfl in_X5_init (Or.inr cl_X10_78) rfl ⟨(Nat.le_of_ble_eq_true rfl), (Nat.le_of_ble_eq_true rfl), (Nat.le_of_ble_eq_true rfl), (Nat.le_of_ble_eq_true rfl)⟩ (Nat.le_of_ble_eq_true rfl) (Nat.le_of_ble_eq_true rfl) ⟨rfl, rfl⟩ rfl ct_X5_init_93 ?_
  refine n_putR (r := 93) hX fl_X10_79 rfl gt_0 (Nat.le_of_ble_eq_true rfl) rfl (fun _ => ⟨rfl, rfl⟩) rfl (Nat.le_of_ble_eq_true rfl) ?_
  refine n_aload_n hX rfl ?_
  refine n_new (n := 95) hX nk_X10_83 gt_95 ⟨(Nat.le_of_ble_eq_true rfl), (Nat.le_of_ble_eq_true rfl)⟩ ⟨rfl, rfl⟩ ⟨(Nat.le_of_ble_eq_true rfl), (Nat.le_of_ble_eq_true rfl)⟩ ?_
  refine n_dup hX rfl ?_
  refine n_call (d2 := 1) (ca := 3) (sl := 18) (as := []) hX mok_X6_init rfl rfl in_X6_init (Or.inr cl_X10_85) rfl ⟨(Nat.le_of_ble_eq_true rfl), (Nat.le_of_ble_eq_true rfl), (Nat.le_of_ble_eq_true rfl), (Nat.le_of_ble_eq_true rfl)⟩ (Nat.le_of_ble_eq_true rfl) (Nat.le_of_ble_eq_true rfl) ⟨rfl, rfl⟩ rfl ct_X6_init_95 ?_
  refine n_putR (r := 95) hX fl_X10_86 rfl gt_0 (Nat.le_of_ble_eq_true rfl) rfl (fun _ => ⟨rfl, rfl⟩) rfl (Nat.le_of_ble_eq_true rfl) ?_
  refine n_aload_n hX rfl ?_
  refine n_iconst hX (v := (-1)) (by decide) ?_
  refine n_putI hX fl_X10_90 rfl gt_0 (Nat.le_of_ble_eq_true rfl) rfl ?_
  exact n_ret hX hW
def k_X11_init_0 : List CI := (0, .aload_n 0, 1) :: (1, .invokespecial 1, 3) :: (4, .aload_n 0, 1) :: (5, .iconst (-1), 1) :: (6, .putfield 9, 3) :: (9, .aload_n 0, 1) :: (10, .sipush 500, 3) :: (13, .newarray .int, 2) :: (15, .putfield 13, 3) :: (18, .aload_n 0, 1) :: (19, .iconst 3, 1) :: (20, .newarray .int, 2) :: (22, .putfield 17, 3) :: (25, .aload_n 0, 1) :: (26, .bipush 6, 2) :: (28, .newarray .int, 2) :: (30, .putfield 20, 3) :: (33, .aload_n 0, 1) :: (34, .bipush 6, 2) :: (36, .newarray .int, 2) :: (38, .putfield 23, 3) :: (41, .aload_n 0, 1) :: (42, .iconst 3, 1) :: (43, .newarray .int, 2) :: (45, .putfield 26, 3) :: (48, .aload_n 0, 1) :: (49, .iconst 3, 1) :: (50, .newarray .int, 2) :: (52, .putfield 29, 3) :: (55, .aload_n 0, 1) :: (56, .bipush 12, 2) :: (58, .newarray .int, 2) :: (60, .putfield 32, 3) :: (63, .aload_n 0, 1) :: (64, .bipush 12, 2) :: (66, .newarray .int, 2) :: (68, .putfield 35, 3) :: (71, .aload_n 0, 1) :: (72, .bipush 12, 2) :: (74, .newarray .int, 2) :: (76, .putfield 38, 3) :: (79, .aload_n 0, 1) :: (80, .bipush 12, 2) :: (82, .newarray .int, 2) :: (84, .putfield 41, 3) :: (87, .aload_n 0, 1) :: (88, .bipush 6, 2) :: (90, .newarray .int, 2) :: (92, .putfield 44, 3) :: (95, .aload_n 0, 1) :: (96, .bipush 6, 2) :: (98, .newarray .int, 2) :: (100, .putfield 47, 3) :: (103, .aload_n 0, 1) :: (104, .bipush 6, 2) :: (106, .newarray .int, 2) :: (108, .putfield 50, 3) :: (111, .aload_n 0, 1) :: (112, .bipush 6, 2) :: (114, .newarray .int, 2) :: (116, .putfield 53, 3) :: (119, .aload_n 0, 1) :: (120, .bipush 10, 2) :: (122, .bipush 12, 2) :: (124, .multianewarray 56 2, 4) :: (128, .putfield 58, 3) :: (131, .aload_n 0, 1) :: (132, .bipush 10, 2) :: (134, .bipush 12, 2) :: (136, .multianewarray 56 2, 4) :: (140, .putfield 61, 3) :: (143, .aload_n 0, 1) :: (144, .sipush 220, 3) :: (147, .iconst 3, 1) :: (148, .multianewarray 56 2, 4) :: (152, .putfield 64, 3) :: (155, .aload_n 0, 1) :: (156, .sipush 220, 3) :: (159, .iconst 3, 1) :: (160, .multianewarray 56 2, 4) :: (164, .putfield 67, 3) :: (167, .aload_n 0, 1) :: (168, .sipush 220, 3) :: (171, .newarray .boolean, 2) :: (173, .putfield 70, 3) :: (176, .aload_n 0, 1) :: (177, .bipush 20, 2) :: (179, .iconst 3, 1) :: (180, .multianewarray 56 2, 4) :: (184, .putfield 74, 3) :: (187, .aload_n 0, 1) :: (188, .bipush 20, 2) :: (190, .iconst 4, 1) :: (191, .multianewarray 56 2, 4) :: (195, .putfield 77, 3) :: (198, .aload_n 0, 1) :: (199, .bipush 8, 2) :: (201, .iconst 2, 1) :: (202, .multianewarray 56 2, 4) :: (206, .putfield 80, 3) :: (209, .aload_n 0, 1) :: (210, .iconst 3, 1) :: (211, .sipush 279, 3) :: (214, .multianewarray 56 2, 4) :: (218, .putfield 83, 3) :: (221, .aload_n 0, 1) :: (222, .bipush 24, 2) :: (224, .newarray .int, 2) :: (226, .putfield 86, 3) :: (229, .aload_n 0, 1) :: (230, .bipush 6, 2) :: (232, .newarray .int, 2) :: (234, .putfield 89, 3) :: (237, .aload_n 0, 1) :: (238, .bipush 6, 2) :: (240, .newarray .int, 2) :: (242, .putfield 92, 3) :: (245, .aload_n 0, 1) :: (246, .bipush 12, 2) :: (248, .newarray .int, 2) :: (250, .putfield 95, 3) :: (253, .aload_n 0, 1) :: (254, .sipush 256, 3) :: (257, .newarray .int, 2) :: (259, .putfield 98, 3) :: (262, .aload_n 0, 1) :: (263, .sipush 256, 3) :: (266, .newarray .int, 2) :: (268, .putfield 101, 3) :: (271, .aload_n 0, 1) :: (272, .getfield 23, 3) :: (275, .iconst 4, 1) :: (276, .iconst 1, 1) :: (277, .iastore, 1) :: (278, .aload_n 0, 1) :: (279, .getfield 23, 3) :: (282, .iconst 5, 1) :: (283, .iconst 1, 1) :: (284, .iastore, 1) :: (285, .aload_n 0, 1) :: (286, .iconst 1, 1) :: (287, .putfield 104, 3) :: (290, .return_, 1) :: []
def Y_X11_init : MD := (yX11_init, cX11_init, 1, none, k_X11_init_0)
theorem cok_X11_init : COK Y_X11_init.2.1 Y_X11_init.code = true := by decide +kernel
theorem mok_X11_init : MOK Y_X11_init 0 := ⟨mU_7 13 rfl rfl, mU_1 13 rfl rfl, by decide, by decide, by decide +kernel, by decide⟩
theorem in_X11_init : Cond.instanceMethod Y_X11_init.1 ∈ UW := mU_7 12 rfl rfl
theorem fl_X11_9 : FOKL RX11 9 11 3 .int false := ⟨RX11, TX11, 48, tyX11, cls_11, by decide, rfl, rfl, rfl, mU_7 20 rfl rfl⟩
theorem fl_X11_13 : FOKL RX11 13 11 8 (tyX11 8) true := ⟨RX11, TX11, 48, tyX11, cls_11, by decide, rfl, rfl, rfl, mU_7 25 rfl rfl⟩
theorem fl_X11_17 : FOKL RX11 17 11 9 (tyX11 9) true := ⟨RX11, TX11, 48, tyX11, cls_11, by decide, rfl, rfl, rfl, mU_7 26 rfl rfl⟩
theorem fl_X11_20 : FOKL RX11 20 11 10 (tyX11 10) true := ⟨RX11, TX11, 48, tyX11, cls_11, by decide, rfl, rfl, rfl, mU_7 27 rfl rfl⟩
theorem fl_X11_23 : FOKL RX11 23 11 11 (tyX11 11) true := ⟨RX11, TX11, 48, tyX11, cls_11, by decide, rfl, rfl, rfl, mU_7 28 rfl rfl⟩
theorem fl_X11_26 : FOKL RX11 26 11 12 (tyX11 12) true := ⟨RX11, TX11, 48, tyX11, cls_11, by decide, rfl, rfl, rfl, mU_7 29 rfl rfl⟩
theorem fl_X11_29 : FOKL RX11 29 11 13 (tyX11 13) true := ⟨RX11, TX11, 48, tyX11, cls_11, by decide, rfl, rfl, rfl, mU_7 30 rfl rfl⟩
theorem fl_X11_32 : FOKL RX11 32 11 14 (tyX11 14) true := ⟨RX11, TX11, 48, tyX11, cls_11, by decide, rfl, rfl, rfl, mU_7 31 rfl rfl⟩
theorem fl_X11_35 : FOKL RX11 35 11 15 (tyX11 15) true := ⟨RX11, TX11, 48, tyX11, cls_11, by decide, rfl, rfl, rfl, mU_7 32 rfl rfl⟩
theorem fl_X11_38 : FOKL RX11 38 11 16 (tyX11 16) true := ⟨RX11, TX11, 48, tyX11, cls_11, by decide, rfl, rfl, rfl, mU_7 33 rfl rfl⟩
theorem fl_X11_41 : FOKL RX11 41 11 17 (tyX11 17) true := ⟨RX11, TX11, 48, tyX11, cls_11, by decide, rfl, rfl, rfl, mU_7 34 rfl rfl⟩
theorem fl_X11_44 : FOKL RX11 44 11 18 (tyX11 18) true := ⟨RX11, TX11, 48, tyX11, cls_11, by decide, rfl, rfl, rfl, mU_7 35 rfl rfl⟩
theorem fl_X11_47 : FOKL RX11 47 11 19 (tyX11 19) true := ⟨RX11, TX11, 48, tyX11, cls_11, by decide, rfl, rfl, rfl, mU_7 36 rfl rfl⟩
theorem fl_X11_50 : FOKL RX11 50 11 20 (tyX11 20) true := ⟨RX11, TX11, 48, tyX11, cls_11, by decide, rfl, rfl, rfl, mU_7 37 rfl rfl⟩
theorem fl_X11_53 : FOKL RX11 53 11 21 (tyX11 21) true := ⟨RX11, TX11, 48, tyX11, cls_11, by decide, rfl, rfl, rfl, mU_7 38 rfl rfl⟩
theorem fl_X11_58 : FOKL RX11 58 11 22 (tyX11 22) true := ⟨RX11, TX11, 48, tyX11, cls_11, by decide, rfl, rfl, rfl, mU_7 39 rfl rfl⟩
theorem fl_X11_61 : FOKL RX11 61 11 23 (tyX11 23) true := ⟨RX11, TX11, 48, tyX11, cls_11, by decide, rfl, rfl, rfl, mU_7 40 rfl rfl⟩
theorem fl_X11_64 : FOKL RX11 64 11 29 (tyX11 29) true := ⟨RX11, TX11, 48, tyX11, cls_11, by decide, rfl, rfl, rfl, mU_7 46 rfl rfl⟩
theorem fl_X11_67 : FOKL RX11 67 11 30 (tyX11 30) true := ⟨RX11, TX11, 48, tyX11, cls_11, by decide, rfl, rfl, rfl, mU_7 47 rfl rfl⟩
theorem fl_X11_70 : FOKL RX11 70 11 31 (tyX11 31) true := ⟨RX11, TX11, 48, tyX11, cls_11, by decide, rfl, rfl, rfl, mU_7 48 rfl rfl⟩
theorem fl_X11_74 : FOKL RX11 74 11 37 (tyX11 37) true := ⟨RX11, TX11, 48, tyX11, cls_11, by decide, rfl, rfl, rfl, mU_7 54 rfl rfl⟩
theorem fl_X11_77 : FOKL RX11 77 11 38 (tyX11 38) true := ⟨RX11, TX11, 48, tyX11, cls_11, by decide, rfl, rfl, rfl, mU_7 55 rfl rfl⟩
theorem fl_X11_80 : FOKL RX11 80 11 39 (tyX11 39) true := ⟨RX11, TX11, 48, tyX11, cls_11, by decide, rfl, rfl, rfl, mU_7 56 rfl rfl⟩
theorem fl_X11_83 : FOKL RX11 83 11 40 (tyX11 40) true := ⟨RX11, TX11, 48, tyX11, cls_11, by decide, rfl, rfl, rfl, mU_7 57 rfl rfl⟩
theorem fl_X11_86 : FOKL RX11 86 11 41 (tyX11 41) true := ⟨RX11, TX11, 48, tyX11, cls_11, by decide, rfl, rfl, rfl, mU_7 58 rfl rfl⟩
theorem fl_X11_89 : FOKL RX11 89 11 42 (tyX11 42) true := ⟨RX11, TX11, 48, tyX11, cls_11, by decide, rfl, rfl, rfl, mU_7 59 rfl rfl⟩
theorem fl_X11_92 : FOKL RX11 92 11 43 (tyX11 43) true := ⟨RX11, TX11, 48, tyX11, cls_11, by decide, rfl, rfl, rfl, mU_7 60 rfl rfl⟩
theorem fl_X11_95 : FOKL RX11 95 11 45 (tyX11 45) true := ⟨RX11, TX11, 48, tyX11, cls_11, by decide, rfl, rfl, rfl, mU_7 62 rfl rfl⟩
theorem fl_X11_98 : FOKL RX11 98 11 46 (tyX11 46) true := ⟨RX11, TX11, 48, tyX11, cls_11, by decide, rfl, rfl, rfl, mU_7 63 rfl rfl⟩
theorem fl_X11_101 : FOKL RX11 101 11 47 (tyX11 47) true := ⟨RX11, TX11, 48, tyX11, cls_11, by decide, rfl, rfl, rfl, mU_7 64 rfl rfl⟩
theorem fl_X11_104 : FOKL RX11 104 11 27 .int false := ⟨RX11, TX11, 48, tyX11, cls_11, by decide, rfl, rfl, rfl, mU_7 44 rfl rfl⟩
def rs_32 : List (Nat × Nat) := (99, 47) :: (99, 46) :: (99, 45) :: (99, 43) :: (99, 42) :: (99, 41) :: (99, 40) :: (99, 39) :: (99, 38) :: (99, 37) :: (99, 31) :: (99, 30) :: (99, 29) :: (99, 23) :: (99, 22) :: (99, 21) :: (99, 20) :: (99, 19) :: (99, 18) :: (99, 17) :: (99, 16) :: (99, 15) :: (99, 14) :: (99, 13) :: (99, 12) :: (99, 11) :: (99, 10) :: (99, 9) :: (99, 8) :: rs_31
def Mc_7 : PM := (sI (sA (sA (sI Mc_6 99 3 (-1)) 103 (4 : Int32).toNatClampNeg 1) 103 (5 : Int32).toNatClampNeg 1) 99 27 1)
set_option maxRecDepth 100000 in
theorem ct_X11_init_99 {l : Launch} : PCN l 1 540 4437 Y_X11_init [vR 99] 100 rs_31 Mc_6 129 rs_32 Mc_7 := by
  refine pcn_of (ls := [vR 99]) (by decide +kernel) rfl cok_X11_init (Nat.le_of_ble_eq_true rfl) rfl (fun X hX hW => ?_) rfl
  refine n_aload_n hX rfl ?_
  refine n_obj hX (mU_7 14 rfl rfl) oi_inst oi_code ⟨(Nat.le_of_ble_eq_true rfl), (Nat.le_of_ble_eq_true rfl)⟩ (Nat.le_of_ble_eq_true rfl) ?_
  refine n_aload_n hX rfl ?_
  refine n_iconst hX (v := (-1)) (by decide) ?_
  refine n_putI hX fl_X11_9 rfl gt_99 (Nat.le_of_ble_eq_true rfl) rfl ?_
  refine n_aload_n hX rfl ?_
  refine n_sipush hX (v := 500) (by decide) ?_
  refine n_newa (n := 100) (N := 500) hX rfl ac_int (Or.inl ⟨rfl, rfl⟩) ⟨by decide, by decide, (Nat.le_of_ble_eq_true rfl)⟩ gt_100 ⟨(Nat.le_of_ble_eq_true rfl), (Nat.le_of_ble_eq_true rfl)⟩ ⟨rfl, rfl⟩ ⟨(Nat.le_of_ble_eq_true rfl), (Nat.le_of_ble_eq_true rfl)⟩ ?_
  refine n_putR (r := 100) hX fl_X11_13 rfl gt_99 (Nat.le_of_ble_eq_true rfl) rfl (fun _ => ⟨rfl, rfl⟩) rfl (Nat.le_of_ble_eq_true rfl) ?_
  refine n_aload_n hX rfl ?_
  refine n_iconst hX (v := 3) (by decide) ?_
  refine n_newa (n := 101) (N := 3) hX rfl ac_int (Or.inl ⟨rfl, rfl⟩) ⟨by decide, by decide, (Nat.le_of_ble_eq_true rfl)⟩ gt_101 ⟨(Nat.le_of_ble_eq_true rfl), (Nat.le_of_ble_eq_true rfl)⟩ ⟨rfl, rfl⟩ ⟨(Nat.le_of_ble_eq_true rfl), (Nat.le_of_ble_eq_true rfl)⟩ ?_
  refine n_putR (r := 101) hX fl_X11_17 rfl gt_99 (Nat.le_of_ble_eq_true rfl) rfl (fun _ => ⟨rfl, rfl⟩) rfl (Nat.le_of_ble_eq_true rfl) ?_
  refine n_aload_n hX rfl ?_
  refine n_bipush hX (v := 6) (by decide) ?_
  refine n_newa (n := 102) (N := 6) hX rfl ac_int (Or.inl ⟨rfl, rfl⟩) ⟨by decide, by decide, (Nat.le_of_ble_eq_true rfl)⟩ gt_102 ⟨(Nat.le_of_ble_eq_true rfl), (Nat.le_of_ble_eq_true rfl)⟩ ⟨rfl, rfl⟩ ⟨(Nat.le_of_ble_eq_true rfl), (Nat.le_of_ble_eq_true rfl)⟩ ?_
  refine n_putR (r := 102) hX fl_X11_20 rfl gt_99 (Nat.le_of_ble_eq_true rfl) rfl (fun _ => ⟨rfl, rfl⟩) rfl (Nat.le_of_ble_eq_true rfl) ?_
  refine n_aload_n hX rfl ?_
  refine n_bipush hX (v := 6) (by decide) ?_
  refine n_newa (n := 103) (N := 6) hX rfl ac_int (Or.inl ⟨rfl, rfl⟩) ⟨by decide, by decide, (Nat.le_of_ble_eq_true rfl)⟩ gt_103 ⟨(Nat.le_of_ble_eq_true rfl), (Nat.le_of_ble_eq_true rfl)⟩ ⟨rfl, rfl⟩ ⟨(Nat.le_of_ble_eq_true rfl), (Nat.le_of_ble_eq_true rfl)⟩ ?_
  refine n_putR (r := 103) hX fl_X11_23 rfl gt_99 (Nat.le_of_ble_eq_true rfl) rfl (fun _ => ⟨rfl, rfl⟩) rfl (Nat.le_of_ble_eq_true rfl) ?_
  refine n_aload_n hX rfl ?_
  refine n_iconst hX (v := 3) (by decide) ?_
  refine n_newa (n := 104) (N := 3) hX rfl ac_int (Or.inl ⟨rfl, rfl⟩) ⟨by decide, by decide, (Nat.le_of_ble_eq_true rfl)⟩ gt_104 ⟨(Nat.le_of_ble_eq_true rfl), (Nat.le_of_ble_eq_true rfl)⟩ ⟨rfl, rfl⟩ ⟨(Nat.le_of_ble_eq_true rfl), (Nat.le_of_ble_eq_true rfl)⟩ ?_
  refine n_putR (r := 104) hX fl_X11_26 rfl gt_99 (Nat.le_of_ble_eq_true rfl) rfl (fun _ => ⟨rfl, rfl⟩) rfl (Nat.le_of_ble_eq_true rfl) ?_
  refine n_aload_n hX rfl ?_
  refine n_iconst hX (v := 3) (by decide) ?_
  refine n_newa (n := 105) (N := 3) hX rfl ac_int (Or.inl ⟨rfl, rfl⟩) ⟨by decide, by decide, (Nat.le_of_ble_eq_true rfl)⟩ gt_105 ⟨(Nat.le_of_ble_eq_true rfl), (Nat.le_of_ble_eq_true rfl)⟩ ⟨rfl, rfl⟩ ⟨(Nat.le_of_ble_eq_true rfl), (Nat.le_of_ble_eq_true rfl)⟩ ?_
  refine n_putR (r := 105) hX fl_X11_29 rfl gt_99 (Nat.le_of_ble_eq_true rfl) rfl (fun _ => ⟨rfl, rfl⟩) rfl (Nat.le_of_ble_eq_true rfl) ?_
  refine n_aload_n hX rfl ?_
  refine n_bipush hX (v := 12) (by decide) ?_
  refine n_newa (n := 106) (N := 12) hX rfl ac_int (Or.inl ⟨rfl, rfl⟩) ⟨by decide, by decide, (Nat.le_of_ble_eq_true rfl)⟩ gt_106 ⟨(Nat.le_of_ble_eq_true rfl), (Nat.le_of_ble_eq_true rfl)⟩ ⟨rfl, rfl⟩ ⟨(Nat.le_of_ble_eq_true rfl), (Nat.le_of_ble_eq_true rfl)⟩ ?_
  refine n_putR (r := 106) hX fl_X11_32 rfl gt_99 (Nat.le_of_ble_eq_true rfl) rfl (fun _ => ⟨rfl, rfl⟩) rfl (Nat.le_of_ble_eq_true rfl) ?_
  refine n_aload_n hX rfl ?_
  refine n_bipush hX (v := 12) (by decide) ?_
  refine n_newa (n := 107) (N := 12) hX rfl ac_int (Or.inl ⟨rfl, rfl⟩) ⟨by decide, by decide, (Nat.le_of_ble_eq_true rfl)⟩ gt_107 ⟨(Nat.le_of_ble_eq_true rfl), (Nat.le_of_ble_eq_true rfl)⟩ ⟨rfl, rfl⟩ ⟨(Nat.le_of_ble_eq_true rfl), (Nat.le_of_ble_eq_true rfl)⟩ ?_
  refine n_putR (r := 107) hX fl_X11_35 rfl gt_99 (Nat.le_of_ble_eq_true rfl) rfl (fun _ => ⟨rfl, rfl⟩) rfl (Nat.le_of_ble_eq_true rfl) ?_
  refine n_aload_n hX rfl ?_
  refine n_bipush hX (v := 12) (by decide) ?_
  refine n_newa (n := 108) (N := 12) hX rfl ac_int (Or.inl ⟨rfl, rfl⟩) ⟨by decide, by decide, (Nat.le_of_ble_eq_true rfl)⟩ gt_108 ⟨(Nat.le_of_ble_eq_true rfl), (Nat.le_of_ble_eq_true rfl)⟩ ⟨rfl, rfl⟩ ⟨(Nat.le_of_ble_eq_true rfl), (Nat.le_of_ble_eq_true rfl)⟩ ?_
  refine n_putR (r := 108) hX fl_X11_38 rfl gt_99 (Nat.le_of_ble_eq_true rfl) rfl (fun _ => ⟨rfl, rfl⟩) rfl (Nat.le_of_ble_eq_true rfl) ?_
  refine n_aload_n hX rfl ?_
  refine n_bipush hX (v := 12) (by decide) ?_
  refine n_newa (n := 109) (N := 12) hX rfl ac_int (Or.inl ⟨rfl, rfl⟩) ⟨by decide, by decide, (Nat.le_of_ble_eq_true rfl)⟩ gt_109 ⟨(Nat.le_of_ble_eq_true rfl), (Nat.le_of_ble_eq_true rfl)⟩ ⟨rfl, rfl⟩ ⟨(Nat.le_of_ble_eq_true rfl), (Nat.le_of_ble_eq_true rfl)⟩ ?_
  refine n_putR (r := 109) hX fl_X11_41 rfl gt_99 (Nat.le_of_ble_eq_true rfl) rfl (fun _ => ⟨rfl, rfl⟩) rfl (Nat.le_of_ble_eq_true rfl) ?_
  refine n_aload_n hX rfl ?_
  refine n_bipush hX (v := 6) (by decide) ?_
  refine n_newa (n := 110) (N := 6) hX rfl ac_int (Or.inl ⟨rfl, rfl⟩) ⟨by decide, by decide, (Nat.le_of_ble_eq_true rfl)⟩ gt_110 ⟨(Nat.le_of_ble_eq_true rfl), (Nat.le_of_ble_eq_true rfl)⟩ ⟨rfl, rfl⟩ ⟨(Nat.le_of_ble_eq_true rfl), (Nat.le_of_ble_eq_true rfl)⟩ ?_
  refine n_putR (r := 110) hX fl_X11_44 rfl gt_99 (Nat.le_of_ble_eq_true rfl) rfl (fun _ => ⟨rfl, rfl⟩) rfl (Nat.le_of_ble_eq_true rfl) ?_
  refine n_aload_n hX rfl ?_
  refine n_bipush hX (v := 6) (by decide) ?_
  refine n_newa (n := 111) (N := 6) hX rfl ac_int (Or.inl ⟨rfl, rfl⟩) ⟨by decide, by decide, (Nat.le_of_ble_eq_true rfl)⟩ gt_111 ⟨(Nat.le_of_ble_eq_true rfl), (Nat.le_of_ble_eq_true rfl)⟩ ⟨rfl, rfl⟩ ⟨(Nat.le_of_ble_eq_true rfl), (Nat.le_of_ble_eq_true rfl)⟩ ?_
  refine n_putR (r := 111) hX fl_X11_47 rfl gt_99 (Nat.le_of_ble_eq_true rfl) rfl (fun _ => ⟨rfl, rfl⟩) rfl (Nat.le_of_ble_eq_true rfl) ?_
  refine n_aload_n hX rfl ?_
  refine n_bipush hX (v := 6) (by decide) ?_
  refine n_newa (n := 112) (N := 6) hX rfl ac_int (Or.inl ⟨rfl, rfl⟩) ⟨by decide, by decide, (Nat.le_of_ble_eq_true rfl)⟩ gt_112 ⟨(Nat.le_of_ble_eq_true rfl), (Nat.le_of_ble_eq_true rfl)⟩ ⟨rfl, rfl⟩ ⟨(Nat.le_of_ble_eq_true rfl), (Nat.le_of_ble_eq_true rfl)⟩ ?_
  refine n_putR (r := 112) hX fl_X11_50 rfl gt_99 (Nat.le_of_ble_eq_true rfl) rfl (fun _ => ⟨rfl, rfl⟩) rfl (Nat.le_of_ble_eq_true rfl) ?_
  refine n_aload_n hX rfl ?_
  refine n_bipush hX (v := 6) (by decide) ?_
  refine n_newa (n := 113) (N := 6) hX rfl ac_int (Or.inl ⟨rfl, rfl⟩) ⟨by decide, by decide, (Nat.le_of_ble_eq_true rfl)⟩ gt_113 ⟨(Nat.le_of_ble_eq_true rfl), (Nat.le_of_ble_eq_true rfl)⟩ ⟨rfl, rfl⟩ ⟨(Nat.le_of_ble_eq_true rfl), (Nat.le_of_ble_eq_true rfl)⟩ ?_
  refine n_putR (r := 113) hX fl_X11_53 rfl gt_99 (Nat.le_of_ble_eq_true rfl) rfl (fun _ => ⟨rfl, rfl⟩) rfl (Nat.le_of_ble_eq_true rfl) ?_
  refine n_aload_n hX rfl ?_
  refine n_bipush hX (v := 10) (by decide) ?_
  refine n_bipush hX (v := 12) (by decide) ?_
  refine n_mna (n := 114) (N := 10) (K := 12) hX (mU_7 15 rfl rfl) ac_int ⟨by decide, by decide, (Nat.le_of_ble_eq_true rfl)⟩ ⟨by decide, by decide, (Nat.le_of_ble_eq_true rfl)⟩ gt_114 ⟨(Nat.le_of_ble_eq_true rfl), (Nat.le_of_ble_eq_true rfl)⟩ ⟨rfl, rfl⟩ ⟨(Nat.le_of_ble_eq_true rfl), (Nat.le_of_ble_eq_true rfl)⟩ ?_
  refine n_putR (r := 114) hX fl_X11_58 rfl gt_99 (Nat.le_of_ble_eq_true rfl) rfl (fun _ => ⟨rfl, rfl⟩) rfl (Nat.le_of_ble_eq_true rfl) ?_
  refine n_aload_n hX rfl ?_
  refine n_bipush hX (v := 10) (by decide) ?_
  refine n_bipush hX (v := 12) (by decide) ?_
  refine n_mna (n := 115) (N := 10) (K := 12) hX (mU_7 15 rfl rfl) ac_int ⟨by decide, by decide, (Nat.le_of_ble_eq_true rfl)⟩ ⟨by decide, by decide, (Nat.le_of_ble_eq_true rfl)⟩ gt_115 ⟨(Nat.le_of_ble_eq_true rfl), (Nat.le_of_ble_eq_true rfl)⟩ ⟨rfl, rfl⟩ ⟨(Nat.le_of_ble_eq_true rfl), (Nat.le_of_ble_eq_true rfl)⟩ ?_
  refine n_putR (r := 115) hX fl_X11_61 rfl gt_99 (Nat.le_of_ble_eq_true rfl) rfl (fun _ => ⟨rfl, rfl⟩) rfl (Nat.le_of_ble_eq_true rfl) ?_
  refine n_aload_n hX rfl ?_
  refine n_sipush hX (v := 220) (by decide) ?_
  refine n_iconst hX (v := 3) (by decide) ?_
  refine n_mna (n := 116) (N := 220) (K := 3) hX (mU_7 15 rfl rfl) ac_int ⟨by decide, by decide, (Nat.le_of_ble_eq_true rfl)⟩ ⟨by decide, by decide, (Nat.le_of_ble_eq_true rfl)⟩ gt_116 ⟨(Nat.le_of_ble_eq_true rfl), (Nat.le_of_ble_eq_true rfl)⟩ ⟨rfl, rfl⟩ ⟨(Nat.le_of_ble_eq_true rfl), (Nat.le_of_ble_eq_true rfl)⟩ ?_
  refine n_putR (r := 116) hX fl_X11_64 rfl gt_99 (Nat.le_of_ble_eq_true rfl) rfl (fun _ => ⟨rfl, rfl⟩) rfl (Nat.le_of_ble_eq_true rfl) ?_
  refine n_aload_n hX rfl ?_
  refine n_sipush hX (v := 220) (by decide) ?_
  refine n_iconst hX (v := 3) (by decide) ?_
  refine n_mna (n := 117) (N := 220) (K := 3) hX (mU_7 15 rfl rfl) ac_int ⟨by decide, by decide, (Nat.le_of_ble_eq_true rfl)⟩ ⟨by decide, by decide, (Nat.le_of_ble_eq_true rfl)⟩ gt_117 ⟨(Nat.le_of_ble_eq_true rfl), (Nat.le_of_ble_eq_true rfl)⟩ ⟨rfl, rfl⟩ ⟨(Nat.le_of_ble_eq_true rfl), (Nat.le_of_ble_eq_true rfl)⟩ ?_
  refine n_putR (r := 117) hX fl_X11_67 rfl gt_99 (Nat.le_of_ble_eq_true rfl) rfl (fun _ => ⟨rfl, rfl⟩) rfl (Nat.le_of_ble_eq_true rfl) ?_
  refine n_aload_n hX rfl ?_
  refine n_sipush hX (v := 220) (by decide) ?_
  refine n_newa (n := 118) (N := 220) hX rfl ac_boolean (Or.inr (Or.inr ⟨rfl, rfl⟩)) ⟨by decide, by decide, (Nat.le_of_ble_eq_true rfl)⟩ gt_118 ⟨(Nat.le_of_ble_eq_true rfl), (Nat.le_of_ble_eq_true rfl)⟩ ⟨rfl, rfl⟩ ⟨(Nat.le_of_ble_eq_true rfl), (Nat.le_of_ble_eq_true rfl)⟩ ?_
  refine n_putR (r := 118) hX fl_X11_70 rfl gt_99 (Nat.le_of_ble_eq_true rfl) rfl (fun _ => ⟨rfl, rfl⟩) rfl (Nat.le_of_ble_eq_true rfl) ?_
  refine n_aload_n hX rfl ?_
  refine n_bipush hX (v := 20) (by decide) ?_
  refine n_iconst hX (v := 3) (by decide) ?_
  refine n_mna (n := 119) (N := 20) (K := 3) hX (mU_7 15 rfl rfl) ac_int ⟨by decide, by decide, (Nat.le_of_ble_eq_true rfl)⟩ ⟨by decide, by decide, (Nat.le_of_ble_eq_true rfl)⟩ gt_119 ⟨(Nat.le_of_ble_eq_true rfl), (Nat.le_of_ble_eq_true rfl)⟩ ⟨rfl, rfl⟩ ⟨(Nat.le_of_ble_eq_true rfl), (Nat.le_of_ble_eq_true rfl)⟩ ?_
  refine n_putR (r := 119) hX fl_X11_74 rfl gt_99 (Nat.le_of_ble_eq_true rfl) rfl (fun _ => ⟨rfl, rfl⟩) rfl (Nat.le_of_ble_eq_true rfl) ?_
  refine n_aload_n hX rfl ?_
  refine n_bipush hX (v := 20) (by decide) ?_
  refine n_iconst hX (v := 4) (by decide) ?_
  refine n_mna (n := 120) (N := 20) (K := 4) hX (mU_7 15 rfl rfl) ac_int ⟨by decide, by decide, (Nat.le_of_ble_eq_true rfl)⟩ ⟨by decide, by decide, (Nat.le_of_ble_eq_true rfl)⟩ gt_120 ⟨(Nat.le_of_ble_eq_true rfl), (Nat.le_of_ble_eq_true rfl)⟩ ⟨rfl, rfl⟩ ⟨(Nat.le_of_ble_eq_true rfl), (Nat.le_of_ble_eq_true rfl)⟩ ?_
  refine n_putR (r := 120) hX fl_X11_77 rfl gt_99 (Nat.le_of_ble_eq_true rfl) rfl (fun _ => ⟨rfl, rfl⟩) rfl (Nat.le_of_ble_eq_true rfl) ?_
  refine n_aload_n hX rfl ?_
  refine n_bipush hX (v := 8) (by decide) ?_
  refine n_iconst hX (v := 2) (by decide) ?_
  refine n_mna (n := 121) (N := 8) (K := 2) hX (mU_7 15 rfl rfl) ac_int ⟨by decide, by decide, (Nat.le_of_ble_eq_true rfl)⟩ ⟨by decide, by decide, (Nat.le_of_ble_eq_true rfl)⟩ gt_121 ⟨(Nat.le_of_ble_eq_true rfl), (Nat.le_of_ble_eq_true rfl)⟩ ⟨rfl, rfl⟩ ⟨(Nat.le_of_ble_eq_true rfl), (Nat.le_of_ble_eq_true rfl)⟩ ?_
  refine n_putR (r := 121) hX fl_X11_80 rfl gt_99 (Nat.le_of_ble_eq_true rfl) rfl (fun _ => ⟨rfl, rfl⟩) rfl (Nat.le_of_ble_eq_true rfl) ?_
  refine n_aload_n hX rfl ?_
  refine n_iconst hX (v := 3) (by decide) ?_
  refine n_sipush hX (v := 279) (by decide) ?_
  refine n_mna (n := 122) (N := 3) (K := 279) hX (mU_7 15 rfl rfl) ac_int ⟨by decide, by decide, (Nat.le_of_ble_eq_true rfl)⟩ ⟨by decide, by decide, (Nat.le_of_ble_eq_true rfl)⟩ gt_122 ⟨(Nat.le_of_ble_eq_true rfl), (Nat.le_of_ble_eq_true rfl)⟩ ⟨rfl, rfl⟩ ⟨(Nat.le_of_ble_eq_true rfl), (Nat.le_of_ble_eq_true rfl)⟩ ?_
  refine n_putR (r := 122) hX fl_X11_83 rfl gt_99 (Nat.le_of_ble_eq_true rfl) rfl (fun _ => ⟨rfl, rfl⟩) rfl (Nat.le_of_ble_eq_true rfl) ?_
  refine n_aload_n hX rfl ?_
  refine n_bipush hX (v := 24) (by decide) ?_
  refine n_newa (n := 123) (N := 24) hX rfl ac_int (Or.inl ⟨rfl, rfl⟩) ⟨by decide, by decide, (Nat.le_of_ble_eq_true rfl)⟩ gt_123 ⟨(Nat.le_of_ble_eq_true rfl), (Nat.le_of_ble_eq_true rfl)⟩ ⟨rfl, rfl⟩ ⟨(Nat.le_of_ble_eq_true rfl), (Nat.le_of_ble_eq_true rfl)⟩ ?_
  refine n_putR (r := 123) hX fl_X11_86 rfl gt_99 (Nat.le_of_ble_eq_true rfl) rfl (fun _ => ⟨rfl, rfl⟩) rfl (Nat.le_of_ble_eq_true rfl) ?_
  refine n_aload_n hX rfl ?_
  refine n_bipush hX (v := 6) (by decide) ?_
  refine n_newa (n := 124) (N := 6) hX rfl ac_int (Or.inl ⟨rfl, rfl⟩) ⟨by decide, by decide, (Nat.le_of_ble_eq_true rfl)⟩ gt_124 ⟨(Nat.le_of_ble_eq_true rfl), (Nat.le_of_ble_eq_true rfl)⟩ ⟨rfl, rfl⟩ ⟨(Nat.le_of_ble_eq_true rfl), (Nat.le_of_ble_eq_true rfl)⟩ ?_
  refine n_putR (r := 124) hX fl_X11_89 rfl gt_99 (Nat.le_of_ble_eq_true rfl) rfl (fun _ => ⟨rfl, rfl⟩) rfl (Nat.le_of_ble_eq_true rfl) ?_
  refine n_aload_n hX rfl ?_
  refine n_bipush hX (v := 6) (by decide) ?_
  refine n_newa (n := 125) (N := 6) hX rfl ac_int (Or.inl ⟨rfl, rfl⟩) ⟨by decide, by decide, (Nat.le_of_ble_eq_true rfl)⟩ gt_125 ⟨(Nat.le_of_ble_eq_true rfl), (Nat.le_of_ble_eq_true rfl)⟩ ⟨rfl, rfl⟩ ⟨(Nat.le_of_ble_eq_true rfl), (Nat.le_of_ble_eq_true rfl)⟩ ?_
  refine n_putR (r := 125) hX fl_X11_92 rfl gt_99 (Nat.le_of_ble_eq_true rfl) rfl (fun _ => ⟨rfl, rfl⟩) rfl (Nat.le_of_ble_eq_true rfl) ?_
  refine n_aload_n hX rfl ?_
  refine n_bipush hX (v := 12) (by decide) ?_
  refine n_newa (n := 126) (N := 12) hX rfl ac_int (Or.inl ⟨rfl, rfl⟩) ⟨by decide, by decide, (Nat.le_of_ble_eq_true rfl)⟩ gt_126 ⟨(Nat.le_of_ble_eq_true rfl), (Nat.le_of_ble_eq_true rfl)⟩ ⟨rfl, rfl⟩ ⟨(Nat.le_of_ble_eq_true rfl), (Nat.le_of_ble_eq_true rfl)⟩ ?_
  refine n_putR (r := 126) hX fl_X11_95 rfl gt_99 (Nat.le_of_ble_eq_true rfl) rfl (fun _ => ⟨rfl, rfl⟩) rfl (Nat.le_of_ble_eq_true rfl) ?_
  refine n_aload_n hX rfl ?_
  refine n_sipush hX (v := 256) (by decide) ?_
  refine n_newa (n := 127) (N := 256) hX rfl ac_int (Or.inl ⟨rfl, rfl⟩) ⟨by decide, by decide, (Nat.le_of_ble_eq_true rfl)⟩ gt_127 ⟨(Nat.le_of_ble_eq_true rfl), (Nat.le_of_ble_eq_true rfl)⟩ ⟨rfl, rfl⟩ ⟨(Nat.le_of_ble_eq_true rfl), (Nat.le_of_ble_eq_true rfl)⟩ ?_
  refine n_putR (r := 127) hX fl_X11_98 rfl gt_99 (Nat.le_of_ble_eq_true rfl) rfl (fun _ => ⟨rfl, rfl⟩) rfl (Nat.le_of_ble_eq_true rfl) ?_
  refine n_aload_n hX rfl ?_
  refine n_sipush hX (v := 256) (by decide) ?_
  refine n_newa (n := 128) (N := 256) hX rfl ac_int (Or.inl ⟨rfl, rfl⟩) ⟨by decide, by decide, (Nat.le_of_ble_eq_true rfl)⟩ gt_128 ⟨(Nat.le_of_ble_eq_true rfl), (Nat.le_of_ble_eq_true rfl)⟩ ⟨rfl, rfl⟩ ⟨(Nat.le_of_ble_eq_true rfl), (Nat.le_of_ble_eq_true rfl)⟩ ?_
  refine n_putR (r := 128) hX fl_X11_101 rfl gt_99 (Nat.le_of_ble_eq_true rfl) rfl (fun _ => ⟨rfl, rfl⟩) rfl (Nat.le_of_ble_eq_true rfl) ?_
  refine n_aload_n hX rfl ?_
  refine n_getR (r := 103) hX fl_X11_23 gt_99 (Nat.le_of_ble_eq_true rfl) rfl rfl (by decide +kernel) ?_
  refine n_iconst hX (v := 4) (by decide) ?_
  refine n_iconst hX (v := 1) (by decide) ?_
  refine n_iast hX gt_103 (Nat.le_of_ble_eq_true rfl) rfl ?_
  refine n_aload_n hX rfl ?_
  refine n_getR (r := 103) hX fl_X11_23 gt_99 (Nat.le_of_ble_eq_true rfl) rfl rfl (by decide +kernel) ?_
  refine n_iconst hX (v := 5) (by decide) ?_
  refine n_iconst hX (v := 1) (by decide) ?_
  refine n_iast hX gt_103 (Nat.le_of_ble_eq_true rfl) rfl ?_
  refine n_aload_n hX rfl ?_
  refine n_iconst hX (v := 1) (by decide) ?_
  refine n_putI hX fl_X11_104 rfl gt_99 (Nat.le_of_ble_eq_true rfl) rfl ?_
  exact n_ret hX hW
