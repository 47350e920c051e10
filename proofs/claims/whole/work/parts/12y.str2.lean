def k_J0_coder_7d493_14 : List CI := (14, .ireturn, 1) :: []
def k_J0_coder_7d493_13 : List CI := (13, .iconst 1, 1) :: k_J0_coder_7d493_14
def k_J0_coder_7d493 : List CI := (0, .getstatic 38, 3) :: (3, .ifCond .eq 10, 3) :: (6, .aload_n 0, 1) :: (7, .getfield 15, 3) :: (10, .goto 4, 3) :: k_J0_coder_7d493_13
def Y_J0_coder_7d493 : MD := (yJ0_coder_7d493, cJ0_coder_7d493, 1, (some .byte), k_J0_coder_7d493)
theorem cok_J0_coder_7d493 : COK Y_J0_coder_7d493.2.1 Y_J0_coder_7d493.code = true := by decide +kernel
theorem mok_J0_coder_7d493 : MOK Y_J0_coder_7d493 0 := ⟨mU_3 107 rfl rfl, mU_1 18 rfl rfl, by decide, by decide, by decide +kernel, by decide⟩
theorem ins_J0_coder_7d493 : INST Y_J0_coder_7d493 := ⟨mU_3 105 rfl rfl, mU_3 106 rfl rfl⟩
def k_J0_isLatin1_aae02_18 : List CI := (18, .ireturn, 1) :: []
def k_J0_isLatin1_aae02_17 : List CI := (17, .iconst 0, 1) :: k_J0_isLatin1_aae02_18
def k_J0_isLatin1_aae02 : List CI := (0, .getstatic 38, 3) :: (3, .ifCond .eq 14, 3) :: (6, .aload_n 0, 1) :: (7, .getfield 15, 3) :: (10, .ifCond .ne 7, 3) :: (13, .iconst 1, 1) :: (14, .goto 4, 3) :: k_J0_isLatin1_aae02_17
def Y_J0_isLatin1_aae02 : MD := (yJ0_isLatin1_aae02, cJ0_isLatin1_aae02, 1, (some .boolean), k_J0_isLatin1_aae02)
theorem cok_J0_isLatin1_aae02 : COK Y_J0_isLatin1_aae02.2.1 Y_J0_isLatin1_aae02.code = true := by decide +kernel
theorem mok_J0_isLatin1_aae02 : MOK Y_J0_isLatin1_aae02 0 := ⟨mU_3 117 rfl rfl, mU_1 18 rfl rfl, by decide, by decide, by decide +kernel, by decide⟩
theorem ins_J0_isLatin1_aae02 : INST Y_J0_isLatin1_aae02 := ⟨mU_3 115 rfl rfl, mU_3 116 rfl rfl⟩
def k_J0_length_8abf5 : List CI := (0, .aload_n 0, 1) :: (1, .getfield 9, 3) :: (4, .arraylength, 1) :: (5, .aload_n 0, 1) :: (6, .invokevirtual 335, 3) :: (9, .ishr, 1) :: (10, .ireturn, 1) :: []
def Y_J0_length_8abf5 : MD := (yJ0_length_8abf5, cJ0_length_8abf5, 1, (some .int), k_J0_length_8abf5)
theorem cok_J0_length_8abf5 : COK Y_J0_length_8abf5.2.1 Y_J0_length_8abf5.code = true := by decide +kernel
theorem mok_J0_length_8abf5 : MOK Y_J0_length_8abf5 0 := ⟨mU_3 103 rfl rfl, mU_1 18 rfl rfl, by decide, by decide, by decide +kernel, by decide⟩
theorem ins_J0_length_8abf5 : INST Y_J0_length_8abf5 := ⟨mU_3 101 rfl rfl, mU_3 102 rfl rfl⟩
def k_J3_checkIndex_8e157_16 : List CI := (16, .iload_n 0, 1) :: (17, .ireturn, 1) :: []
def k_J3_checkIndex_8e157_9 : List CI := (9, .aload_n 2, 1) :: (10, .iload_n 0, 1) :: (11, .iload_n 1, 1) :: (12, .invokestatic 95, 3) :: (15, .athrow, 1) :: k_J3_checkIndex_8e157_16
def k_J3_checkIndex_8e157 : List CI := (0, .iload_n 0, 1) :: (1, .ifCond .lt 8, 3) :: (4, .iload_n 0, 1) :: (5, .iload_n 1, 1) :: (6, .if_icmp .lt 10, 3) :: k_J3_checkIndex_8e157_9
def Y_J3_checkIndex_8e157 : MD := (yJ3_checkIndex_8e157, cJ3_checkIndex_8e157, 3, (some .int), k_J3_checkIndex_8e157)
theorem cok_J3_checkIndex_8e157 : COK Y_J3_checkIndex_8e157.2.1 Y_J3_checkIndex_8e157.code = true := by decide +kernel
theorem mok_J3_checkIndex_8e157 : MOK Y_J3_checkIndex_8e157 3 := ⟨mU_3 128 rfl rfl, mU_1 20 rfl rfl, by decide, by decide, by decide +kernel, by decide⟩
theorem sta_J3_checkIndex_8e157 : STAT Y_J3_checkIndex_8e157 := mU_3 127 rfl rfl
def k_J0_checkIndex_df160 : List CI := (0, .iload_n 0, 1) :: (1, .iload_n 1, 1) :: (2, .getstatic 1053, 3) :: (5, .invokestatic 1059, 3) :: (8, .pop, 1) :: (9, .return_, 1) :: []
def Y_J0_checkIndex_df160 : MD := (yJ0_checkIndex_df160, cJ0_checkIndex_df160, 2, none, k_J0_checkIndex_df160)
theorem cok_J0_checkIndex_df160 : COK Y_J0_checkIndex_df160.2.1 Y_J0_checkIndex_df160.code = true := by decide +kernel
theorem mok_J0_checkIndex_df160 : MOK Y_J0_checkIndex_df160 2 := ⟨mU_3 123 rfl rfl, mU_1 18 rfl rfl, by decide, by decide, by decide +kernel, by decide⟩
theorem sta_J0_checkIndex_df160 : STAT Y_J0_checkIndex_df160 := mU_3 122 rfl rfl
def k_J1_charAt_3b067 : List CI := (0, .iload_n 1, 1) :: (1, .aload_n 0, 1) :: (2, .arraylength, 1) :: (3, .invokestatic 9, 3) :: (6, .aload_n 0, 1) :: (7, .iload_n 1, 1) :: (8, .baload, 1) :: (9, .sipush 255, 3) :: (12, .iand, 1) :: (13, .i2c, 1) :: (14, .ireturn, 1) :: []
def Y_J1_charAt_3b067 : MD := (yJ1_charAt_3b067, cJ1_charAt_3b067, 2, (some .char), k_J1_charAt_3b067)
theorem cok_J1_charAt_3b067 : COK Y_J1_charAt_3b067.2.1 Y_J1_charAt_3b067.code = true := by decide +kernel
theorem mok_J1_charAt_3b067 : MOK Y_J1_charAt_3b067 2 := ⟨mU_3 120 rfl rfl, mU_1 19 rfl rfl, by decide, by decide, by decide +kernel, by decide⟩
theorem sta_J1_charAt_3b067 : STAT Y_J1_charAt_3b067 := mU_3 119 rfl rfl
def k_J0_charAt_5068e_16 : List CI := (16, .aload_n 0, 1) :: (17, .getfield 9, 3) :: (20, .iload_n 1, 1) :: (21, .invokestatic 498, 3) :: (24, .ireturn, 1) :: []
def k_J0_charAt_5068e : List CI := (0, .aload_n 0, 1) :: (1, .invokevirtual 492, 3) :: (4, .ifCond .eq 12, 3) :: (7, .aload_n 0, 1) :: (8, .getfield 9, 3) :: (11, .iload_n 1, 1) :: (12, .invokestatic 495, 3) :: (15, .ireturn, 1) :: k_J0_charAt_5068e_16
def Y_J0_charAt_5068e : MD := (yJ0_charAt_5068e, cJ0_charAt_5068e, 2, (some .char), k_J0_charAt_5068e)
theorem cok_J0_charAt_5068e : COK Y_J0_charAt_5068e.2.1 Y_J0_charAt_5068e.code = true := by decide +kernel
theorem mok_J0_charAt_5068e : MOK Y_J0_charAt_5068e 1 := ⟨mU_3 113 rfl rfl, mU_1 18 rfl rfl, by decide, by decide, by decide +kernel, by decide⟩
theorem ins_J0_charAt_5068e : INST Y_J0_charAt_5068e := ⟨mU_3 111 rfl rfl, mU_3 112 rfl rfl⟩
theorem lk_J0_335 : LNK RJ0 335 Y_J0_coder_7d493 := mU_3 104 rfl rfl
theorem lk_J0_492 : LNK RJ0 492 Y_J0_isLatin1_aae02 := mU_3 114 rfl rfl
theorem lk_J0_495 : LNK RJ0 495 Y_J1_charAt_3b067 := mU_3 118 rfl rfl
theorem lk_J0_1059 : LNK RJ0 1059 Y_J3_checkIndex_8e157 := mU_3 126 rfl rfl
theorem lk_J1_9 : LNK RJ1 9 Y_J0_checkIndex_df160 := mU_3 121 rfl rfl
theorem fw_com : Cond.fieldLink RJ0 38 "java/lang/String" "COMPACT_STRINGS" "Z" ∈ UW := mU_3 108 rfl rfl
theorem fw_cod : Cond.fieldLink RJ0 15 "java/lang/String" "coder" "B" ∈ UW := mU_9 104 rfl rfl
theorem fw_val : Cond.fieldLink RJ0 9 "java/lang/String" "value" "[B" ∈ UW := mU_9 103 rfl rfl
theorem fw_for : Cond.fieldLink RJ0 1053 "jdk/internal/util/Preconditions" "SIOOBE_FORMATTER" "Ljava/util/function/BiFunction;" ∈ UW := mU_3 124 rfl rfl
theorem pc_coder {l : Launch} (hl : l.stackTraces = false) {k : Nat} (hk : k < 11) {M : PM} : PC l 0 Y_J0_coder_7d493 [vR (100000 + k)] M (.inl (some (.int 0)), M) := by
  refine pc_of hl (by decide +kernel) cok_J0_coder_7d493 (Nat.le_of_ble_eq_true rfl) rfl ?_ rfl
  refine p_scom fw_com ?_
  refine p_if_eq (X := none) (Z := some (.inl (some (.int 0)), M)) (if_neg (by decide)) 5 rfl rfl (fun c => absurd c (by decide)) (fun _ _ => ?_)
  refine p_aload_n rfl ?_
  refine p_scod hk fw_cod ?_
  refine p_goto 6 rfl rfl ?_
  exact p_nret rfl rfl
theorem pc_isLatin1 {l : Launch} (hl : l.stackTraces = false) {k : Nat} (hk : k < 11) {M : PM} : PC l 0 Y_J0_isLatin1_aae02 [vR (100000 + k)] M (.inl (some (.int 1)), M) := by
  refine pc_of hl (by decide +kernel) cok_J0_isLatin1_aae02 (Nat.le_of_ble_eq_true rfl) rfl ?_ rfl
  refine p_scom fw_com ?_
  refine p_if_eq (X := none) (Z := some (.inl (some (.int 1)), M)) (if_neg (by decide)) 7 rfl rfl (fun c => absurd c (by decide)) (fun _ _ => ?_)
  refine p_aload_n rfl ?_
  refine p_scod hk fw_cod ?_
  refine p_if_ne (X := some (.inl (some (.int 1)), M)) (Z := none) (if_pos rfl) 7 rfl rfl (fun _ _ => ?_) (fun c => absurd rfl c)
  refine p_iconst (v := 1) (by decide) ?_
  refine p_goto 8 rfl rfl ?_
  exact p_nret rfl rfl
theorem pc_length {l : Launch} (hl : l.stackTraces = false) {k : Nat} (hk : k < 11) {M : PM} : PC l 1 Y_J0_length_8abf5 [vR (100000 + k)] M (.inl (some (.int (nI (sLen.getD k 0)))), M) := by
  refine pc_of hl (by decide +kernel) cok_J0_length_8abf5 (Nat.le_of_ble_eq_true rfl) rfl ?_ rfl
  refine p_aload_n rfl ?_
  refine p_sval hk fw_val ?_
  refine p_salen hk ?_
  refine p_aload_n rfl ?_
  refine PW.callS (as := []) mok_J0_coder_7d493 rfl rfl hk ins_J0_coder_7d493 lk_J0_335 (Nat.le_refl _) (Nat.le_of_ble_eq_true rfl) rfl (pc_coder hl hk) ?_
  refine p_ishr ?_
  refine p_iret rfl ?_
  rw [sb_shr0]
theorem pc_pre {l : Launch} (hl : l.stackTraces = false) {i n : Int32} (h0 : ¬ i < 0) (h1 : i < n) {v : PV} (hv : v = .inl .null ∨ v = vR 100100) {M : PM} : PC l 0 Y_J3_checkIndex_8e157 [vI i, vI n, v] M (.inl (some (.int i)), M) := by
  rcases hv with rfl | rfl
  all_goals
    refine pc_of hl (by decide +kernel) cok_J3_checkIndex_8e157 (Nat.le_of_ble_eq_true rfl) rfl ?_ rfl
    refine p_iload_n rfl ?_
    refine p_if_lt (X := none) (Z := some (.inl (some (.int i)), M)) (if_neg h0) 5 rfl rfl (fun c => absurd c h0) (fun _ _ => ?_)
    refine p_iload_n rfl ?_
    refine p_iload_n rfl ?_
    refine p_icmp_lt (X := some (.inl (some (.int i)), M)) (Z := none) (if_pos h1) 10 rfl rfl (fun _ _ => ?_) (fun c => absurd h1 c)
    refine p_iload_n rfl ?_
    exact p_iret rfl rfl
theorem pc_chk {l : Launch} (hl : l.stackTraces = false) {i n : Int32} (h0 : ¬ i < 0) (h1 : i < n) {M : PM} : PC l 1 Y_J0_checkIndex_df160 [vI i, vI n] M (.inl none, M) := by
  refine pc_of hl (by decide +kernel) cok_J0_checkIndex_df160 (Nat.le_of_ble_eq_true rfl) rfl ?_ rfl
  refine p_iload_n rfl ?_
  refine p_iload_n rfl ?_
  refine p_sfor fw_for ?_ ?_
  · refine PW.call (av := [vI i, vI n, .inl .null]) (st := []) ⟨mok_J3_checkIndex_8e157, Or.inr ⟨1059, rfl, rfl, sta_J3_checkIndex_8e157, Or.inl lk_J0_1059⟩⟩ (Nat.le_refl _) (Nat.le_of_ble_eq_true rfl) (pc_pre hl h0 h1 (Or.inl rfl)) (st1 := [vI i]) (fun ad => rfl) ?_
    refine p_pop rfl ?_
    exact p_ret rfl rfl
  · refine PW.call (av := [vI i, vI n, vR 100100]) (st := []) ⟨mok_J3_checkIndex_8e157, Or.inr ⟨1059, rfl, rfl, sta_J3_checkIndex_8e157, Or.inl lk_J0_1059⟩⟩ (Nat.le_refl _) (Nat.le_of_ble_eq_true rfl) (pc_pre hl h0 h1 (Or.inr rfl)) (st1 := [vI i]) (fun ad => rfl) ?_
    refine p_pop rfl ?_
    exact p_ret rfl rfl
theorem sch_ok : ∀ k, k < 11 → ∀ j, j < sLen.getD k 0 → ((((sByt.getD k []).getD j 0) &&& 255).toUInt32 % 65536).toInt32 = (sByt.getD k []).getD j 0 ∧ narrow .char (.int ((sByt.getD k []).getD j 0)) = .int ((sByt.getD k []).getD j 0) := by decide +kernel
theorem sln_ok : ∀ k, k < 11 → sLen.getD k 0 < 10 := by decide +kernel
theorem pc_chr1 {l : Launch} (hl : l.stackTraces = false) {k : Nat} {i : Int32} (hk : k < 11) (hi : ixOK i (sLen.getD k 0) = true) {M : PM} : PC l 2 Y_J1_charAt_3b067 [vG (100000 + k) 0, vI i] M (.inl (some (.int ((sByt.getD k []).getD i.toNatClampNeg 0))), M) := by
  have hin := ixOK_in hi
  have hlt : i.toNatClampNeg < sLen.getD k 0 := Nat.not_le.mp fun q => hin (Or.inr q)
  have h0 : ¬ i < 0 := fun q => hin (Or.inl q)
  have hs := sln_ok k hk
  obtain ⟨j, hj, ej⟩ := vp_in_of hin (by omega)
  have h1 : i < nI (sLen.getD k 0) := by rw [ej]; exact nI_lt hj (by omega)
  refine pc_of hl (by decide +kernel) cok_J1_charAt_3b067 (Nat.le_of_ble_eq_true rfl) rfl ?_ rfl
  refine p_iload_n rfl ?_
  refine p_aload_nG rfl ?_
  refine p_salen hk ?_
  refine PW.call (av := [vI i, vI (nI (sLen.getD k 0))]) (st := []) ⟨mok_J0_checkIndex_df160, Or.inr ⟨9, rfl, rfl, sta_J0_checkIndex_df160, Or.inl lk_J1_9⟩⟩ (Nat.le_refl _) (Nat.le_of_ble_eq_true rfl) (pc_chk hl h0 h1) (st1 := []) (fun ad => rfl) ?_
  refine p_aload_nG rfl ?_
  refine p_iload_n rfl ?_
  refine p_sbald hk hi ?_
  refine p_sipush (v := 255) (by decide) ?_
  refine p_iand ?_
  refine p_i2c ?_
  rw [(sch_ok k hk _ hlt).1]
  exact p_nret rfl (sch_ok k hk _ hlt).2
theorem pc_chr {l : Launch} (hl : l.stackTraces = false) {k : Nat} {i : Int32} (hk : k < 11) (hi : ixOK i (sLen.getD k 0) = true) {M : PM} : PC l 3 Y_J0_charAt_5068e [vR (100000 + k), vI i] M (.inl (some (.int ((sByt.getD k []).getD i.toNatClampNeg 0))), M) := by
  have hin := ixOK_in hi
  have hlt : i.toNatClampNeg < sLen.getD k 0 := Nat.not_le.mp fun q => hin (Or.inr q)
  refine pc_of hl (by decide +kernel) cok_J0_charAt_5068e (Nat.le_of_ble_eq_true rfl) rfl ?_ rfl
  refine p_aload_n rfl ?_
  refine PW.callS (as := []) mok_J0_isLatin1_aae02 rfl rfl hk ins_J0_isLatin1_aae02 lk_J0_492 (d2 := 0) (Nat.le_of_ble_eq_true rfl) (Nat.le_of_ble_eq_true rfl) rfl (pc_isLatin1 hl hk) ?_
  refine p_if_eq (X := none) (Z := some (.inl (some (.int ((sByt.getD k []).getD i.toNatClampNeg 0))), M)) (if_neg (by decide)) 8 rfl rfl (fun c => absurd c (by decide)) (fun _ _ => ?_)
  refine p_aload_n rfl ?_
  refine p_sval hk fw_val ?_
  refine p_iload_n rfl ?_
  refine PW.call (av := [vG (100000 + k) 0, vI i]) (st := []) ⟨mok_J1_charAt_3b067, Or.inr ⟨495, rfl, rfl, sta_J1_charAt_3b067, Or.inl lk_J0_495⟩⟩ (Nat.le_refl _) (Nat.le_of_ble_eq_true rfl) (pc_chr1 hl hk hi) (st1 := [vI ((sByt.getD k []).getD i.toNatClampNeg 0)]) (fun ad => rfl) ?_
  exact p_nret rfl (sch_ok k hk _ hlt).2
def SLEN (own : String) (ix : Nat) : Prop := LNK own ix Y_J0_length_8abf5
def SCHR (own : String) (ix : Nat) : Prop := LNK own ix Y_J0_charAt_5068e
theorem p_slen {l : Launch} (hl : l.stackTraces = false) {d : Nat} {Y : MD} {pc : Nat} {is : List CI} {ls st : List PV} {M : PM} {r : PR} {ix k : Nat} {X : Option PR} (F : SLEN Y.1.cls ix) (hd : 7 ≤ d) (hst : catS st ≤ 8) (h : (if k < 11 then X else none) = some r) (kk : X = some r → PW l d Y is ls (vI (nI (sLen.getD k 0)) :: st) M r) : PW l d Y ((pc, .invokevirtual ix, 3) :: is) ls (vR (100000 + k) :: st) M r := by
  by_cases hk : k < 11
  · rw [if_pos hk] at h
    exact PW.callS (as := []) (d2 := 1) mok_J0_length_8abf5 rfl rfl hk ins_J0_length_8abf5 F (by omega) hst rfl (pc_length hl hk) (kk h)
  · rw [if_neg hk] at h; cases h
theorem p_schr {l : Launch} (hl : l.stackTraces = false) {d : Nat} {Y : MD} {pc : Nat} {is : List CI} {ls st : List PV} {M : PM} {r : PR} {ix k : Nat} {i : Int32} {X : Option PR} (F : SCHR Y.1.cls ix) (hd : 7 ≤ d) (hst : catS st ≤ 8) (h : (if k < 11 ∧ ixOK i (sLen.getD k 0) = true then X else none) = some r) (kk : X = some r → PW l d Y is ls (vI ((sByt.getD k []).getD i.toNatClampNeg 0) :: st) M r) : PW l d Y ((pc, .invokevirtual ix, 3) :: is) ls (vI i :: vR (100000 + k) :: st) M r := by
  by_cases hk : k < 11 ∧ ixOK i (sLen.getD k 0) = true
  · rw [if_pos hk] at h
    exact PW.callS (as := [vI i]) (d2 := 3) mok_J0_charAt_5068e rfl rfl hk.1 ins_J0_charAt_5068e F (by omega) hst rfl (pc_chr hl hk.1 hk.2) (kk h)
  · rw [if_neg hk] at h; cases h
theorem ls_X4_51 : SLEN RX4 51 := mU_3 100 rfl rfl
theorem ls_X4_56 : SCHR RX4 56 := mU_3 110 rfl rfl
