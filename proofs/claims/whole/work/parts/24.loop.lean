/-- one turn of the law's loop: none where the two answers differ -/
def F_step (xs : Nat → Int32) (i : Int32) (M : PM) : Option PM := if xs i.toNatClampNeg &&& 63 = 0 then c_0 M (xs (i + 1).toNatClampNeg) (xs (i + 2).toNatClampNeg) (xs (i + 3).toNatClampNeg) (xs (i + 4).toNatClampNeg) (xs (i + 5).toNatClampNeg) else if xs i.toNatClampNeg &&& 63 = 1 then c_1 M (xs (i + 1).toNatClampNeg) else if xs i.toNatClampNeg &&& 63 = 2 then c_2 M (xs (i + 1).toNatClampNeg) else if xs i.toNatClampNeg &&& 63 = 3 then c_3 M  else if xs i.toNatClampNeg &&& 63 = 4 then c_4 M (xs (i + 1).toNatClampNeg) else if xs i.toNatClampNeg &&& 63 = 5 then c_5 M (xs (i + 1).toNatClampNeg) (xs (i + 2).toNatClampNeg) else if xs i.toNatClampNeg &&& 63 = 6 then c_6 M (xs (i + 1).toNatClampNeg) (xs (i + 2).toNatClampNeg) else if xs i.toNatClampNeg &&& 63 = 7 then c_7 M (xs (i + 1).toNatClampNeg) (xs (i + 2).toNatClampNeg) (xs (i + 3).toNatClampNeg) else if xs i.toNatClampNeg &&& 63 = 8 then c_8 M (xs (i + 1).toNatClampNeg) else if xs i.toNatClampNeg &&& 63 = 9 then c_9 M (xs (i + 1).toNatClampNeg) else if xs i.toNatClampNeg &&& 63 = 10 then c_10 M (xs (i + 1).toNatClampNeg) (xs (i + 2).toNatClampNeg) else if xs i.toNatClampNeg &&& 63 = 11 then c_11 M (xs (i + 1).toNatClampNeg) else if xs i.toNatClampNeg &&& 63 = 12 then c_12 M (xs (i + 1).toNatClampNeg) else if xs i.toNatClampNeg &&& 63 = 13 then c_13 M (xs (i + 1).toNatClampNeg) else if xs i.toNatClampNeg &&& 63 = 14 then c_14 M (xs (i + 1).toNatClampNeg) else if xs i.toNatClampNeg &&& 63 = 15 then c_15 M (xs (i + 1).toNatClampNeg) else if xs i.toNatClampNeg &&& 63 = 16 then c_16 M (xs (i + 1).toNatClampNeg) else if xs i.toNatClampNeg &&& 63 = 17 then c_17 M (xs (i + 1).toNatClampNeg) else if xs i.toNatClampNeg &&& 63 = 18 then c_18 M (xs (i + 1).toNatClampNeg) (xs (i + 2).toNatClampNeg) else if xs i.toNatClampNeg &&& 63 = 19 then c_19 M (xs (i + 1).toNatClampNeg) (xs (i + 2).toNatClampNeg) (xs (i + 3).toNatClampNeg) else if xs i.toNatClampNeg &&& 63 = 20 then c_20 M (xs (i + 1).toNatClampNeg) else if xs i.toNatClampNeg &&& 63 = 21 then c_21 M (xs (i + 1).toNatClampNeg) (xs (i + 2).toNatClampNeg) (xs (i + 3).toNatClampNeg) else if xs i.toNatClampNeg &&& 63 = 22 then c_22 M (xs (i + 1).toNatClampNeg) (xs (i + 2).toNatClampNeg) (xs (i + 3).toNatClampNeg) else if xs i.toNatClampNeg &&& 63 = 23 then c_23 M (xs (i + 1).toNatClampNeg) else if xs i.toNatClampNeg &&& 63 = 24 then c_24 M (xs (i + 1).toNatClampNeg) else if xs i.toNatClampNeg &&& 63 = 25 then c_25 M (xs (i + 1).toNatClampNeg) (xs (i + 2).toNatClampNeg) (xs (i + 3).toNatClampNeg) (xs (i + 4).toNatClampNeg) else if xs i.toNatClampNeg &&& 63 = 26 then c_26 M (xs (i + 1).toNatClampNeg) (xs (i + 2).toNatClampNeg) else if xs i.toNatClampNeg &&& 63 = 27 then c_27 M  else if xs i.toNatClampNeg &&& 63 = 28 then c_28 M (xs (i + 1).toNatClampNeg) else if xs i.toNatClampNeg &&& 63 = 29 then c_29 M (xs (i + 1).toNatClampNeg) (xs (i + 2).toNatClampNeg) else if xs i.toNatClampNeg &&& 63 = 30 then c_30 M (xs (i + 1).toNatClampNeg) (xs (i + 2).toNatClampNeg) else if xs i.toNatClampNeg &&& 63 = 31 then c_31 M (xs (i + 1).toNatClampNeg) (xs (i + 2).toNatClampNeg) else if xs i.toNatClampNeg &&& 63 = 32 then c_32 M (xs (i + 1).toNatClampNeg) (xs (i + 2).toNatClampNeg) else if xs i.toNatClampNeg &&& 63 = 33 then c_33 M  else if xs i.toNatClampNeg &&& 63 = 34 then c_34 M (xs (i + 1).toNatClampNeg) (xs (i + 2).toNatClampNeg) else if xs i.toNatClampNeg &&& 63 = 35 then c_35 M (xs (i + 1).toNatClampNeg) (xs (i + 2).toNatClampNeg) else if xs i.toNatClampNeg &&& 63 = 36 then c_36 M (xs (i + 1).toNatClampNeg) (xs (i + 2).toNatClampNeg) else if xs i.toNatClampNeg &&& 63 = 37 then c_37 M (xs (i + 1).toNatClampNeg) (xs (i + 2).toNatClampNeg) (xs (i + 3).toNatClampNeg) else if xs i.toNatClampNeg &&& 63 = 38 then c_38 M  else if xs i.toNatClampNeg &&& 63 = 39 then c_39 M  else if xs i.toNatClampNeg &&& 63 = 40 then c_40 M (xs (i + 1).toNatClampNeg) else if xs i.toNatClampNeg &&& 63 = 41 then c_41 M (xs (i + 1).toNatClampNeg) else some M
set_option maxRecDepth 100000 in
theorem step_pg {l : Launch} (hl : l.stackTraces = false) {X : GX} {cs : Nat × Nat} {L : Nat} {xs : Nat → Int32} {i : Int32} {M M' : PM} (hX : GOK Y_L_law_ X) (hs : SCR X L xs) (hc : cs.1 + 1 ≤ 601024 ∧ cs.2 + 6 ≤ 7293034) (hi0 : vp_in (i) L) (hi1 : vp_in (i + 1) L) (hi2 : vp_in (i + 2) L) (hi3 : vp_in (i + 3) L) (hi4 : vp_in (i + 4) L) (hi5 : vp_in (i + 5) L) (h : F_step xs i M = some M') (kk : PG l room_1 Y_L_law_ X (cs.1 + 1, cs.2 + 6) k_L_law__2674 [vR 99999, vR 0, vR 99, vR 129, vI i, jk, jk, jk] [] M') : PG l room_1 Y_L_law_ X cs (Y_L_law_.code.drop 19) [vR 99999, vR 0, vR 99, vR 129, vI i, jk, jk, jk] [] M := by
  unfold F_step at h
  refine g_aload_n hX rfl ?_
  refine g_iload hX rfl ?_
  refine g_sld hX hs hi0 ?_
  refine g_bipush hX (v := 63) rfl ?_
  refine g_iand hX ?_
  generalize xs i.toNatClampNeg &&& 63 = op at h ⊢
  by_cases e0 : op = 0
  · rw [if_pos e0] at h; exact g_tsIn hX e0 (by decide) (by decide) rfl 25 rfl rfl (case_0 hl hX hs hc hi1 hi2 hi3 hi4 hi5 h kk)
  rw [if_neg e0] at h
  by_cases e1 : op = 1
  · rw [if_pos e1] at h; exact g_tsIn hX e1 (by decide) (by decide) rfl 82 rfl rfl (case_1 hl hX hs hc hi1 h kk)
  rw [if_neg e1] at h
  by_cases e2 : op = 2
  · rw [if_pos e2] at h; exact g_tsIn hX e2 (by decide) (by decide) rfl 117 rfl rfl (case_2 hl hX hs hc hi1 h kk)
  rw [if_neg e2] at h
  by_cases e3 : op = 3
  · rw [if_pos e3] at h; exact g_tsIn hX e3 (by decide) (by decide) rfl 152 rfl rfl (case_3 hl hX hs hc  h kk)
  rw [if_neg e3] at h
  by_cases e4 : op = 4
  · rw [if_pos e4] at h; exact g_tsIn hX e4 (by decide) (by decide) rfl 159 rfl rfl (case_4 hl hX hs hc hi1 h kk)
  rw [if_neg e4] at h
  by_cases e5 : op = 5
  · rw [if_pos e5] at h; exact g_tsIn hX e5 (by decide) (by decide) rfl 194 rfl rfl (case_5 hl hX hs hc hi1 hi2 h kk)
  rw [if_neg e5] at h
  by_cases e6 : op = 6
  · rw [if_pos e6] at h; exact g_tsIn hX e6 (by decide) (by decide) rfl 239 rfl rfl (case_6 hl hX hs hc hi1 hi2 h kk)
  rw [if_neg e6] at h
  by_cases e7 : op = 7
  · rw [if_pos e7] at h; exact g_tsIn hX e7 (by decide) (by decide) rfl 284 rfl rfl (case_7 hl hX hs hc hi1 hi2 hi3 h kk)
  rw [if_neg e7] at h
  by_cases e8 : op = 8
  · rw [if_pos e8] at h; exact g_tsIn hX e8 (by decide) (by decide) rfl 339 rfl rfl (case_8 hl hX hs hc hi1 h kk)
  rw [if_neg e8] at h
  by_cases e9 : op = 9
  · rw [if_pos e9] at h; exact g_tsIn hX e9 (by decide) (by decide) rfl 374 rfl rfl (case_9 hl hX hs hc hi1 h kk)
  rw [if_neg e9] at h
  by_cases e10 : op = 10
  · rw [if_pos e10] at h; exact g_tsIn hX e10 (by decide) (by decide) rfl 409 rfl rfl (case_10 hl hX hs hc hi1 hi2 h kk)
  rw [if_neg e10] at h
  by_cases e11 : op = 11
  · rw [if_pos e11] at h; exact g_tsIn hX e11 (by decide) (by decide) rfl 454 rfl rfl (case_11 hl hX hs hc hi1 h kk)
  rw [if_neg e11] at h
  by_cases e12 : op = 12
  · rw [if_pos e12] at h; exact g_tsIn hX e12 (by decide) (by decide) rfl 489 rfl rfl (case_12 hl hX hs hc hi1 h kk)
  rw [if_neg e12] at h
  by_cases e13 : op = 13
  · rw [if_pos e13] at h; exact g_tsIn hX e13 (by decide) (by decide) rfl 527 rfl rfl (case_13 hl hX hs hc hi1 h kk)
  rw [if_neg e13] at h
  by_cases e14 : op = 14
  · rw [if_pos e14] at h; exact g_tsIn hX e14 (by decide) (by decide) rfl 562 rfl rfl (case_14 hl hX hs hc hi1 h kk)
  rw [if_neg e14] at h
  by_cases e15 : op = 15
  · rw [if_pos e15] at h; exact g_tsIn hX e15 (by decide) (by decide) rfl 597 rfl rfl (case_15 hl hX hs hc hi1 h kk)
  rw [if_neg e15] at h
  by_cases e16 : op = 16
  · rw [if_pos e16] at h; exact g_tsIn hX e16 (by decide) (by decide) rfl 632 rfl rfl (case_16 hl hX hs hc hi1 h kk)
  rw [if_neg e16] at h
  by_cases e17 : op = 17
  · rw [if_pos e17] at h; exact g_tsIn hX e17 (by decide) (by decide) rfl 667 rfl rfl (case_17 hl hX hs hc hi1 h kk)
  rw [if_neg e17] at h
  by_cases e18 : op = 18
  · rw [if_pos e18] at h; exact g_tsIn hX e18 (by decide) (by decide) rfl 702 rfl rfl (case_18 hl hX hs hc hi1 hi2 h kk)
  rw [if_neg e18] at h
  by_cases e19 : op = 19
  · rw [if_pos e19] at h; exact g_tsIn hX e19 (by decide) (by decide) rfl 747 rfl rfl (case_19 hl hX hs hc hi1 hi2 hi3 h kk)
  rw [if_neg e19] at h
  by_cases e20 : op = 20
  · rw [if_pos e20] at h; exact g_tsIn hX e20 (by decide) (by decide) rfl 802 rfl rfl (case_20 hl hX hs hc hi1 h kk)
  rw [if_neg e20] at h
  by_cases e21 : op = 21
  · rw [if_pos e21] at h; exact g_tsIn hX e21 (by decide) (by decide) rfl 837 rfl rfl (case_21 hl hX hs hc hi1 hi2 hi3 h kk)
  rw [if_neg e21] at h
  by_cases e22 : op = 22
  · rw [if_pos e22] at h; exact g_tsIn hX e22 (by decide) (by decide) rfl 905 rfl rfl (case_22 hl hX hs hc hi1 hi2 hi3 h kk)
  rw [if_neg e22] at h
  by_cases e23 : op = 23
  · rw [if_pos e23] at h; exact g_tsIn hX e23 (by decide) (by decide) rfl 968 rfl rfl (case_23 hl hX hs hc hi1 h kk)
  rw [if_neg e23] at h
  by_cases e24 : op = 24
  · rw [if_pos e24] at h; exact g_tsIn hX e24 (by decide) (by decide) rfl 1003 rfl rfl (case_24 hl hX hs hc hi1 h kk)
  rw [if_neg e24] at h
  by_cases e25 : op = 25
  · rw [if_pos e25] at h; exact g_tsIn hX e25 (by decide) (by decide) rfl 1038 rfl rfl (case_25 hl hX hs hc hi1 hi2 hi3 hi4 h kk)
  rw [if_neg e25] at h
  by_cases e26 : op = 26
  · rw [if_pos e26] at h; exact g_tsIn hX e26 (by decide) (by decide) rfl 1111 rfl rfl (case_26 hl hX hs hc hi1 hi2 h kk)
  rw [if_neg e26] at h
  by_cases e27 : op = 27
  · rw [if_pos e27] at h; exact g_tsIn hX e27 (by decide) (by decide) rfl 1156 rfl rfl (case_27 hl hX hs hc  h kk)
  rw [if_neg e27] at h
  by_cases e28 : op = 28
  · rw [if_pos e28] at h; exact g_tsIn hX e28 (by decide) (by decide) rfl 1163 rfl rfl (case_28 hl hX hs hc hi1 h kk)
  rw [if_neg e28] at h
  by_cases e29 : op = 29
  · rw [if_pos e29] at h; exact g_tsIn hX e29 (by decide) (by decide) rfl 1198 rfl rfl (case_29 hl hX hs hc hi1 hi2 h kk)
  rw [if_neg e29] at h
  by_cases e30 : op = 30
  · rw [if_pos e30] at h; exact g_tsIn hX e30 (by decide) (by decide) rfl 1243 rfl rfl (case_30 hl hX hs hc hi1 hi2 h kk)
  rw [if_neg e30] at h
  by_cases e31 : op = 31
  · rw [if_pos e31] at h; exact g_tsIn hX e31 (by decide) (by decide) rfl 1288 rfl rfl (case_31 hl hX hs hc hi1 hi2 h kk)
  rw [if_neg e31] at h
  by_cases e32 : op = 32
  · rw [if_pos e32] at h; exact g_tsIn hX e32 (by decide) (by decide) rfl 1333 rfl rfl (case_32 hl hX hs hc hi1 hi2 h kk)
  rw [if_neg e32] at h
  by_cases e33 : op = 33
  · rw [if_pos e33] at h; exact g_tsIn hX e33 (by decide) (by decide) rfl 1378 rfl rfl (case_33 hl hX hs hc  h kk)
  rw [if_neg e33] at h
  by_cases e34 : op = 34
  · rw [if_pos e34] at h; exact g_tsIn hX e34 (by decide) (by decide) rfl 1385 rfl rfl (case_34 hl hX hs hc hi1 hi2 h kk)
  rw [if_neg e34] at h
  by_cases e35 : op = 35
  · rw [if_pos e35] at h; exact g_tsIn hX e35 (by decide) (by decide) rfl 1430 rfl rfl (case_35 hl hX hs hc hi1 hi2 h kk)
  rw [if_neg e35] at h
  by_cases e36 : op = 36
  · rw [if_pos e36] at h; exact g_tsIn hX e36 (by decide) (by decide) rfl 1475 rfl rfl (case_36 hl hX hs hc hi1 hi2 h kk)
  rw [if_neg e36] at h
  by_cases e37 : op = 37
  · rw [if_pos e37] at h; exact g_tsIn hX e37 (by decide) (by decide) rfl 1520 rfl rfl (case_37 hl hX hs hc hi1 hi2 hi3 h kk)
  rw [if_neg e37] at h
  by_cases e38 : op = 38
  · rw [if_pos e38] at h; exact g_tsIn hX e38 (by decide) (by decide) rfl 1575 rfl rfl (case_38 hl hX hs hc  h kk)
  rw [if_neg e38] at h
  by_cases e39 : op = 39
  · rw [if_pos e39] at h; exact g_tsIn hX e39 (by decide) (by decide) rfl 1582 rfl rfl (case_39 hl hX hs hc  h kk)
  rw [if_neg e39] at h
  by_cases e40 : op = 40
  · rw [if_pos e40] at h; exact g_tsIn hX e40 (by decide) (by decide) rfl 1589 rfl rfl (case_40 hl hX hs hc hi1 h kk)
  rw [if_neg e40] at h
  by_cases e41 : op = 41
  · rw [if_pos e41] at h; exact g_tsIn hX e41 (by decide) (by decide) rfl 1606 rfl rfl (case_41 hl hX hs hc hi1 h kk)
  rw [if_neg e41] at h
  cases h
  refine g_tsOut hX ?_ 1623 rfl rfl (g_widen (cs' := (cs.1 + 1, cs.2 + 6)) (by show cs.1 ≤ cs.1 + 1; omega) (by show cs.2 ≤ cs.2 + 6; omega) kk)
  have h9 := sw_out 42 (x := op) (by decide) (fun k hk => by
    match k, hk with
    | 0, _ => exact e0
    | 1, _ => exact e1
    | 2, _ => exact e2
    | 3, _ => exact e3
    | 4, _ => exact e4
    | 5, _ => exact e5
    | 6, _ => exact e6
    | 7, _ => exact e7
    | 8, _ => exact e8
    | 9, _ => exact e9
    | 10, _ => exact e10
    | 11, _ => exact e11
    | 12, _ => exact e12
    | 13, _ => exact e13
    | 14, _ => exact e14
    | 15, _ => exact e15
    | 16, _ => exact e16
    | 17, _ => exact e17
    | 18, _ => exact e18
    | 19, _ => exact e19
    | 20, _ => exact e20
    | 21, _ => exact e21
    | 22, _ => exact e22
    | 23, _ => exact e23
    | 24, _ => exact e24
    | 25, _ => exact e25
    | 26, _ => exact e26
    | 27, _ => exact e27
    | 28, _ => exact e28
    | 29, _ => exact e29
    | 30, _ => exact e30
    | 31, _ => exact e31
    | 32, _ => exact e32
    | 33, _ => exact e33
    | 34, _ => exact e34
    | 35, _ => exact e35
    | 36, _ => exact e36
    | 37, _ => exact e37
    | 38, _ => exact e38
    | 39, _ => exact e39
    | 40, _ => exact e40
    | 41, _ => exact e41
    | k + 42, hk => exact absurd hk (by omega))
  omega
/-- what the law's end needs -/
def LWX : GX → Prop
  | (_, _, s, _, args, below, meth, _, Q, sz, _, _, _) => (∃ b, args = #[Value.ref b]) ∧ Q = lw_Z below args s ∧ meth.sig.returnType = ret ∧ meth.locks = false ∧ sz = s.heap.size
set_option maxRecDepth 100000 in
theorem g_lret {l : Launch} {X : GX} {cs : Nat × Nat} {pc : Nat} {is : List CI} {ls : List PV} {M : PM} (hX : GOK Y_L_law_ X) (hW : LWX X) (hc : cs.1 ≤ 601024 ∧ cs.2 ≤ 7293034) : PG l room_1 Y_L_law_ X cs ((pc, .ireturn, 1) :: is) ls [vI 1] M := by
  obtain ⟨p, e, s, m, args, below, meth, c, Q, sz, D, cy, ad⟩ := X
  obtain ⟨x1, x2, x3, x4, x5, x6, x7⟩ := hX
  obtain ⟨⟨b, rfl⟩, rfl, w3, w4, rfl⟩ := hW
  refine ⟨by simp, fun H locs rl hs hH hS hl => ?_⟩
  exact va_forget hS.2.2 (W.widen hc.1 hc.2 (lw_ret x1 x2 w3 w4 (COK.here (suf_cok hs x6))))
theorem i32_add (a b : Nat) : Int32.ofNat a + Int32.ofNat b = Int32.ofNat (a + b) := (Int32.ofNat_add a b).symm
theorem i32_toInt {a : Nat} (h : a < 2147483648) : (Int32.ofNat a).toInt = a := Int32.toInt_ofNat_of_lt h
theorem i32_clamp {a : Nat} (h : a < 2147483648) : (Int32.ofNat a).toNatClampNeg = a := by
  show (Int32.ofNat a).toInt.toNat = a
  rw [i32_toInt h]
  rfl
theorem i32_in {a L : Nat} (h : a < L) (hL : L ≤ 3072) : vp_in (Int32.ofNat a) L := fun e => by
  rcases e with e | e
  · have := Int32.lt_iff_toInt_lt.mp e
    rw [i32_toInt (by omega)] at this
    have h0 : (0 : Int32).toInt = 0 := by decide
    omega
  · rw [i32_clamp (by omega)] at e
    omega
theorem loop_cmp {j L : Nat} (hL : L ≤ 3072) (h2 : 6 * j ≤ L) : Int32.ofNat L - 6 < Int32.ofNat (6 * j) ↔ L < 6 * j + 6 := by
  rw [Int32.lt_iff_toInt_lt, i32_toInt (show 6 * j < 2147483648 by omega), Int32.toInt_sub, i32_toInt (show L < 2147483648 by omega), show (6 : Int32).toInt = 6 from by decide, Int.bmod_eq_of_le (by omega) (by omega)]
  omega
set_option maxRecDepth 100000 in
theorem law_loop {l : Launch} (hl : l.stackTraces = false) {X : GX} {L : Nat} {xs : Nat → Int32} (hX : GOK Y_L_law_ X) (hs : SCR X L xs) (hW : LWX X) (hL : L ≤ 3072) (Inv : PM → Prop) (hstep : ∀ (i : Int32) (M : PM), Inv M → ∃ M', F_step xs i M = some M' ∧ Inv M') :
    ∀ (n j : Nat) (M : PM), L < 6 * j + 6 * n + 6 → 6 * j ≤ L → Inv M → PG l room_1 Y_L_law_ X (600000 + j, 7000000 + 6 * j) k_L_law__23 [vR 99999, vR 0, vR 99, vR 129, vI (Int32.ofNat (6 * j)), jk, jk, jk] [] M := by
  intro n
  induction n with
  | zero =>
    intro j M h1 h2 hI
    refine g_iload hX rfl ?_
    refine g_aload_n hX rfl ?_
    refine g_slen hX hs ?_
    refine g_bipush hX (v := 6) rfl ?_
    refine g_isub hX ?_
    refine g_icmp_gtT hX 1625 rfl rfl ?_ ?_
    · exact (loop_cmp hL h2).mpr (by omega)
    · refine g_iconst hX (v := 1) rfl ?_
      exact g_lret hX hW ⟨by show 600000 + j ≤ _; omega, by show 7000000 + 6 * j ≤ _; omega⟩
  | succ n ih =>
    intro j M h1 h2 hI
    refine g_iload hX rfl ?_
    refine g_aload_n hX rfl ?_
    refine g_slen hX hs ?_
    refine g_bipush hX (v := 6) rfl ?_
    refine g_isub hX ?_
    by_cases hend : L < 6 * j + 6
    · refine g_icmp_gtT hX 1625 rfl rfl ?_ ?_
      · exact (loop_cmp hL h2).mpr hend
      · refine g_iconst hX (v := 1) rfl ?_
        exact g_lret hX hW ⟨by show 600000 + j ≤ _; omega, by show 7000000 + 6 * j ≤ _; omega⟩
    · refine g_icmp_gtF (tg := 2680) hX rfl (fun h => hend ((loop_cmp hL h2).mp h)) ?_
      obtain ⟨M', hM, hI'⟩ := hstep (Int32.ofNat (6 * j)) M hI
      refine step_pg hl hX hs ⟨by show 600000 + j + 1 ≤ _; omega, by show 7000000 + 6 * j + 6 ≤ _; omega⟩ (i32_in (by omega) hL) (by rw [show (1 : Int32) = Int32.ofNat 1 from rfl, i32_add]; exact i32_in (by omega) hL) (by rw [show (2 : Int32) = Int32.ofNat 2 from rfl, i32_add]; exact i32_in (by omega) hL) (by rw [show (3 : Int32) = Int32.ofNat 3 from rfl, i32_add]; exact i32_in (by omega) hL) (by rw [show (4 : Int32) = Int32.ofNat 4 from rfl, i32_add]; exact i32_in (by omega) hL) (by rw [show (5 : Int32) = Int32.ofNat 5 from rfl, i32_add]; exact i32_in (by omega) hL) hM ?_
      refine g_iinc hX (Nat.le_of_ble_eq_true rfl) rfl (v := Int32.ofNat (6 * (j + 1))) (by rw [show Int32.ofInt 6 = Int32.ofNat 6 from rfl, i32_add, Nat.mul_add]) rfl ?_
      refine g_goto hX 13 rfl rfl ?_
      exact ih (j + 1) M' (by omega) (by omega) hI'

