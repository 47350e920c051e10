theorem kn_start {s : State} {b : Nat} (hts : ∀ w ∈ lw_tbl, w.before #[Value.ref b] s = true) (hN : ∀ w ∈ flN, w.before #[Value.ref b] s = true) : ∃ (D : va_G) (cy : Nat → ClassId) (ad : Nat → Nat → Nat), KN s.heap.size D cy ad s ∧ ad 99999 0 = b := by
  have hU : ∀ w ∈ UW, w.before #[Value.ref b] s = true := fun w hw => hts w (List.mem_filter.mp hw).1
  obtain ⟨d0, i0, k0⟩ := u_known (C := RX0) hU cls_0.2.2.1 (hU _ (mU_1 70 rfl rfl))
  obtain ⟨d1, i1, k1⟩ := u_known (C := RX1) hU cls_1.2.2.1 (hU _ (mU_1 221 rfl rfl))
  obtain ⟨d2, i2, k2⟩ := u_known (C := RX2) hU cls_2.2.2.1 (hU _ (mU_1 76 rfl rfl))
  obtain ⟨d3, i3, k3⟩ := u_known (C := RX3) hU cls_3.2.2.1 (hU _ (mU_1 160 rfl rfl))
  obtain ⟨d4, i4, k4⟩ := u_known (C := RX4) hU cls_4.2.2.1 (hU _ (mU_1 36 rfl rfl))
  obtain ⟨d5, i5, k5⟩ := u_known (C := RX5) hU cls_5.2.2.1 (hU _ (mU_2 86 rfl rfl))
  obtain ⟨d6, i6, k6⟩ := u_known (C := RX6) hU cls_6.2.2.1 (hU _ (mU_2 114 rfl rfl))
  obtain ⟨d7, i7, k7⟩ := u_known (C := RX7) hU cls_7.2.2.1 (hU _ (mU_2 13 rfl rfl))
  obtain ⟨d8, i8, k8⟩ := u_known (C := RX8) hU cls_8.2.2.1 (hU _ (mU_2 51 rfl rfl))
  obtain ⟨d9, i9, k9⟩ := u_known (C := RX9) hU cls_9.2.2.1 (hU _ (mU_2 64 rfl rfl))
  obtain ⟨d10, i10, k10⟩ := u_known (C := RX10) hU cls_10.2.2.1 (hU _ (mU_1 28 rfl rfl))
  obtain ⟨d11, i11, k11⟩ := u_known (C := RX11) hU cls_11.2.2.1 (hU _ (mU_7 10 rfl rfl))
  obtain ⟨y0, q0, p0, g0, r0, t0⟩ := Cond.arrayClass_spec (hts (.arrayClass .int) (mT_1 (List.mem_of_getElem? (i := 68) rfl)))
  obtain ⟨y1, q1, p1, g1, r1, t1⟩ := Cond.arrayClass_spec (hts (.arrayClass .long) (mT_1 (List.mem_of_getElem? (i := 116) rfl)))
  obtain ⟨y2, q2, p2, g2, r2, t2⟩ := Cond.arrayClass_spec (hts (.arrayClass .boolean) (mT_1 (List.mem_of_getElem? (i := 219) rfl)))
  have hAO : va_AO "WeekWheels$State" s := va_AO.of (hts _ (mT_2 (List.mem_of_getElem? (i := 11) rfl)))
  obtain ⟨p3, y3, q3, e31, e32, e33, e34, e35⟩ := Cond.arrayOver_spec hAO
  have hAA : va_AOA .int s := show (Cond.arrayOver (.array .int)).before #[Value.ref b] s = true from hts _ (mT_7 (List.mem_of_getElem? (i := 16) rfl))
  obtain ⟨p4, y4, q4, e41, e42, e43, e44⟩ := va_AOA.spec hAA
  have hA : ∀ a : Nat, a < s.heap.size → ¬ s.heap.size ≤ a := fun a h => Nat.not_le.mpr h
  obtain ⟨adK, adV, hS, hE⟩ := vk_Sof (args := #[Value.ref b]) (s := s) (N := 11) (tm := tmS) (len := sLen) (byt := sByt) (A := fun q => s.heap.size ≤ q) (by
    intro i hi
    match i, hi with
    | 0, _ | 1, _ | 2, _ | 3, _ | 4, _ | 5, _ | 6, _ | 7, _ | 8, _ | 9, _ | 10, _ => decide
    | k + 11, hi => exact absurd hi (by omega)) (es_ex hN) (es_co hN) (es_ar hN) (es_le hN) (es_el hN) (es_ne hN) hA
  obtain ⟨t11, -, -, -, u11, -⟩ := Cond.exactly_spec (en_ex_11 hN)
  obtain ⟨t12, -, -, -, u12, -⟩ := Cond.exactly_spec (en_ex_12 hN)
  obtain ⟨t13, -, -, -, u13, -⟩ := Cond.exactly_spec (en_ex_13 hN)
  have hsio : ∃ sio : Nat, va_Z "jdk/internal/util/Preconditions" "SIOOBE_FORMATTER" "Ljava/util/function/BiFunction;" .null (fun q => s.heap.size ≤ q) s s.heap ∨ va_Z "jdk/internal/util/Preconditions" "SIOOBE_FORMATTER" "Ljava/util/function/BiFunction;" (.ref sio) (fun q => s.heap.size ≤ q) s s.heap := by
    rcases va_Zqof (A := fun q => s.heap.size ≤ q) (hts (.laysStatic "jdk/internal/util/Preconditions" "SIOOBE_FORMATTER" "Ljava/util/function/BiFunction;") (mT_3 (List.mem_of_getElem? (i := 125) rfl))) (hts _ (mT_1 (List.mem_of_getElem? (i := 20) rfl))) (en_s3 hN) hA with h | ⟨t, h⟩
    · exact ⟨0, Or.inl h⟩
    · exact ⟨t, Or.inr h⟩
  obtain ⟨sio, hsio⟩ := hsio
  have hcst : (Term.static "java/lang/String" "COMPACT_STRINGS" "Z").eval #[Value.ref b] s none [] s = some (.int 1) := va_eqt (en_s2 hN)
  refine ⟨(fun k => [d0, d1, d2, d3, d4, d5, d6, d7, d8, d9, d10, d11].getD k d0, fun k => [i0, i1, i2, i3, i4, i5, i6, i7, i8, i9, i10, i11].getD k i0), fun k => [y0, y1, y2, y3, y4].getD k y0, fun q i => if q = 99999 then b else if q = 100100 then sio else if q = 100011 then t11 else if q = 100012 then t12 else if q = 100013 then t13 else if i = 0 then adK (q - 100000) else adV (q - 100000), ⟨⟨⟨?_, ?_⟩, ?_, ?_, ?_, ?_, ?_, ?_, ?_, ?_, ?_⟩, hAO, hAA⟩, rfl⟩
  · intro c q hq
    match c, hq with
    | 0, hq => cases hq; exact k0
    | 1, hq => cases hq; exact k1
    | 2, hq => cases hq; exact k2
    | 3, hq => cases hq; exact k3
    | 4, hq => cases hq; exact k4
    | 5, hq => cases hq; exact k5
    | 6, hq => cases hq; exact k6
    | 7, hq => cases hq; exact k7
    | 8, hq => cases hq; exact k8
    | 9, hq => cases hq; exact k9
    | 10, hq => cases hq; exact k10
    | 11, hq => cases hq; exact k11
    | c + 12, hq => exact absurd hq (by simp [vwCl])
  · intro c q hq
    match c, hq with
    | 0, hq => cases hq; exact ⟨fun n z => ⟨fun k h => (by cases h), q0, r0, p0, t0⟩, g0⟩
    | 1, hq => cases hq; exact ⟨fun n z => ⟨fun k h => (by cases h), q1, r1, p1, t1⟩, g1⟩
    | 2, hq => cases hq; exact ⟨fun n z => ⟨fun k h => (by cases h), q2, r2, p2, t2⟩, g2⟩
    | 3, hq => cases hq; exact ⟨fun n z => ⟨fun k h => (by cases h), q3, e33, p3, e34⟩, q3, p3, e33, e34, e31, e35⟩
    | 4, hq => cases hq; exact ⟨fun n z => ⟨fun k h => (by cases h), q4, e42, p4, e43⟩, e44⟩
    | c + 5, hq => exact absurd hq (by simp [tysW])
  · exact fun w hw => NW_of hw (hts w (List.mem_filter.mp hw).1)
  · exact ⟨Nat.le_refl _, va_Nc.of (en_c0 hN), va_Nc.of (en_c1 hN), va_Nc.of (en_c2 hN)⟩
  · intro i q hq
    match i, hq with
    | 0, hq => cases hq; exact vk_R.of (A := #[Value.ref b]) (hts (.stringRef "WeekWheels$Calendar" 94 "law") (mT_3 (List.mem_of_getElem? (i := 94) rfl))) (hE 0 (by decide))
    | 1, hq => cases hq; exact vk_R.of (A := #[Value.ref b]) (hts (.stringRef "WeekWheels$Calendar" 104 "other") (mT_3 (List.mem_of_getElem? (i := 178) rfl))) (hE 1 (by decide))
    | 2, hq => cases hq; exact vk_R.of (A := #[Value.ref b]) (hts (.stringRef "WeekWheels$Calendar" 106 "house") (mT_3 (List.mem_of_getElem? (i := 179) rfl))) (hE 2 (by decide))
    | 3, hq => cases hq; exact vk_R.of (A := #[Value.ref b]) (hts (.stringRef "WeekWheels$Calendar" 111 "slip") (mT_3 (List.mem_of_getElem? (i := 184) rfl))) (hE 3 (by decide))
    | 4, hq => cases hq; exact vk_R.of (A := #[Value.ref b]) (hts (.stringRef "WeekWheels$Calendar" 116 "still") (mT_3 (List.mem_of_getElem? (i := 197) rfl))) (hE 4 (by decide))
    | 5, hq => cases hq; exact vk_R.of (A := #[Value.ref b]) (hts (.stringRef "WeekWheels$WishReader" 70 "not") (mT_4 (List.mem_of_getElem? (i := 44) rfl))) (hE 5 (by decide))
    | 6, hq => cases hq; exact vk_R.of (A := #[Value.ref b]) (hts (.stringRef "WeekWheels$WishReader" 105 "many") (mT_4 (List.mem_of_getElem? (i := 63) rfl))) (hE 6 (by decide))
    | 7, hq => cases hq; exact vk_R.of (A := #[Value.ref b]) (hts (.stringRef "WeekWheels$WishReader" 107 "town") (mT_4 (List.mem_of_getElem? (i := 64) rfl))) (hE 7 (by decide))
    | 8, hq => cases hq; exact vk_R.of (A := #[Value.ref b]) (hts (.stringRef "WeekWheels$WishReader" 112 "day") (mT_4 (List.mem_of_getElem? (i := 65) rfl))) (hE 8 (by decide))
    | 9, hq => cases hq; exact vk_R.of (A := #[Value.ref b]) (hts (.stringRef "WeekWheels$WishReader" 68 "and") (mT_4 (List.mem_of_getElem? (i := 67) rfl))) (hE 9 (by decide))
    | 10, hq => cases hq; exact vk_R.of (A := #[Value.ref b]) (hts (.stringRef "WeekWheels$WishReader" 55 "or") (mT_4 (List.mem_of_getElem? (i := 68) rfl))) (hE 10 (by decide))
    | 11, hq => cases hq; exact vk_R.of (A := #[Value.ref b]) (hts (.stringRef "WeekWheels" 378 "no such argument") (mT_3 (List.mem_of_getElem? (i := 40) rfl))) u11
    | 12, hq => cases hq; exact vk_R.of (A := #[Value.ref b]) (hts (.stringRef "WeekWheels" 373 "no such law, house or work") (mT_4 (List.mem_of_getElem? (i := 115) rfl))) u12
    | 13, hq => cases hq; exact vk_R.of (A := #[Value.ref b]) (hts (.stringRef "WeekWheels" 366 "no such day") (mT_4 (List.mem_of_getElem? (i := 184) rfl))) u13
    | i + 14, hq => exact absurd hq (by simp [sOwn])
  · intro i q hq
    match i, hq with
    | 0, hq => cases hq; exact vk_R.of (A := #[Value.ref b]) (hts (.stringRef "WeekWheels$WishReader" 88 "law") (mT_4 (List.mem_of_getElem? (i := 61) rfl))) (by obtain ⟨y, g1, g2⟩ := Cond.eq_one (en_eq_0 hN); have g3 := hE 0 (by decide); exact g2.trans (g1.symm.trans g3))
    | 1, hq => cases hq; exact vk_R.of (A := #[Value.ref b]) (hts (.stringRef "WeekWheels$WishReader" 114 "house") (mT_4 (List.mem_of_getElem? (i := 66) rfl))) (by obtain ⟨y, g1, g2⟩ := Cond.eq_one (en_eq_1 hN); have g3 := hE 2 (by decide); exact g2.trans (g1.symm.trans g3))
    | i + 2, hq => exact absurd hq (by simp [sAlso])
  · refine vk_S_congr hS (fun i hi => ?_) (fun i hi => ?_)
    · show (if 100000 + i = 99999 then b else if 100000 + i = 100100 then sio else if 100000 + i = 100011 then t11 else if 100000 + i = 100012 then t12 else if 100000 + i = 100013 then t13 else if (0 : Nat) = 0 then adK (100000 + i - 100000) else adV (100000 + i - 100000)) = adK i
      rw [if_neg (by omega), if_neg (by omega), if_neg (by omega), if_neg (by omega), if_neg (by omega), if_pos rfl, Nat.add_sub_cancel_left]
    · show (if 100000 + i = 99999 then b else if 100000 + i = 100100 then sio else if 100000 + i = 100011 then t11 else if 100000 + i = 100012 then t12 else if 100000 + i = 100013 then t13 else if (1 : Nat) = 0 then adK (100000 + i - 100000) else adV (100000 + i - 100000)) = adV i
      rw [if_neg (by omega), if_neg (by omega), if_neg (by omega), if_neg (by omega), if_neg (by omega), if_neg (by decide), Nat.add_sub_cancel_left]
  · exact va_Zof (hts (.laysStatic "java/lang/String" "COMPACT_STRINGS" "Z") (mT_3 (List.mem_of_getElem? (i := 109) rfl))) (hts _ (mT_1 (List.mem_of_getElem? (i := 18) rfl))) hcst hA
  · exact vx_Zqof (args := #[Value.ref b]) (hts _ (mT_3 (List.mem_of_getElem? (i := 26) rfl))) (hts _ (mT_1 (List.mem_of_getElem? (i := 14) rfl))) (en_s0 hN) hA
  · exact vx_Zqof (args := #[Value.ref b]) (hts _ (mT_3 (List.mem_of_getElem? (i := 28) rfl))) (hts _ (mT_1 (List.mem_of_getElem? (i := 14) rfl))) (en_s1 hN) hA
  · exact hsio
