/-! the loops of movesAll (written by mk_moves.py) -/
theorem in_58 {M X : PM} {r i : Nat} {V : Nat → Int32} {b : Bool} {k49 : PM → Nat → Int32 → Int32 → Option PR} (h : IV M r V b (3 + i * 12) X) (hr : r < 3) (hi : i < 10) : ∃ N, F_X11_movesAll_99_g122_58 k49 FUEL X r (zi (if b = true then 0 else 1)) (zi (i : Nat)) (zi 0) = k49 N r (zi (if b = true then 0 else 1)) (zi ((i + 1 : Nat))) ∧ IV M r V b (3 + i * 12 + 12) N := by
  have hn : (zi (i : Nat)).toNatClampNeg = i := zi_natN (by omega)
  have hx : ixOK (zi (i : Nat)) 10 = true := zi_ixT (by omega) (by omega)
  refine loopS (σ := Nat × PM) (fun f s => F_X11_movesAll_99_g122_58 k49 f s.2 r (zi (if b = true then 0 else 1)) (zi (i : Nat)) (zi (s.1 : Nat))) (fun o => ∃ N, o = k49 N r (zi (if b = true then 0 else 1)) (zi ((i + 1 : Nat))) ∧ IV M r V b (3 + i * 12 + 12) N) (fun q s => q = 12 - s.1 ∧ s.1 ≤ 12 ∧ IV M r V b (3 + i * 12 + s.1) s.2) ?_ 12 (0, X) FUEL ⟨rfl, Nat.zero_le _, h⟩ (FUEL_gt (by omega))
  rintro f q ⟨j, Y⟩ ⟨i1, i2, i3⟩
  simp only at i1 i2 i3
  show (∃ N, F_X11_movesAll_99_g122_58 k49 (f + 1) Y r (zi (if b = true then 0 else 1)) (zi (i : Nat)) (zi (j : Nat)) = k49 N r (zi (if b = true then 0 else 1)) (zi ((i + 1 : Nat))) ∧ _) ∨ _
  by_cases e : j = 12
  · left
    subst e
    refine ⟨Y, ?_, i3⟩
    rw [F_X11_movesAll_99_g122_58, if_pos (by rw [show (12 : Int32) = zi 12 from rfl, zi_le (by omega) (by omega)]; omega), lt_z, show (1 : Int32) = zi 1 from rfl, zi_add, zc (show (i : Int) + 1 = ((i + 1 : Nat) : Int) by omega)]
    try rfl
  · right
    have hj : j < 12 := by omega
    have hnj : (zi (j : Nat)).toNatClampNeg = j := zi_natN (by omega)
    have hxj : ixOK (zi (j : Nat)) 12 = true := zi_ixT (by omega) (by omega)
    obtain ⟨N, n1, n2⟩ := mvw (g := 115) (i := i) (j := j) i3 hr (Or.inl ⟨rfl, hi, hj⟩) (by rw [pos115])
    refine ⟨12 - (j + 1), (j + 1, sG N 115 i j (V (3 + i * 12 + j))), by omega, ⟨rfl, by show j + 1 ≤ 12; omega, n2⟩, ?_⟩
    show F_X11_movesAll_99_g122_58 k49 (f + 1) Y r (zi (if b = true then 0 else 1)) (zi (i : Nat)) (zi (j : Nat)) = F_X11_movesAll_99_g122_58 k49 f (sG N 115 i j (V (3 + i * 12 + j))) r (zi (if b = true then 0 else 1)) (zi (i : Nat)) (zi ((j + 1 : Nat)))
    rw [F_X11_movesAll_99_g122_58, if_neg (by rw [show (12 : Int32) = zi 12 from rfl, zi_le (by omega) (by omega)]; omega), hn, hnj, if_pos hx, if_pos hx, if_pos ⟨hi, hxj⟩, n1, cI_s, if_pos ⟨hi, hxj⟩, lt_z, show (1 : Int32) = zi 1 from rfl, zi_add, zc (show (j : Int) + 1 = ((j + 1 : Nat) : Int) by omega)]
theorem in_151 {M X : PM} {r i : Nat} {V : Nat → Int32} {b : Bool} {k103 : PM → Nat → Int32 → Int32 → Option PR} (h : IV M r V b (126 + i * 7) X) (hr : r < 3) (hi : i < 20) : ∃ N, F_X11_movesAll_99_g122_151 k103 FUEL X r (zi (if b = true then 0 else 1)) (zi (i : Nat)) (zi 0) = k103 N r (zi (if b = true then 0 else 1)) (zi ((i + 1 : Nat))) ∧ IV M r V b (126 + i * 7 + 4) N := by
  have hn : (zi (i : Nat)).toNatClampNeg = i := zi_natN (by omega)
  have hx : ixOK (zi (i : Nat)) 20 = true := zi_ixT (by omega) (by omega)
  refine loopS (σ := Nat × PM) (fun f s => F_X11_movesAll_99_g122_151 k103 f s.2 r (zi (if b = true then 0 else 1)) (zi (i : Nat)) (zi (s.1 : Nat))) (fun o => ∃ N, o = k103 N r (zi (if b = true then 0 else 1)) (zi ((i + 1 : Nat))) ∧ IV M r V b (126 + i * 7 + 4) N) (fun q s => q = 4 - s.1 ∧ s.1 ≤ 4 ∧ IV M r V b (126 + i * 7 + s.1) s.2) ?_ 4 (0, X) FUEL ⟨rfl, Nat.zero_le _, h⟩ (FUEL_gt (by omega))
  rintro f q ⟨j, Y⟩ ⟨i1, i2, i3⟩
  simp only at i1 i2 i3
  show (∃ N, F_X11_movesAll_99_g122_151 k103 (f + 1) Y r (zi (if b = true then 0 else 1)) (zi (i : Nat)) (zi (j : Nat)) = k103 N r (zi (if b = true then 0 else 1)) (zi ((i + 1 : Nat))) ∧ _) ∨ _
  by_cases e : j = 4
  · left
    subst e
    refine ⟨Y, ?_, i3⟩
    rw [F_X11_movesAll_99_g122_151, if_pos (by rw [show (4 : Int32) = zi 4 from rfl, zi_le (by omega) (by omega)]; omega), lt_z, show (1 : Int32) = zi 1 from rfl, zi_add, zc (show (i : Int) + 1 = ((i + 1 : Nat) : Int) by omega)]
    try rfl
  · right
    have hj : j < 4 := by omega
    have hnj : (zi (j : Nat)).toNatClampNeg = j := zi_natN (by omega)
    have hxj : ixOK (zi (j : Nat)) 4 = true := zi_ixT (by omega) (by omega)
    obtain ⟨N, n1, n2⟩ := mvw (g := 120) (i := i) (j := j) i3 hr (Or.inr <| Or.inr <| Or.inl ⟨rfl, hi, hj⟩) (by rw [pos120])
    refine ⟨4 - (j + 1), (j + 1, sG N 120 i j (V (126 + i * 7 + j))), by omega, ⟨rfl, by show j + 1 ≤ 4; omega, n2⟩, ?_⟩
    show F_X11_movesAll_99_g122_151 k103 (f + 1) Y r (zi (if b = true then 0 else 1)) (zi (i : Nat)) (zi (j : Nat)) = F_X11_movesAll_99_g122_151 k103 f (sG N 120 i j (V (126 + i * 7 + j))) r (zi (if b = true then 0 else 1)) (zi (i : Nat)) (zi ((j + 1 : Nat)))
    rw [F_X11_movesAll_99_g122_151, if_neg (by rw [show (4 : Int32) = zi 4 from rfl, zi_le (by omega) (by omega)]; omega), hn, hnj, if_pos hx, if_pos hx, if_pos ⟨hi, hxj⟩, n1, cI_s, if_pos ⟨hi, hxj⟩, lt_z, show (1 : Int32) = zi 1 from rfl, zi_add, zc (show (j : Int) + 1 = ((j + 1 : Nat) : Int) by omega)]
theorem in_112 {M X : PM} {r i : Nat} {V : Nat → Int32} {b : Bool} {k103 : PM → Nat → Int32 → Int32 → Option PR} (h : IV M r V b (123 + i * 7) X) (hr : r < 3) (hi : i < 20) : ∃ N, F_X11_movesAll_99_g122_112 k103 FUEL X r (zi (if b = true then 0 else 1)) (zi (i : Nat)) (zi 0) = F_X11_movesAll_99_g122_151 k103 FUEL N r (zi (if b = true then 0 else 1)) (zi (i : Nat)) (zi 0) ∧ IV M r V b (123 + i * 7 + 3) N := by
  have hn : (zi (i : Nat)).toNatClampNeg = i := zi_natN (by omega)
  have hx : ixOK (zi (i : Nat)) 20 = true := zi_ixT (by omega) (by omega)
  refine loopS (σ := Nat × PM) (fun f s => F_X11_movesAll_99_g122_112 k103 f s.2 r (zi (if b = true then 0 else 1)) (zi (i : Nat)) (zi (s.1 : Nat))) (fun o => ∃ N, o = F_X11_movesAll_99_g122_151 k103 FUEL N r (zi (if b = true then 0 else 1)) (zi (i : Nat)) (zi 0) ∧ IV M r V b (123 + i * 7 + 3) N) (fun q s => q = 3 - s.1 ∧ s.1 ≤ 3 ∧ IV M r V b (123 + i * 7 + s.1) s.2) ?_ 3 (0, X) FUEL ⟨rfl, Nat.zero_le _, h⟩ (FUEL_gt (by omega))
  rintro f q ⟨j, Y⟩ ⟨i1, i2, i3⟩
  simp only at i1 i2 i3
  show (∃ N, F_X11_movesAll_99_g122_112 k103 (f + 1) Y r (zi (if b = true then 0 else 1)) (zi (i : Nat)) (zi (j : Nat)) = F_X11_movesAll_99_g122_151 k103 FUEL N r (zi (if b = true then 0 else 1)) (zi (i : Nat)) (zi 0) ∧ _) ∨ _
  by_cases e : j = 3
  · left
    subst e
    refine ⟨Y, ?_, i3⟩
    rw [F_X11_movesAll_99_g122_112, if_pos (by rw [show (3 : Int32) = zi 3 from rfl, zi_le (by omega) (by omega)]; omega)]
    try rfl
  · right
    have hj : j < 3 := by omega
    have hnj : (zi (j : Nat)).toNatClampNeg = j := zi_natN (by omega)
    have hxj : ixOK (zi (j : Nat)) 3 = true := zi_ixT (by omega) (by omega)
    obtain ⟨N, n1, n2⟩ := mvw (g := 119) (i := i) (j := j) i3 hr (Or.inr <| Or.inl ⟨rfl, hi, hj⟩) (by rw [pos119])
    refine ⟨3 - (j + 1), (j + 1, sG N 119 i j (V (123 + i * 7 + j))), by omega, ⟨rfl, by show j + 1 ≤ 3; omega, n2⟩, ?_⟩
    show F_X11_movesAll_99_g122_112 k103 (f + 1) Y r (zi (if b = true then 0 else 1)) (zi (i : Nat)) (zi (j : Nat)) = F_X11_movesAll_99_g122_112 k103 f (sG N 119 i j (V (123 + i * 7 + j))) r (zi (if b = true then 0 else 1)) (zi (i : Nat)) (zi ((j + 1 : Nat)))
    rw [F_X11_movesAll_99_g122_112, if_neg (by rw [show (3 : Int32) = zi 3 from rfl, zi_le (by omega) (by omega)]; omega), hn, hnj, if_pos hx, if_pos hx, if_pos ⟨hi, hxj⟩, n1, cI_s, if_pos ⟨hi, hxj⟩, lt_z, show (1 : Int32) = zi 1 from rfl, zi_add, zc (show (j : Int) + 1 = ((j + 1 : Nat) : Int) by omega)]
theorem in_204 {M X : PM} {r i : Nat} {V : Nat → Int32} {b : Bool} {k195 : PM → Nat → Int32 → Int32 → Option PR} (h : IV M r V b (263 + i * 2) X) (hr : r < 3) (hi : i < 8) : ∃ N, F_X11_movesAll_99_g122_204 k195 FUEL X r (zi (if b = true then 0 else 1)) (zi (i : Nat)) (zi 0) = k195 N r (zi (if b = true then 0 else 1)) (zi ((i + 1 : Nat))) ∧ IV M r V b (263 + i * 2 + 2) N := by
  have hn : (zi (i : Nat)).toNatClampNeg = i := zi_natN (by omega)
  have hx : ixOK (zi (i : Nat)) 8 = true := zi_ixT (by omega) (by omega)
  refine loopS (σ := Nat × PM) (fun f s => F_X11_movesAll_99_g122_204 k195 f s.2 r (zi (if b = true then 0 else 1)) (zi (i : Nat)) (zi (s.1 : Nat))) (fun o => ∃ N, o = k195 N r (zi (if b = true then 0 else 1)) (zi ((i + 1 : Nat))) ∧ IV M r V b (263 + i * 2 + 2) N) (fun q s => q = 2 - s.1 ∧ s.1 ≤ 2 ∧ IV M r V b (263 + i * 2 + s.1) s.2) ?_ 2 (0, X) FUEL ⟨rfl, Nat.zero_le _, h⟩ (FUEL_gt (by omega))
  rintro f q ⟨j, Y⟩ ⟨i1, i2, i3⟩
  simp only at i1 i2 i3
  show (∃ N, F_X11_movesAll_99_g122_204 k195 (f + 1) Y r (zi (if b = true then 0 else 1)) (zi (i : Nat)) (zi (j : Nat)) = k195 N r (zi (if b = true then 0 else 1)) (zi ((i + 1 : Nat))) ∧ _) ∨ _
  by_cases e : j = 2
  · left
    subst e
    refine ⟨Y, ?_, i3⟩
    rw [F_X11_movesAll_99_g122_204, if_pos (by rw [show (2 : Int32) = zi 2 from rfl, zi_le (by omega) (by omega)]; omega), lt_z, show (1 : Int32) = zi 1 from rfl, zi_add, zc (show (i : Int) + 1 = ((i + 1 : Nat) : Int) by omega)]
    try rfl
  · right
    have hj : j < 2 := by omega
    have hnj : (zi (j : Nat)).toNatClampNeg = j := zi_natN (by omega)
    have hxj : ixOK (zi (j : Nat)) 2 = true := zi_ixT (by omega) (by omega)
    obtain ⟨N, n1, n2⟩ := mvw (g := 121) (i := i) (j := j) i3 hr (Or.inr <| Or.inr <| Or.inr ⟨rfl, hi, hj⟩) (by rw [pos121])
    refine ⟨2 - (j + 1), (j + 1, sG N 121 i j (V (263 + i * 2 + j))), by omega, ⟨rfl, by show j + 1 ≤ 2; omega, n2⟩, ?_⟩
    show F_X11_movesAll_99_g122_204 k195 (f + 1) Y r (zi (if b = true then 0 else 1)) (zi (i : Nat)) (zi (j : Nat)) = F_X11_movesAll_99_g122_204 k195 f (sG N 121 i j (V (263 + i * 2 + j))) r (zi (if b = true then 0 else 1)) (zi (i : Nat)) (zi ((j + 1 : Nat)))
    rw [F_X11_movesAll_99_g122_204, if_neg (by rw [show (2 : Int32) = zi 2 from rfl, zi_le (by omega) (by omega)]; omega), hn, hnj, if_pos hx, if_pos hx, if_pos ⟨hi, hxj⟩, n1, cI_s, if_pos ⟨hi, hxj⟩, lt_z, show (1 : Int32) = zi 1 from rfl, zi_add, zc (show (j : Int) + 1 = ((j + 1 : Nat) : Int) by omega)]
theorem out_195 {M X : PM} {r : Nat} {V : Nat → Int32} {b : Bool} (h : IV M r V b 263 X) (hr : r < 3) : ∃ N, F_X11_movesAll_99_g122_195 FUEL X r (zi (if b = true then 0 else 1)) (zi 0) = rV N ∧ IV M r V b 279 N := by
  refine loopS (σ := Nat × PM) (fun f s => F_X11_movesAll_99_g122_195 f s.2 r (zi (if b = true then 0 else 1)) (zi (s.1 : Nat))) (fun o => ∃ N, o = rV N ∧ IV M r V b 279 N) (fun q s => q = 8 - s.1 ∧ s.1 ≤ 8 ∧ IV M r V b (263 + s.1 * 2) s.2) ?_ 8 (0, X) FUEL ⟨rfl, Nat.zero_le _, h⟩ (FUEL_gt (by omega))
  rintro f q ⟨i, Y⟩ ⟨i1, i2, i3⟩
  simp only at i1 i2 i3
  show (∃ N, F_X11_movesAll_99_g122_195 (f + 1) Y r (zi (if b = true then 0 else 1)) (zi (i : Nat)) = rV N ∧ _) ∨ _
  by_cases e : i = 8
  · left
    subst e
    refine ⟨Y, ?_, i3⟩
    rw [F_X11_movesAll_99_g122_195, if_pos (by rw [show (8 : Int32) = zi 8 from rfl, zi_le (by omega) (by omega)]; omega)]
    try rfl
  · right
    have hi : i < 8 := by omega
    obtain ⟨N, n1, n2⟩ := in_204 (k195 := F_X11_movesAll_99_g122_195 f) i3 hr hi
    refine ⟨8 - (i + 1), (i + 1, N), by omega, ⟨rfl, by show i + 1 ≤ 8; omega, ?_⟩, ?_⟩
    · have e2 : 263 + i * 2 + 2 = 263 + (i + 1) * 2 := by omega
      rw [e2] at n2
      exact n2
    · show F_X11_movesAll_99_g122_195 (f + 1) Y r (zi (if b = true then 0 else 1)) (zi (i : Nat)) = F_X11_movesAll_99_g122_195 f N r (zi (if b = true then 0 else 1)) (zi ((i + 1 : Nat)))
      rw [F_X11_movesAll_99_g122_195, if_neg (by rw [show (8 : Int32) = zi 8 from rfl, zi_le (by omega) (by omega)]; omega), show (0 : Int32) = zi 0 from rfl]
      exact n1
theorem out_103 {M X : PM} {r : Nat} {V : Nat → Int32} {b : Bool} (h : IV M r V b 123 X) (hr : r < 3) : ∃ N, F_X11_movesAll_99_g122_103 FUEL X r (zi (if b = true then 0 else 1)) (zi 0) = F_X11_movesAll_99_g122_195 FUEL N r (zi (if b = true then 0 else 1)) (zi 0) ∧ IV M r V b 263 N := by
  refine loopS (σ := Nat × PM) (fun f s => F_X11_movesAll_99_g122_103 f s.2 r (zi (if b = true then 0 else 1)) (zi (s.1 : Nat))) (fun o => ∃ N, o = F_X11_movesAll_99_g122_195 FUEL N r (zi (if b = true then 0 else 1)) (zi 0) ∧ IV M r V b 263 N) (fun q s => q = 20 - s.1 ∧ s.1 ≤ 20 ∧ IV M r V b (123 + s.1 * 7) s.2) ?_ 20 (0, X) FUEL ⟨rfl, Nat.zero_le _, h⟩ (FUEL_gt (by omega))
  rintro f q ⟨i, Y⟩ ⟨i1, i2, i3⟩
  simp only at i1 i2 i3
  show (∃ N, F_X11_movesAll_99_g122_103 (f + 1) Y r (zi (if b = true then 0 else 1)) (zi (i : Nat)) = F_X11_movesAll_99_g122_195 FUEL N r (zi (if b = true then 0 else 1)) (zi 0) ∧ _) ∨ _
  by_cases e : i = 20
  · left
    subst e
    refine ⟨Y, ?_, i3⟩
    rw [F_X11_movesAll_99_g122_103, if_pos (by rw [show (20 : Int32) = zi 20 from rfl, zi_le (by omega) (by omega)]; omega)]
    try rfl
  · right
    have hi : i < 20 := by omega
    obtain ⟨N0, n1, n2⟩ := in_112 (k103 := F_X11_movesAll_99_g122_103 f) i3 hr hi
    rw [show 123 + i * 7 + 3 = 126 + i * 7 by omega] at n2
    obtain ⟨N, m1, m2⟩ := in_151 (k103 := F_X11_movesAll_99_g122_103 f) n2 hr hi
    refine ⟨20 - (i + 1), (i + 1, N), by omega, ⟨rfl, by show i + 1 ≤ 20; omega, ?_⟩, ?_⟩
    · rw [show 126 + i * 7 + 4 = 123 + (i + 1) * 7 by omega] at m2
      exact m2
    · show F_X11_movesAll_99_g122_103 (f + 1) Y r (zi (if b = true then 0 else 1)) (zi (i : Nat)) = F_X11_movesAll_99_g122_103 f N r (zi (if b = true then 0 else 1)) (zi ((i + 1 : Nat)))
      rw [F_X11_movesAll_99_g122_103, if_neg (by rw [show (20 : Int32) = zi 20 from rfl, zi_le (by omega) (by omega)]; omega), show (0 : Int32) = zi 0 from rfl]
      exact n1.trans m1
theorem out_49 {M X : PM} {r : Nat} {V : Nat → Int32} {b : Bool} (h : IV M r V b 3 X) (hr : r < 3) : ∃ N, F_X11_movesAll_99_g122_49 FUEL X r (zi (if b = true then 0 else 1)) (zi 0) = F_X11_movesAll_99_g122_103 FUEL N r (zi (if b = true then 0 else 1)) (zi 0) ∧ IV M r V b 123 N := by
  refine loopS (σ := Nat × PM) (fun f s => F_X11_movesAll_99_g122_49 f s.2 r (zi (if b = true then 0 else 1)) (zi (s.1 : Nat))) (fun o => ∃ N, o = F_X11_movesAll_99_g122_103 FUEL N r (zi (if b = true then 0 else 1)) (zi 0) ∧ IV M r V b 123 N) (fun q s => q = 10 - s.1 ∧ s.1 ≤ 10 ∧ IV M r V b (3 + s.1 * 12) s.2) ?_ 10 (0, X) FUEL ⟨rfl, Nat.zero_le _, h⟩ (FUEL_gt (by omega))
  rintro f q ⟨i, Y⟩ ⟨i1, i2, i3⟩
  simp only at i1 i2 i3
  show (∃ N, F_X11_movesAll_99_g122_49 (f + 1) Y r (zi (if b = true then 0 else 1)) (zi (i : Nat)) = F_X11_movesAll_99_g122_103 FUEL N r (zi (if b = true then 0 else 1)) (zi 0) ∧ _) ∨ _
  by_cases e : i = 10
  · left
    subst e
    refine ⟨Y, ?_, i3⟩
    rw [F_X11_movesAll_99_g122_49, if_pos (by rw [show (10 : Int32) = zi 10 from rfl, zi_le (by omega) (by omega)]; omega)]
    try rfl
  · right
    have hi : i < 10 := by omega
    obtain ⟨N, n1, n2⟩ := in_58 (k49 := F_X11_movesAll_99_g122_49 f) i3 hr hi
    refine ⟨10 - (i + 1), (i + 1, N), by omega, ⟨rfl, by show i + 1 ≤ 10; omega, ?_⟩, ?_⟩
    · have e2 : 3 + i * 12 + 12 = 3 + (i + 1) * 12 := by omega
      rw [e2] at n2
      exact n2
    · show F_X11_movesAll_99_g122_49 (f + 1) Y r (zi (if b = true then 0 else 1)) (zi (i : Nat)) = F_X11_movesAll_99_g122_49 f N r (zi (if b = true then 0 else 1)) (zi ((i + 1 : Nat)))
      rw [F_X11_movesAll_99_g122_49, if_neg (by rw [show (10 : Int32) = zi 10 from rfl, zi_le (by omega) (by omega)]; omega), show (0 : Int32) = zi 0 from rfl]
      exact n1
