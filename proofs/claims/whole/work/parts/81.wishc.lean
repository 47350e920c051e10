/-! days on which a wish holds -/
def atm (C : Cal) (S : Sta) (W : Wsh) (k : Nat) (d t : Int) : Bool := if hS W k = 0 then hb (cW C (hA W k)) (cD C (hA W k)) t else if hS W k = 1 then decide (hcN (cW C) (cD C) (cN C) t = hA W k) else if hS W k = 2 then hb (hA W k) (hB W k) d else if hS W k = 3 then hb (cW C (hB W k)) (cD C (hB W k)) (t + aS S (hA W k) (hB W k)) else hb (oW C (hA W k)) (oD C (hA W k)) t
def evS (C : Cal) (S : Sta) (W : Wsh) (d t : Int) : Nat → Nat → Bool
  | 0, _ => false
  | k + 1, j => if hS W k < 5 then (if j = hDep W k then atm C S W k d t else evS C S W d t k j) else if hS W k = 5 then (if j = hDep W k - 1 then !evS C S W d t k (hDep W k - 1) else evS C S W d t k j) else if hS W k = 6 then (if j = hDep W k - 2 then (evS C S W d t k (hDep W k - 2) && evS C S W d t k (hDep W k - 1)) else evS C S W d t k j) else (if j = hDep W k - 2 then (evS C S W d t k (hDep W k - 2) || evS C S W d t k (hDep W k - 1)) else evS C S W d t k j)
def wsB (C : Cal) (S : Sta) (W : Wsh) (d t : Int) : Bool := if hN W = 0 then true else evS C S W d t (hN W) 0
theorem hDep_le (W : Wsh) : ∀ k, hDep W k ≤ k
  | 0 => Nat.le_refl 0
  | k + 1 => by
    have := hDep_le W k
    rw [hDep]
    split
    · omega
    · split <;> omega
theorem justSoN {N : PM} {C : Cal} {t : Int} {k : Nat} (hc : WFC C) (h : Tal (cW C) (cD C) (cN C) t (mJ N 4 5) (mJ N 4 6) (mJ N 4 7) (mJ N 4 8)) (hk : k ≤ 12) : ∃ y, F_X2_justSoMany_4 N (zi k) = rJ y N ∧ ∀ i, i < 64 → lb y i = decide (hcN (cW C) (cD C) (cN C) (t + i) = k) := by
  have := justSo_s (M := N) hc h hk
  rw [tl_self] at this
  exact this
theorem daysOf_s {N : PM} {C : Cal} {S : Sta} {W : Wsh} {k : Nat} {d t : Int} (hc : WFC C) (hw : WFS C S) (hv : WFW C W) (c : CalC N C) (st : StaC N C S 16) (ws : WisC N C W) (hk : k < hN W) (h5 : hS W k < 5) (ht : 0 ≤ t ∧ t ≤ 1000000000) (hd : 0 ≤ d ∧ d ≤ 1000000000) (htal : hS W k = 1 → Tal (cW C) (cD C) (cN C) t (mJ N 4 5) (mJ N 4 6) (mJ N 4 7) (mJ N 4 8)) : ∃ y, F_X7_daysOf_76 N (zi k) (zi d) (zi t) = rJ y N ∧ ∀ i, i < 64 → lb y i = atm C S W k (d + i) (t + i) := by
  have h100 := hv.1
  have hH := hc.1.2.2.1
  have hn := hc.1.1
  have hno := hc.1.2.1
  obtain ⟨w1, w2, w3, w4⟩ := ws.2.2.2 k hk
  obtain ⟨-, v0, v1, v2, v3, v4, -, -⟩ := hv.2.2.2 k hk
  have x1 : mA N 77 (zi (k : Int)).toNatClampNeg = zi (hS W k) := by rw [zi_natN (by omega)]; exact w1
  have x2 : mA N 78 (zi (k : Int)).toNatClampNeg = zi (hA W k) := by rw [zi_natN (by omega)]; exact w2
  have x3 : mA N 79 (zi (k : Int)).toNatClampNeg = zi (hB W k) := by rw [zi_natN (by omega)]; exact w3
  have x4 : mB N 80 (zi (k : Int)).toNatClampNeg = mB N 80 k := by rw [zi_natN (by omega)]
  have hix : ixOK (zi (k : Int)) 100 = true := zi_ixT (by omega) (by omega)
  have hs : hS W k = 0 ∨ hS W k = 1 ∨ hS W k = 2 ∨ hS W k = 3 ∨ hS W k = 4 := by omega
  rcases hs with e | e | e | e | e
  · obtain ⟨y, y1, y2⟩ := heldFrom_s (M := N) (l := hA W k) (t := t) hc c.1 (v0 e) (by omega)
    refine ⟨y, ?_, fun i hi => by rw [y2 i hi]; unfold atm; rw [if_pos e]⟩
    unfold F_X7_daysOf_76
    rw [if_pos hix, lt_z, if_pos hix, x1, x2, e, if_pos (by decide), y1, cJ_s]
  · obtain ⟨y, y1, y2⟩ := justSoN (N := N) (k := hA W k) (t := t) hc (htal e) (v1 e)
    refine ⟨y, ?_, fun i hi => by rw [y2 i hi]; unfold atm; rw [if_neg (by omega), if_pos e]⟩
    unfold F_X7_daysOf_76
    rw [if_pos hix, lt_z, if_pos hix, x1, x2, e, if_neg (by decide), if_pos (by decide), y1, cJ_s]
  · have := v2 e
    obtain ⟨y, y1, y2⟩ := daysLeaving_s (M := N) (w := hA W k) (d := hB W k) (t := d) (w4 e) (by omega) (by omega) (by omega)
    refine ⟨y, ?_, fun i hi => by rw [y2 i hi]; unfold atm; rw [if_neg (by omega), if_neg (by omega), if_pos e]⟩
    unfold F_X7_daysOf_76
    rw [if_pos hix, lt_z, if_pos hix, x1, x2, e, if_neg (by decide), if_neg (by decide), if_pos (by decide), if_pos hix, if_pos hix, x3, x4, y1, cJ_s]
  · have := v3 e
    have hal := hw.1 (hA W k) (hB W k) this.1 this.2
    have hwk := hc.2.1 _ this.2
    obtain ⟨y, y1, y2⟩ := heldFrom_s (M := N) (l := hB W k) (t := t + aS S (hA W k) (hB W k)) hc c.1 this.2 (by omega)
    refine ⟨y, ?_, fun i hi => by rw [y2 i hi]; unfold atm; rw [if_neg (by omega), if_neg (by omega), if_neg (by omega), if_pos e, show t + (aS S (hA W k) (hB W k) : Int) + i = t + i + aS S (hA W k) (hB W k) by omega]⟩
    unfold F_X7_daysOf_76
    rw [if_pos hix, lt_z, if_pos hix, x1, x2, e, if_neg (by decide), if_neg (by decide), if_neg (by decide), if_pos (by decide), if_pos hix, if_pos hix, x3, aheadOf_t st.1 hH this.1 (by omega), cI_s, zi_add, y1, cJ_s]
  · obtain ⟨y, y1, y2⟩ := heldFrom9_s (M := N) (l := hA W k) (t := t) hc c.2.1 (v4 e) (by omega)
    refine ⟨y, ?_, fun i hi => by rw [y2 i hi]; unfold atm; rw [if_neg (by omega), if_neg (by omega), if_neg (by omega), if_neg (by omega)]⟩
    unfold F_X7_daysOf_76
    rw [if_pos hix, lt_z, if_pos hix, x1, x2, e, if_neg (by decide), if_neg (by decide), if_neg (by decide), if_neg (by decide), y1, cJ_s]
theorem rB_at {M : PM} {q k : Nat} {x : Int64} : (sB M q k x).2.2.2.1 q k = x := by rw [rB_sB, if_pos rfl, if_pos rfl]
theorem rB_nk {M : PM} {q k b : Nat} {x : Int64} (h : b ≠ k) : (sB M q k x).2.2.2.1 q b = M.2.2.2.1 q b := by rw [rB_sB, if_pos rfl, if_neg h]
theorem wish23 {M : PM} {C : Cal} {S : Sta} {W : Wsh} {d t : Int} (hc : WFC C) (hw : WFS C S) (hv : WFW C W) (c : CalC M C) (st : StaC M C S 16) (ws : WisC M C W) (ht : 0 ≤ t ∧ t ≤ 1000000000) (hd : 0 ≤ d ∧ d ≤ 1000000000) (htal : ∀ k, k < hN W → hS W k = 1 → Tal (cW C) (cD C) (cN C) t (mJ M 4 5) (mJ M 4 6) (mJ M 4 7) (mJ M 4 8)) : ∃ N y, F_X7_daysFrom_76_23 FUEL M (zi d) (zi t) (zi 0) (zi 0) = rJ y N ∧ Sam M N ∧ ∀ i, i < 64 → lb y i = wsB C S W (d + i) (t + i) := by
  have h100 := hv.1
  have h := loopS (σ := Nat × PM) (fun f s => F_X7_daysFrom_76_23 f s.2 (zi d) (zi t) (zi (hDep W s.1 : Nat)) (zi (s.1 : Nat))) (fun o => ∃ N y, o = rJ y N ∧ Sam M N ∧ ∀ i, i < 64 → lb y i = wsB C S W (d + i) (t + i)) (fun r s => s.1 ≤ hN W ∧ r = hN W - s.1 ∧ Sam M s.2 ∧ (∀ j, mJ s.2 4 j = mJ M 4 j) ∧ ∀ j, j < hDep W s.1 → ∀ i, i < 64 → lb (mB s.2 81 j) i = evS C S W (d + i) (t + i) s.1 j) (fun f r s hI => by
    obtain ⟨k, N⟩ := s
    obtain ⟨h1, h2, h3, h4, h5⟩ := hI
    simp only at h1 h2 h3 h4 h5
    have cn := c.sm h3.1
    have sn := st.sm h3.1 (Or.inl rfl)
    have wn := ws.sm h3.1
    have a1 := wn.1
    have hdl := hDep_le W k
    show (∃ N' y, F_X7_daysFrom_76_23 (f + 1) N (zi d) (zi t) (zi (hDep W k : Nat)) (zi (k : Nat)) = rJ y N' ∧ _) ∨ _
    by_cases hk : k = hN W
    · left
      subst hk
      rw [F_X7_daysFrom_76_23, if_pos (by rw [a1, zi_le (by omega) (by omega)]; omega)]
      by_cases e0 : hN W = 0
      · refine ⟨N, -1, ?_, h3, fun i hi => by unfold wsB; rw [if_pos e0]; exact lb_m1 i hi⟩
        have : hDep W (hN W) = 0 := by omega
        rw [this, if_pos (by decide)]
      · have hpos := hv.2.2.1 (by omega)
        refine ⟨N, mB N 81 0, ?_, h3, fun i hi => by unfold wsB; rw [if_neg e0]; exact h5 0 hpos i hi⟩
        rw [if_neg (by rw [show (0 : Int32) = zi 0 from rfl, zi_le (by omega) (by omega)]; omega), if_pos (by decide)]
        rfl
    · right
      have hkn : k < hN W := by omega
      obtain ⟨w1, -⟩ := wn.2.2.2 k hkn
      obtain ⟨v7, -, -, -, -, -, v5, v6⟩ := hv.2.2.2 k hkn
      have x1 : mA N 77 (zi (k : Int)).toNatClampNeg = zi (hS W k) := by rw [zi_natN (by omega)]; exact w1
      have hix : ixOK (zi (k : Int)) 100 = true := zi_ixT (by omega) (by omega)
      have head : F_X7_daysFrom_76_23 (f + 1) N (zi d) (zi t) (zi (hDep W k : Nat)) (zi (k : Nat)) = (if 5 ≤ zi (hS W k) then F_X7_daysFrom_76_69 (F_X7_daysFrom_76_23 f) N (zi d) (zi t) (zi (hDep W k : Nat)) (zi (k : Nat)) else (if 100 ≤ zi (hDep W k : Nat) then F_X7_daysFrom_76_69 (F_X7_daysFrom_76_23 f) N (zi d) (zi t) (zi (hDep W k : Nat)) (zi (k : Nat)) else cJ (F_X7_daysOf_76 N (zi (k : Nat)) (zi d) (zi t)) fun v366 M365 => if ixOK (zi (hDep W k : Nat)) 100 = true then lt (zi (hDep W k : Nat) + 1) fun y367 => F_X7_daysFrom_76_168 (F_X7_daysFrom_76_23 f) (sB M365 81 (zi (hDep W k : Nat)).toNatClampNeg v366) (zi d) (zi t) y367 (zi (k : Nat)) else none)) := by
        rw [F_X7_daysFrom_76_23, if_neg (by rw [a1, zi_le (by omega) (by omega)]; omega), if_pos hix, x1]
      have tail : ∀ (K : PM) (b : Nat), F_X7_daysFrom_76_168 (F_X7_daysFrom_76_23 f) K (zi d) (zi t) (zi (b : Nat)) (zi (k : Nat)) = F_X7_daysFrom_76_23 f K (zi d) (zi t) (zi (b : Nat)) (zi ((k + 1 : Nat))) := fun K b => by
        unfold F_X7_daysFrom_76_168
        rw [lt_z, show (1 : Int32) = zi 1 from rfl, zi_add, zc (show (k : Int) + 1 = ((k + 1 : Nat) : Int) by omega)]
      by_cases q5 : hS W k < 5
      · obtain ⟨y, y1, y2⟩ := daysOf_s (N := N) (k := k) (d := d) (t := t) hc hw hv cn sn wn hkn q5 ht hd (fun e => by rw [h4, h4, h4, h4]; exact htal k hkn e)
        have hdep : hDep W (k + 1) = hDep W k + 1 := by rw [hDep, if_pos q5]
        refine ⟨hN W - (k + 1), (k + 1, sB N 81 (hDep W k) y), by omega, ⟨by show k + 1 ≤ hN W; omega, rfl, Sam.b 81 _ _ (by decide) h3, h4, fun j hj i hi => ?_⟩, ?_⟩
        · show lb ((sB N 81 (hDep W k) y).2.2.2.1 81 j) i = evS C S W (d + i) (t + i) (k + 1) j
          have hj2 : j < hDep W (k + 1) := hj
          rw [evS, if_pos q5]
          by_cases e : j = hDep W k
          · rw [if_pos e, e, rB_at]; exact y2 i hi
          · rw [if_neg e, rB_nk e]; exact h5 j (by omega) i hi
        · show F_X7_daysFrom_76_23 (f + 1) N (zi d) (zi t) (zi (hDep W k : Nat)) (zi (k : Nat)) = F_X7_daysFrom_76_23 f (sB N 81 (hDep W k) y) (zi d) (zi t) (zi (hDep W (k + 1) : Nat)) (zi ((k + 1 : Nat)))
          rw [head, if_neg (by rw [show (5 : Int32) = zi 5 from rfl, zi_le (by omega) (by omega)]; omega), if_neg (by rw [show (100 : Int32) = zi 100 from rfl, zi_le (by omega) (by omega)]; omega), y1, cJ_s, if_pos (zi_ixT (by omega) (by omega)), lt_z, show (1 : Int32) = zi 1 from rfl, zi_add, zi_natN (by omega), zc (show (hDep W k : Int) + 1 = ((hDep W k + 1 : Nat) : Int) by omega), tail, hdep]
      · have h69 : F_X7_daysFrom_76_23 (f + 1) N (zi d) (zi t) (zi (hDep W k : Nat)) (zi (k : Nat)) = F_X7_daysFrom_76_69 (F_X7_daysFrom_76_23 f) N (zi d) (zi t) (zi (hDep W k : Nat)) (zi (k : Nat)) := by
          rw [head, if_pos (by rw [show (5 : Int32) = zi 5 from rfl, zi_le (by omega) (by omega)]; omega)]
        by_cases q6 : hS W k = 5
        · have hd1 := v5 q6
          have hdep : hDep W (k + 1) = hDep W k := by rw [hDep, if_neg q5, if_pos q6]
          refine ⟨hN W - (k + 1), (k + 1, sB N 81 (hDep W k - 1) (mB N 81 (hDep W k - 1) ^^^ (-1))), by omega, ⟨by show k + 1 ≤ hN W; omega, rfl, Sam.b 81 _ _ (by decide) h3, h4, fun j hj i hi => ?_⟩, ?_⟩
          · show lb ((sB N 81 (hDep W k - 1) (mB N 81 (hDep W k - 1) ^^^ (-1))).2.2.2.1 81 j) i = evS C S W (d + i) (t + i) (k + 1) j
            have hj2 : j < hDep W (k + 1) := hj
            rw [evS, if_neg q5, if_pos q6]
            by_cases e : j = hDep W k - 1
            · rw [if_pos e, e, rB_at, lb_not _ hi, h5 _ (by omega) i hi]
            · rw [if_neg e, rB_nk e]; exact h5 j (by omega) i hi
          · show F_X7_daysFrom_76_23 (f + 1) N (zi d) (zi t) (zi (hDep W k : Nat)) (zi (k : Nat)) = F_X7_daysFrom_76_23 f (sB N 81 (hDep W k - 1) (mB N 81 (hDep W k - 1) ^^^ (-1))) (zi d) (zi t) (zi (hDep W (k + 1) : Nat)) (zi ((k + 1 : Nat)))
            rw [h69]
            unfold F_X7_daysFrom_76_69
            rw [if_pos hix, x1, q6, if_pos (by decide), if_neg (by rw [show (0 : Int32) = zi 0 from rfl, zi_le (by omega) (by omega)]; omega), show (1 : Int32) = zi 1 from rfl, zi_sub, zc (show (hDep W k : Int) - 1 = ((hDep W k - 1 : Nat) : Int) by omega), if_pos (zi_ixT (by omega) (by omega)), if_pos (zi_ixT (by omega) (by omega)), zi_natN (by omega), tail, hdep]
        · have hd2 := v6 (by omega)
          have hdep : hDep W (k + 1) = hDep W k - 1 := by rw [hDep, if_neg q5, if_neg q6]
          have h107 : ∀ z : Int64, z = (if hS W k = 6 then mB N 81 (hDep W k - 2) &&& mB N 81 (hDep W k - 1) else mB N 81 (hDep W k - 2) ||| mB N 81 (hDep W k - 1)) → F_X7_daysFrom_76_23 (f + 1) N (zi d) (zi t) (zi (hDep W k : Nat)) (zi (k : Nat)) = F_X7_daysFrom_76_23 f (sB N 81 (hDep W k - 2) z) (zi d) (zi t) (zi (hDep W (k + 1) : Nat)) (zi ((k + 1 : Nat))) := fun z hz => by
            rw [h69]
            unfold F_X7_daysFrom_76_69
            rw [if_pos hix, x1, if_neg (by rw [show (5 : Int32) = zi 5 from rfl, zi_eq (by omega) (by omega)]; omega)]
            unfold F_X7_daysFrom_76_107 F_X7_daysFrom_76_167
            rw [if_neg (by rw [show (1 : Int32) = zi 1 from rfl, zi_le (by omega) (by omega)]; omega), lt_z, show (-1 : Int32) = zi (-1) from rfl, zi_add, show (1 : Int32) = zi 1 from rfl, zi_sub, zc (show (hDep W k : Int) + -1 - 1 = ((hDep W k - 2 : Nat) : Int) by omega), zc (show (hDep W k : Int) + -1 = ((hDep W k - 1 : Nat) : Int) by omega), if_pos hix, x1, if_pos (zi_ixT (z := ((hDep W k - 2 : Nat) : Int)) (n := 100) (by omega) (by omega)), if_pos (zi_ixT (z := ((hDep W k - 1 : Nat) : Int)) (n := 100) (by omega) (by omega)), zi_natN (k := hDep W k - 2) (by omega), zi_natN (k := hDep W k - 1) (by omega), hdep]
            by_cases q7 : hS W k = 6
            · rw [if_pos q7] at hz
              rw [if_pos (by rw [q7]; decide), hz, if_pos (zi_ixT (z := ((hDep W k - 2 : Nat) : Int)) (n := 100) (by omega) (by omega))]
              exact tail _ _
            · rw [if_neg q7] at hz
              rw [if_neg (by rw [show (6 : Int32) = zi 6 from rfl, zi_eq (by omega) (by omega)]; omega), if_pos (zi_ixT (z := ((hDep W k - 2 : Nat) : Int)) (n := 100) (by omega) (by omega)), if_pos (zi_ixT (z := ((hDep W k - 1 : Nat) : Int)) (n := 100) (by omega) (by omega)), if_pos (zi_ixT (z := ((hDep W k - 2 : Nat) : Int)) (n := 100) (by omega) (by omega)), hz]
              exact tail _ _
          refine ⟨hN W - (k + 1), (k + 1, sB N 81 (hDep W k - 2) (if hS W k = 6 then mB N 81 (hDep W k - 2) &&& mB N 81 (hDep W k - 1) else mB N 81 (hDep W k - 2) ||| mB N 81 (hDep W k - 1))), by omega, ⟨by show k + 1 ≤ hN W; omega, rfl, Sam.b 81 _ _ (by decide) h3, h4, fun j hj i hi => ?_⟩, h107 _ rfl⟩
          show lb ((sB N 81 (hDep W k - 2) (if hS W k = 6 then mB N 81 (hDep W k - 2) &&& mB N 81 (hDep W k - 1) else mB N 81 (hDep W k - 2) ||| mB N 81 (hDep W k - 1))).2.2.2.1 81 j) i = evS C S W (d + i) (t + i) (k + 1) j
          have hj2 : j < hDep W (k + 1) := hj
          rw [evS, if_neg q5, if_neg q6]
          by_cases q7 : hS W k = 6
          · rw [if_pos q7, if_pos q7]
            by_cases e : j = hDep W k - 2
            · rw [if_pos e, e, rB_at, lb_and, h5 _ (by omega) i hi, h5 _ (by omega) i hi]
            · rw [if_neg e, rB_nk e]; exact h5 j (by omega) i hi
          · rw [if_neg q7, if_neg q7]
            by_cases e : j = hDep W k - 2
            · rw [if_pos e, e, rB_at, lb_or, h5 _ (by omega) i hi, h5 _ (by omega) i hi]
            · rw [if_neg e, rB_nk e]; exact h5 j (by omega) i hi) (hN W) (0, M) FUEL ⟨Nat.zero_le _, rfl, Sam.rf, fun _ => rfl, fun j hj => absurd hj (Nat.not_lt_zero j)⟩ (FUEL_gt (by omega))
  exact h
theorem wishFrom_s {M : PM} {C : Cal} {S : Sta} {W : Wsh} {d t : Int} (hc : WFC C) (hw : WFS C S) (hv : WFW C W) (c : CalC M C) (st : StaC M C S 16) (ws : WisC M C W) (ht : 0 ≤ t ∧ t ≤ 1000000000) (hd : 0 ≤ d ∧ d ≤ 1000000000) : ∃ N y, F_X7_daysFrom_76 M (zi d) (zi t) = rJ y N ∧ Sam M N ∧ ∀ i, i < 64 → lb y i = wsB C S W (d + i) (t + i) := by
  unfold F_X7_daysFrom_76 F_X7_daysFrom_76_18
  rw [ws.2.1]
  by_cases e : 0 < fb_ct (fun i => decide (hS W i = 1)) (hN W)
  · obtain ⟨a, b, g, u, w1, w2⟩ := tally_s (M := M) (a0 := mJ M 4 5) (b0 := mJ M 4 6) (c0 := mJ M 4 7) (d0 := mJ M 4 8) (t := t) hc c.1 (by omega)
    rw [tl_self] at w1
    obtain ⟨N, y, n1, n2, n3⟩ := wish23 (M := tl M a b g u) (d := d) (t := t) hc hw hv c st ws ht hd (fun k _ _ => w2)
    refine ⟨N, y, ?_, n2, n3⟩
    rw [decide_eq_true e, if_neg (by decide), w1, cV_s]
    exact n1
  · obtain ⟨N, y, n1, n2, n3⟩ := wish23 (M := M) (d := d) (t := t) hc hw hv c st ws ht hd (fun k hk h1 => absurd (fb_ct_pos.mpr ⟨k, hk, decide_eq_true h1⟩) e)
    refine ⟨N, y, ?_, n2, n3⟩
    rw [decide_eq_false e, if_pos (by decide)]
    exact n1
