/-! guard -/
def thB (C : Cal) (a b t : Nat) : Bool := hb (cW C a) (cD C a) (t : Int) && !hb (cW C b) (cD C b) (t : Int)
def wP (C : Cal) (a b w t0 : Nat) : Prop := w ∣ Nat.lcm (cW C a) (cW C b) ∧ t0 < Nat.lcm (cW C a) (cW C b) ∧ thB C a b t0 = true ∧ ∀ t, t < Nat.lcm (cW C a) (cW C b) → thB C a b t = true → t % w = t0 % w
theorem hbN {w d t : Nat} : hb w d (t : Int) = decide (t % w = d) := by
  unfold hb
  refine decide_eq_decide.mpr ?_
  rw [← Int.natCast_emod]
  omega
theorem watch_s {M : PM} {C : Cal} {a b w : Nat} (hc : WFC C) (c : CalC M C) (ha : a < cN C) (hb2 : b < cN C) (hw : 2 ≤ w ∧ w ≤ 24) : ∃ r, F_X2_watchDay_4 M (zi a) (zi b) (zi w) = rI (zi r) M ∧ ((∃ t0, wP C a b w t0 ∧ r = ((t0 % w : Nat) : Int)) ∨ (r = -1 ∧ ∀ t0, ¬ wP C a b w t0)) := by
  have hn := hc.1.1
  have w1 := hc.2.1 a ha
  have w2 := hc.2.1 b hb2
  have hl := lcm24 (a := cW C a) (b := cW C b) (by omega) (by omega)
  have hlp : 0 < Nat.lcm (cW C a) (cW C b) := Nat.lcm_pos (by omega) (by omega)
  have b1 := weekOf_t c.1.1 hn c.1.2.1 ha
  have b2 := weekOf_t c.1.1 hn c.1.2.1 hb2
  have b3 := commonTurn_s (M := M) (a := cW C a) (b := cW C b) (by omega) (by omega)
  have b4 := left_s (M := M) (a := (Nat.lcm (cW C a) (cW C b) : Int)) (b := (w : Int)) (by omega) (by omega)
  have b5 := dayOf_t c.1.1 hn c.1.2.2.1 ha
  have e0 : F_X2_watchDay_4 M (zi a) (zi b) (zi w) = F_X2_watchDay_4_42 FUEL M (zi a) (zi b) (zi w) (zi ((if w ∣ Nat.lcm (cW C a) (cW C b) then Nat.lcm (cW C a) (cW C b) else 0 : Nat))) (zi (-1)) (zi (cD C a)) := by
    unfold F_X2_watchDay_4
    rw [b1, cI_s, b2, cI_s, b3, cI_s, b4, cI_s]
    unfold F_X2_watchDay_4_30
    rw [b5, cI_s, cI_s, show (-1 : Int32) = zi (-1) from rfl, show (0 : Int32) = zi 0 from rfl]
    have m1 := Nat.mod_lt (Nat.lcm (cW C a) (cW C b)) (show 0 < w by omega)
    rw [show (Nat.lcm (cW C a) (cW C b) : Int) % (w : Int) = ((Nat.lcm (cW C a) (cW C b) % w : Nat) : Int) from (Int.natCast_emod _ _).symm]
    by_cases q : w ∣ Nat.lcm (cW C a) (cW C b)
    · rw [if_pos q, if_pos (by rw [Nat.mod_eq_zero_of_dvd q]; rfl)]
    · have : Nat.lcm (cW C a) (cW C b) % w ≠ 0 := fun e => q (Nat.dvd_of_mod_eq_zero e)
      rw [if_neg q, if_neg (by rw [zi_eq (by omega) (by omega)]; omega)]
      rfl
  rw [e0]
  by_cases q : w ∣ Nat.lcm (cW C a) (cW C b)
  · rw [if_pos q]
    have hAt : ∀ t : Nat, hb (cW C a) (cD C a) (t : Int) = true → t = cD C a + cW C a * (t / cW C a) := fun t ht => by
      rw [hbN] at ht
      have h1 : t % cW C a = cD C a := of_decide_eq_true ht
      have h2 := Nat.mod_add_div t (cW C a)
      omega
    have hAt2 : ∀ s : Nat, hb (cW C a) (cD C a) ((cD C a + cW C a * s : Nat) : Int) = true := fun s => by
      rw [hbN]
      refine decide_eq_true ?_
      rw [Nat.add_mul_mod_self_left, Nat.mod_eq_of_lt w1.2]
    generalize hm : Nat.lcm (cW C a) (cW C b) = m at *
    refine loopS (σ := Nat × Int) (fun f s => F_X2_watchDay_4_42 f M (zi a) (zi b) (zi w) (zi m) (zi s.2) (zi ((cD C a + cW C a * s.1 : Nat)))) (fun o => ∃ r, o = rI (zi r) M ∧ ((∃ t0, wP C a b w t0 ∧ r = ((t0 % w : Nat) : Int)) ∨ (r = -1 ∧ ∀ t0, ¬ wP C a b w t0))) (fun r s => r = m + 100 - s.1 ∧ cD C a + cW C a * s.1 < m + 100 ∧ ((s.2 = -1 ∧ ∀ j, j < s.1 → thB C a b (cD C a + cW C a * j) = false) ∨ (∃ t0, t0 < m ∧ thB C a b t0 = true ∧ s.2 = ((t0 % w : Nat) : Int) ∧ ∀ j, j < s.1 → thB C a b (cD C a + cW C a * j) = true → (cD C a + cW C a * j) % w = t0 % w))) ?_ (m + 100) (0, -1) FUEL ⟨by show m + 100 = m + 100 - 0; omega, by show cD C a + cW C a * 0 < m + 100; omega, Or.inl ⟨rfl, fun j hj => absurd hj (Nat.not_lt_zero j)⟩⟩ (FUEL_gt (by omega))
    rintro f r ⟨s, v⟩ ⟨i1, i2, i3⟩
    simp only at i1 i2 i3
    have hsm : s < m + 100 := by
      have : 2 * s ≤ cW C a * s := Nat.mul_le_mul_right s w1.1.1
      omega
    have hvr : -1 ≤ v ∧ v < 24 := by
      rcases i3 with ⟨e, -⟩ | ⟨t0, -, -, e, -⟩
      · omega
      · have := Nat.mod_lt t0 (show 0 < w by omega)
        omega
    have hidx : ∀ t : Nat, t < cD C a + cW C a * s → hb (cW C a) (cD C a) (t : Int) = true → t / cW C a < s := fun t h1 h2 => by
      have h3 := hAt t h2
      rcases Nat.lt_or_ge (t / cW C a) s with h4 | h4
      · exact h4
      · have : cW C a * s ≤ cW C a * (t / cW C a) := Nat.mul_le_mul_left _ h4
        omega
    show (∃ r, F_X2_watchDay_4_42 (f + 1) M (zi a) (zi b) (zi w) (zi m) (zi v) (zi ((cD C a + cW C a * s : Nat))) = rI (zi r) M ∧ _) ∨ _
    by_cases q1 : m ≤ cD C a + cW C a * s
    · left
      refine ⟨v, ?_, ?_⟩
      · rw [F_X2_watchDay_4_42, if_pos (by rw [zi_le (by omega) (by omega)]; omega)]
      · have all : ∀ t : Nat, t < m → thB C a b t = true → ∃ j, j < s ∧ t = cD C a + cW C a * j := fun t h1 h2 => by
          have h3 : hb (cW C a) (cD C a) (t : Int) = true := by
            unfold thB at h2
            cases hq : hb (cW C a) (cD C a) (t : Int)
            · rw [hq, Bool.false_and] at h2; exact absurd h2 (by decide)
            · rfl
          exact ⟨t / cW C a, hidx t (by omega) h3, hAt t h3⟩
        rcases i3 with ⟨e, h9⟩ | ⟨t0, g1, g2, g3, g4⟩
        · right
          refine ⟨e, fun t0 ht0 => ?_⟩
          unfold wP at ht0
          rw [hm] at ht0
          obtain ⟨j, j1, j2⟩ := all t0 ht0.2.1 ht0.2.2.1
          have := h9 j j1
          rw [← j2, ht0.2.2.1] at this
          exact absurd this (by decide)
        · left
          refine ⟨t0, ?_, g3⟩
          unfold wP
          rw [hm]
          refine ⟨q, g1, g2, fun t h1 h2 => ?_⟩
          obtain ⟨j, j1, j2⟩ := all t h1 h2
          have := g4 j j1 (by rw [← j2]; exact h2)
          rw [← j2] at this
          exact this
    · have hheld := isHeld_s c.1.1 hn c.1.2.1 c.1.2.2.1 hc.2.1 hb2 (t := ((cD C a + cW C a * s : Nat) : Int)) (by omega)
      have hleft := left_s (M := M) (a := ((cD C a + cW C a * s : Nat) : Int)) (b := (w : Int)) (by omega) (by omega)
      rw [show ((cD C a + cW C a * s : Nat) : Int) % (w : Int) = (((cD C a + cW C a * s) % w : Nat) : Int) from (Int.natCast_emod _ _).symm] at hleft
      have hml := Nat.mod_lt (cD C a + cW C a * s) (show 0 < w by omega)
      have hth : thB C a b (cD C a + cW C a * s) = !hb (cW C b) (cD C b) ((cD C a + cW C a * s : Nat) : Int) := by unfold thB; rw [hAt2 s, Bool.true_and]
      have tail : ∀ v', F_X2_watchDay_4_86 (F_X2_watchDay_4_42 f) M (zi a) (zi b) (zi w) (zi m) v' (zi ((cD C a + cW C a * s : Nat))) = F_X2_watchDay_4_42 f M (zi a) (zi b) (zi w) (zi m) v' (zi ((cD C a + cW C a * (s + 1) : Nat))) := fun v' => by
        unfold F_X2_watchDay_4_86 F_J9_max_7cf53
        rw [b1, cI_s, if_neg (by rw [show (1 : Int32) = zi 1 from rfl, zi_lt (by omega) (by omega)]; omega), cI_s, lt_z, zi_add, zc (show ((cD C a + cW C a * s : Nat) : Int) + (cW C a : Int) = ((cD C a + cW C a * (s + 1) : Nat) : Int) by rw [Nat.mul_succ]; omega)]
      have hms : cW C a * (s + 1) = cW C a * s + cW C a := Nat.mul_succ _ _
      rw [F_X2_watchDay_4_42, if_neg (by rw [zi_le (by omega) (by omega)]; omega), hheld, cI_s]
      cases hq : hb (cW C b) (cD C b) ((cD C a + cW C a * s : Nat) : Int) with
      | true =>
        right
        rw [hq] at hth
        refine ⟨m + 100 - (s + 1), (s + 1, v), by omega, ⟨rfl, by show cD C a + cW C a * (s + 1) < m + 100; omega, ?_⟩, ?_⟩
        · rcases i3 with ⟨e, h9⟩ | ⟨t0, g1, g2, g3, g4⟩
          · refine Or.inl ⟨e, fun j hj => ?_⟩
            have hj2 : j < s + 1 := hj
            by_cases q2 : j = s
            · rw [q2]; exact hth
            · exact h9 j (by omega)
          · refine Or.inr ⟨t0, g1, g2, g3, fun j hj hj3 => ?_⟩
            have hj2 : j < s + 1 := hj
            by_cases q2 : j = s
            · rw [q2, hth] at hj3; exact absurd hj3 (by decide)
            · exact g4 j (by omega) hj3
        · rw [if_neg (by decide)]
          exact tail _
      | false =>
        rw [hq] at hth
        rw [if_pos (by decide), hleft, cI_s]
        unfold F_X2_watchDay_4_82
        rcases i3 with ⟨e, h9⟩ | ⟨t0, g1, g2, g3, g4⟩
        · right
          refine ⟨m + 100 - (s + 1), (s + 1, (((cD C a + cW C a * s) % w : Nat) : Int)), by omega, ⟨rfl, by show cD C a + cW C a * (s + 1) < m + 100; omega, Or.inr ⟨cD C a + cW C a * s, by omega, hth, rfl, fun j hj hj3 => ?_⟩⟩, ?_⟩
          · have hj2 : j < s + 1 := hj
            by_cases q2 : j = s
            · rw [q2]
            · rw [h9 j (by omega)] at hj3; exact absurd hj3 (by decide)
          · rw [if_pos (by rw [e]; rfl)]
            exact tail _
        · have hne : ¬ zi v = -1 := by rw [show (-1 : Int32) = zi (-1) from rfl, zi_eq (by omega) (by omega)]; omega
          rw [if_neg hne]
          by_cases q3 : t0 % w = (cD C a + cW C a * s) % w
          · right
            refine ⟨m + 100 - (s + 1), (s + 1, (((cD C a + cW C a * s) % w : Nat) : Int)), by omega, ⟨rfl, by show cD C a + cW C a * (s + 1) < m + 100; omega, Or.inr ⟨t0, g1, g2, by show (((cD C a + cW C a * s) % w : Nat) : Int) = _; rw [q3], fun j hj hj3 => ?_⟩⟩, ?_⟩
            · have hj2 : j < s + 1 := hj
              by_cases q2 : j = s
              · rw [q2, q3]
              · exact g4 j (by omega) hj3
            · rw [if_pos (by rw [g3, q3])]
              exact tail _
          · left
            refine ⟨-1, ?_, Or.inr ⟨rfl, fun t1 ht1 => ?_⟩⟩
            · rw [if_neg (by rw [zi_eq (by omega) (by omega)]; omega)]
              rfl
            · unfold wP at ht1
              rw [hm] at ht1
              have y1 := ht1.2.2.2 t0 g1 g2
              have y2 := ht1.2.2.2 (cD C a + cW C a * s) (by omega) hth
              omega
  · rw [if_neg q]
    obtain ⟨g, hg⟩ : ∃ g, FUEL = g + 1 := ⟨4294967295, rfl⟩
    refine ⟨-1, ?_, Or.inr ⟨rfl, fun t0 ht0 => q ht0.1⟩⟩
    rw [hg, F_X2_watchDay_4_42, if_pos (by rw [show zi ((0 : Nat) : Int) = zi 0 from rfl, zi_le (by omega) (by omega)]; omega)]
