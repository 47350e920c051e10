/-! calendar: the end of reading -/
theorem t5_cp {C : Cal} {A : Nat → Nat → Nat} (hw : WFD C A) : (cpT (cpT 1 (cW C) (cN C)) (oW C) (oN C) ≤ 100000 ↔ t5 C ≤ 100000) ∧ (t5 C ≤ 100000 → cpT 1 (cW C) (cN C) = t4 C ∧ cpT (cpT 1 (cW C) (cN C)) (oW C) (oN C) = t5 C) ∧ (0 < cpT 1 (cW C) (cN C) ∧ cpT 1 (cW C) (cN C) ≤ 2400000) := by
  have hW : ∀ i, i < cN C → 1 ≤ cW C i ∧ cW C i ≤ 24 := fun i hi => by have := (hw.2.1 i hi).1; omega
  have hO : ∀ i, i < oN C → 1 ≤ oW C i ∧ oW C i ≤ 24 := fun i hi => by have := (hw.2.2.1 i hi).1; omega
  have r4 := cpT_rng (x := 1) (W := cW C) (by decide) hW (cN C) (Nat.le_refl _)
  have s4 := cpT_s (x := 1) (W := cW C) (by decide) hW (cN C) (Nat.le_refl _)
  have t4p : 0 < t4 C := lcs_pos (by decide) (fun j hj => (hW j hj).1)
  have m45 : t4 C ≤ t5 C := Nat.le_of_dvd (lcs_pos t4p (fun j hj => (hO j hj).1)) (lcs_base _ _ _ _)
  have mT : cpT 1 (cW C) (cN C) ≤ cpT (cpT 1 (cW C) (cN C)) (oW C) (oN C) ∨ True := Or.inr trivial
  have big : 100000 < cpT 1 (cW C) (cN C) → ∀ k, cpT (cpT 1 (cW C) (cN C)) (oW C) k = cpT 1 (cW C) (cN C) := fun q k => by
    induction k with
    | zero => rfl
    | succ k ih => rw [cpT, ih, if_pos q]
  by_cases q : 100000 < cpT 1 (cW C) (cN C)
  · have nt : ¬ t5 C ≤ 100000 := fun h => by
      have : cpT 1 (cW C) (cN C) = t4 C := s4 (Or.inr (by show lcs 1 (fun _ => true) (cW C) (cN C) ≤ 100000; have : lcs 1 (fun _ => true) (cW C) (cN C) = t4 C := rfl; omega))
      omega
    rw [big q]
    exact ⟨⟨fun h => by omega, fun h => absurd h nt⟩, fun h => absurd h nt, r4⟩
  · have e4 : cpT 1 (cW C) (cN C) = t4 C := s4 (Or.inl (by omega))
    rw [e4] at r4 ⊢
    have s5 := cpT_s (x := t4 C) (W := oW C) t4p hO (oN C) (Nat.le_refl _)
    have e5 : lcs (t4 C) (fun _ => true) (oW C) (oN C) = t5 C := rfl
    rw [e5] at s5
    exact ⟨⟨fun h => by rw [← s5 (Or.inl h)]; exact h, fun h => by rw [s5 (Or.inr h)]; exact h⟩, fun h => ⟨rfl, s5 (Or.inr h)⟩, r4⟩
/-- fault and place at the end -/
def fin1 (b : Nat → Nat) (n : Nat) : Int := if (rdo b n (rdK b n)).1 ≠ 0 then (rdo b n (rdK b n)).1 else if t5 (rdo b n (rdK b n)).2.2.2.1 ≤ 100000 then 0 else 4
def fin2 (b : Nat → Nat) (n : Nat) : Int := if (rdo b n (rdK b n)).1 ≠ 0 then (rdo b n (rdK b n)).2.1 else if t5 (rdo b n (rdK b n)).2.2.2.1 ≤ 100000 then -1 else (n : Int)
theorem read94 {b : Nat → Nat} {M : PM} {n : Nat} {o : Out} {f1 f2 : Int} (h : StF b n M o) (h1 : f1 = if o.1 ≠ 0 then o.1 else if t5 o.2.2.2.1 ≤ 100000 then 0 else 4) (h2 : f2 = if o.1 ≠ 0 then o.2.1 else if t5 o.2.2.2.1 ≤ 100000 then -1 else (n : Int)) : ∃ M', F_X0_read_29_1_94 M = rV M' ∧ Sam0 M M' ∧ mI M' 1 5 = zi f1 ∧ mI M' 1 6 = zi f2 ∧ (0 ≤ f1 ∧ f1 ≤ 4) ∧ (f1 = 0 → DC M' o.2.2.2.1 o.2.2.2.2 ∧ WFD o.2.2.2.1 o.2.2.2.2 ∧ mI M' 29 6 = zi (t4 o.2.2.2.1) ∧ mI M' 29 7 = zi (t5 o.2.2.2.1) ∧ t5 o.2.2.2.1 ≤ 100000) := by
  have gen : ∀ (C : Cal) (A : Nat → Nat → Nat) (p s : Nat) (f g : Int), TC b M n p s f g → DC M C A → WFD C A → ∃ M', F_X0_read_29_1_94 M = rV M' ∧ Sam0 M M' ∧ mI M' 1 5 = zi (if f = 0 ∧ ¬ t5 C ≤ 100000 then 4 else f) ∧ mI M' 1 6 = zi (if f = 0 ∧ ¬ t5 C ≤ 100000 then (n : Int) else g) ∧ DC M' C A ∧ (t5 C ≤ 100000 → mI M' 29 6 = zi (t4 C) ∧ mI M' 29 7 = zi (t5 C)) := fun C A p s f g t hd hw => by
    obtain ⟨c1, c2, c3⟩ := t5_cp hw
    have hW : ∀ i, i < cN C → mA M 31 i = zi (cW C i) ∧ 1 ≤ cW C i ∧ cW C i ≤ 24 := fun i hi => ⟨(hd.2.1 i hi).1, by have := (hw.2.1 i hi).1; omega⟩
    have hO : ∀ i, i < oN C → 1 ≤ oW C i ∧ oW C i ≤ 24 := fun i hi => by have := (hw.2.2.1 i hi).1; omega
    have e30 := turn30 (x := 1) hd.1.1 hw.1.1 (by decide) hW
    generalize hv4 : cpT 1 (cW C) (cN C) = v4 at *
    have e35 := turn35 (M := sI M 29 6 (zi v4)) (m := oN C) (W := oW C) (x := v4) ((rI_ne (by decide)).trans hd.1.2.1) hw.1.2.1 c3 (fun i hi => ⟨(hd.2.2.1 i hi).1, hO i hi⟩)
    have r5 := cpT_rng (x := v4) (W := oW C) c3 hO (oN C) (Nat.le_refl _)
    generalize hv5 : cpT v4 (oW C) (oN C) = v5 at *
    have d6 : DC (sI (sI M 29 6 (zi v4)) 29 7 (zi v5)) C A := by
      obtain ⟨h1, h2, h3, h4, h5⟩ := hd
      exact ⟨⟨((rI_ne (by decide)).trans (rI_ne (by decide))).trans h1.1, ((rI_ne (by decide)).trans (rI_ne (by decide))).trans h1.2.1, ((rI_nk (by decide)).trans (rI_nk (by decide))).trans h1.2.2.1, ((rI_nk (by decide)).trans (rI_nk (by decide))).trans h1.2.2.2⟩, h2, h3, h4, h5⟩
    have t6 : TC b (sI (sI M 29 6 (zi v4)) 29 7 (zi v5)) n p s f g := t.kp (fun k _ _ => (rI_ne (by decide)).trans (rI_ne (by decide))) rfl
    have m6 : mI (sI (sI M 29 6 (zi v4)) 29 7 (zi v5)) 29 6 = zi v4 := (rI_nk (by decide)).trans rI_at
    have m7 : mI (sI (sI M 29 6 (zi v4)) 29 7 (zi v5)) 29 7 = zi v5 := rI_at
    have sm : Sam0 M (sI (sI M 29 6 (zi v4)) 29 7 (zi v5)) := (Sam.i 29 7 _ (by decide) (Sam.i 29 6 _ (by decide) Sam.rf)).1
    have e30' : F_X2_turnWith_30 M (zi ((2 ^ cN C - 1 : Nat))) 1 = rI (zi v4) M := e30
    unfold F_X0_read_29_1_94 F_X10_all
    rw [cI_s, hd.1.1, all12 hw.1.1, e30', cI_s, cI_s, show mI (sI M 29 6 (zi v4)) 35 4 = zi (oN C) from (rI_ne (by decide)).trans hd.1.2.1, all12 (by have := hw.1.2.1; omega), show mI (sI M 29 6 (zi v4)) 29 6 = zi v4 from rI_at, e35, cI_s, m7]
    by_cases q : t5 C ≤ 100000
    · obtain ⟨g4, g5⟩ := c2 q
      rw [if_pos (by rw [show (100000 : Int32) = zi 100000 from rfl, zi_le (by omega) (by omega)]; have := c1.mpr q; omega), if_neg (fun u => u.2 q), if_neg (fun u => u.2 q)]
      exact ⟨_, rfl, sm, t6.2.2.2.1, t6.2.2.2.2.1, d6, fun _ => ⟨by rw [m6, g4], by rw [m7, g5]⟩⟩
    · obtain ⟨M2, b1, b2, b3⟩ := blame_c (x := 4) (y := (n : Int)) t6 (by decide)
      rw [if_neg (by rw [show (100000 : Int32) = zi 100000 from rfl, zi_le (by omega) (by omega)]; intro u; exact q (c1.mp (by omega))), t6.1, show (4 : Int32) = zi 4 from rfl, b1, cV_s]
      refine ⟨M2, rfl, sm.tr b3.sam, ?_, ?_, d6.kt b3, fun u => absurd u q⟩
      · rw [b2.2.2.2.1]
        by_cases q2 : f = 0
        · rw [if_pos q2, if_pos ⟨q2, q⟩]
        · rw [if_neg q2, if_neg (fun u => q2 u.1)]
      · rw [b2.2.2.2.2.1]
        by_cases q2 : f = 0
        · rw [if_pos q2, if_pos ⟨q2, q⟩]
        · rw [if_neg q2, if_neg (fun u => q2 u.1)]
  rcases h with ⟨u1, ⟨p, s, u2⟩, u3, u4⟩ | ⟨u1, ⟨p, s, u2⟩, C, A, u3, u4⟩
  · obtain ⟨M', a1, a2, a3, a4, a5, a6⟩ := gen _ _ p s 0 (-1) u2 u3 u4
    rw [if_neg (fun w => w u1)] at h1 h2
    by_cases q : t5 o.2.2.2.1 ≤ 100000
    · rw [if_pos q] at h1 h2
      rw [if_neg (fun w => w.2 q)] at a3 a4
      exact ⟨M', a1, a2, by rw [h1]; exact a3, by rw [h2]; exact a4, by omega, fun _ => ⟨a5, u4, (a6 q).1, (a6 q).2, q⟩⟩
    · rw [if_neg q] at h1 h2
      rw [if_pos ⟨rfl, q⟩] at a3 a4
      exact ⟨M', a1, a2, by rw [h1]; exact a3, by rw [h2]; exact a4, by omega, fun w => by omega⟩
  · obtain ⟨M', a1, a2, a3, a4, a5, a6⟩ := gen C A p s _ _ u2 u3 u4
    have hf := u2.2.2.2.2.2.2.2.2.1
    rw [if_pos u1] at h1 h2
    rw [if_neg (fun w => u1 w.1)] at a3 a4
    exact ⟨M', a1, a2, by rw [h1]; exact a3, by rw [h2]; exact a4, by omega, fun w => absurd (h1.symm.trans w) u1⟩
theorem read_c {b : Nat → Nat} {M : PM} {n s : Nat} (h : TC b M n 0 s 0 (-1)) : ∃ M', F_X0_read_29_1 M = rV M' ∧ Sam0 M M' ∧ mI M' 1 5 = zi (fin1 b n) ∧ mI M' 1 6 = zi (fin2 b n) ∧ (0 ≤ fin1 b n ∧ fin1 b n ≤ 4) ∧ (fin1 b n = 0 → DC M' (rdo b n (rdK b n)).2.2.2.1 (rdo b n (rdK b n)).2.2.2.2 ∧ WFD (rdo b n (rdK b n)).2.2.2.1 (rdo b n (rdK b n)).2.2.2.2 ∧ mI M' 29 6 = zi (t4 (rdo b n (rdK b n)).2.2.2.1) ∧ mI M' 29 7 = zi (t5 (rdo b n (rdK b n)).2.2.2.1) ∧ t5 (rdo b n (rdK b n)).2.2.2.1 ≤ 100000) ∧ ∀ k, k ≤ rdK b n → (rdo b n k).1 = 0 → WFD (rdo b n k).2.2.2.1 (rdo b n k).2.2.2.2 ∧ (rdo b n k).2.2.1 ≤ n := by
  unfold F_X0_read_29_1
  have sm0 : Sam0 M (sI (sI (sI (sI M 30 4 0) 35 4 0) 29 4 0) 29 5 0) := (Sam.i 29 5 _ (by decide) (Sam.i 29 4 _ (by decide) (Sam.i 35 4 _ (by decide) (Sam.i 30 4 _ (by decide) Sam.rf)))).1
  have t0 : TC b (sI (sI (sI (sI M 30 4 0) 35 4 0) 29 4 0) 29 5 0) n 0 s 0 (-1) := h.kp (fun k _ _ => (rI_ne (by decide)).trans ((rI_ne (by decide)).trans ((rI_ne (by decide)).trans (rI_ne (by decide))))) rfl
  have z0 : mI (sI (sI (sI (sI M 30 4 0) 35 4 0) 29 4 0) 29 5 0) 30 4 = zi 0 := (rI_ne (by decide)).trans ((rI_ne (by decide)).trans ((rI_ne (by decide)).trans rI_at))
  have z1 : mI (sI (sI (sI (sI M 30 4 0) 35 4 0) 29 4 0) 29 5 0) 35 4 = zi 0 := (rI_ne (by decide)).trans ((rI_ne (by decide)).trans rI_at)
  have z2 : mI (sI (sI (sI (sI M 30 4 0) 35 4 0) 29 4 0) 29 5 0) 29 4 = zi 0 := (rI_nk (by decide)).trans rI_at
  have z3 : mI (sI (sI (sI (sI M 30 4 0) 35 4 0) 29 4 0) 29 5 0) 29 5 = zi 0 := rI_at
  generalize sI (sI (sI (sI M 30 4 0) 35 4 0) 29 4 0) 29 5 0 = M0 at *
  have l28 : ∃ M1, F_X0_read_29_1_28 FUEL M0 (zi ((0 : Nat) : Int)) = F_X0_read_29_1_52 FUEL M1 0 ∧ Sam0 M0 M1 ∧ M1.1 = M0.1 ∧ M1.2.2.1 2 = M0.2.2.1 2 ∧ ∀ i, i < 120 → mA M1 40 i = zi 0 := by
    refine loopS (σ := PM × Nat) (fun f q => F_X0_read_29_1_28 f q.1 (zi (q.2 : Nat))) (fun o => ∃ M1, o = F_X0_read_29_1_52 FUEL M1 0 ∧ Sam0 M0 M1 ∧ M1.1 = M0.1 ∧ M1.2.2.1 2 = M0.2.2.1 2 ∧ ∀ i, i < 120 → mA M1 40 i = zi 0) (fun r q => r = 120 - q.2 ∧ q.2 ≤ 120 ∧ Sam0 M0 q.1 ∧ q.1.1 = M0.1 ∧ q.1.2.2.1 2 = M0.2.2.1 2 ∧ ∀ i, i < q.2 → mA q.1 40 i = zi 0) ?_ 120 (M0, 0) FUEL ⟨rfl, Nat.zero_le _, Sam0.rf, rfl, rfl, fun i hi => absurd hi (Nat.not_lt_zero i)⟩ (FUEL_gt (by omega))
    rintro f r ⟨M1, i⟩ ⟨i1, i2, i3, i4, i5, i6⟩
    simp only at i1 i2 i3 i4 i5 i6
    show (∃ M2, F_X0_read_29_1_28 (f + 1) M1 (zi (i : Nat)) = _ ∧ _) ∨ _
    rw [F_X0_read_29_1_28]
    by_cases q : i = 120
    · left
      exact ⟨M1, by rw [if_pos (by rw [q]; decide)], i3, i4, i5, fun j hj => i6 j (by omega)⟩
    · right
      refine ⟨120 - (i + 1), (sA M1 40 i (zi 0), i + 1), by omega, ⟨rfl, by show i + 1 ≤ 120; omega, i3.tr (Sam.a 40 i _ (by decide) Sam.rf).1, i4, (rA_ne (by decide) : (sA M1 40 i (zi 0)).2.2.1 2 = M1.2.2.1 2).trans i5, fun j hj => ?_⟩, ?_⟩
      · have hj' : j < i + 1 := hj
        by_cases q2 : j = i
        · rw [q2]; exact rA_at
        · exact (rA_nk q2).trans (i6 j (by omega))
      · rw [if_neg (by rw [show (120 : Int32) = zi 120 from rfl, zi_le (by omega) (by omega)]; omega), if_pos (zi_ixT (by omega) (by omega)), zi_natN (by omega), show (1 : Int32) = zi 1 from rfl, zi_add, lt_z, zc (show (i : Int) + 1 = ((i + 1 : Nat) : Int) by omega)]
        rfl
  obtain ⟨M1, l1, l2, l3, l4, l5⟩ := l28
  have d1 : DC M1 C00 A00 := ⟨⟨by rw [mI, l3]; exact z0, by rw [mI, l3]; exact z1, by rw [mI, l3]; exact z2, by rw [mI, l3]; exact z3⟩, fun l hl => absurd hl (Nat.not_lt_zero l), fun l hl => absurd hl (Nat.not_lt_zero l), fun l hl => absurd hl (Nat.not_lt_zero l), fun h' l a1 a2 => l5 _ (by omega)⟩
  have t1 : TC b M1 n 0 s 0 (-1) := t0.kp (fun k _ _ => by rw [l3]) l4
  obtain ⟨M2, r1, r2, r3, r4⟩ := read52 t1 d1
  obtain ⟨M3, e1, e2, e3, e4, e5, e6⟩ := read94 (f1 := fin1 b n) (f2 := fin2 b n) r3 rfl rfl
  have l1' : F_X0_read_29_1_28 FUEL M0 0 = F_X0_read_29_1_52 FUEL M1 0 := l1
  rw [l1', r1, e1]
  exact ⟨M3, rfl, ((sm0.tr l2).tr r2).tr e2, e3, e4, e5, e6, r4⟩
