/-! calendar: the case -/
theorem Rel_ft {M M1 : PM} (hR : Rel M) (i : ∀ p ∈ kIl, p ∉ [(1, 1), (99, 1), (0, 13), (99, 3)] → M1.1 p.1 p.2 = M.1 p.1 p.2) (a : ∀ q ∈ kAl, M1.2.2.1 q = M.2.2.1 q) (b : ∀ q ∈ kBl, M1.2.2.2.1 q = M.2.2.2.1 q) (g : ∀ q ∈ kGl, ∀ i, M1.2.2.2.2 q i = M.2.2.2.2 q i) (t1 : mI M1 1 1 = zi 0) (t2 : mI M1 99 1 = zi 0) (t3 : mI M1 0 13 = mI M1 99 3) : Rel M1 := by
  have hx : Sam0 M (sI (sI (sI (sI M1 1 1 (M.1 1 1)) 99 1 (M.1 99 1)) 0 13 (M.1 0 13)) 99 3 (M.1 99 3)) := by
    refine ⟨fun p hp => ?_, a, b, g⟩
    obtain ⟨p1, p2⟩ := p
    show (sI (sI (sI (sI M1 1 1 (M.1 1 1)) 99 1 (M.1 99 1)) 0 13 (M.1 0 13)) 99 3 (M.1 99 3)).1 p1 p2 = M.1 p1 p2
    by_cases q4 : p1 = 99 ∧ p2 = 3
    · obtain ⟨rfl, rfl⟩ := q4; exact rI_at
    · rw [show (sI (sI (sI (sI M1 1 1 (M.1 1 1)) 99 1 (M.1 99 1)) 0 13 (M.1 0 13)) 99 3 (M.1 99 3)).1 p1 p2 = (sI (sI (sI M1 1 1 (M.1 1 1)) 99 1 (M.1 99 1)) 0 13 (M.1 0 13)).1 p1 p2 from u2_ne q4]
      by_cases q3 : p1 = 0 ∧ p2 = 13
      · obtain ⟨rfl, rfl⟩ := q3; exact rI_at
      · rw [show (sI (sI (sI M1 1 1 (M.1 1 1)) 99 1 (M.1 99 1)) 0 13 (M.1 0 13)).1 p1 p2 = (sI (sI M1 1 1 (M.1 1 1)) 99 1 (M.1 99 1)).1 p1 p2 from u2_ne q3]
        by_cases q2 : p1 = 99 ∧ p2 = 1
        · obtain ⟨rfl, rfl⟩ := q2; exact rI_at
        · rw [show (sI (sI M1 1 1 (M.1 1 1)) 99 1 (M.1 99 1)).1 p1 p2 = (sI M1 1 1 (M.1 1 1)).1 p1 p2 from u2_ne q2]
          by_cases q1 : p1 = 1 ∧ p2 = 1
          · obtain ⟨rfl, rfl⟩ := q1; exact rI_at
          · rw [show (sI M1 1 1 (M.1 1 1)).1 p1 p2 = M1.1 p1 p2 from u2_ne q1]
            exact i (p1, p2) hp (fun e => by
              simp only [List.mem_cons, Prod.mk.injEq, List.mem_nil_iff, or_false] at e
              rcases e with e | e | e | e
              · exact q1 e
              · exact q2 e
              · exact q3 e
              · exact q4 e)
  obtain ⟨C, S, W, h1, h2, h3, h4, h5, h6, h7, h8, h9, ⟨n, j1, j2, j3, j4⟩, h11, h12⟩ := hR.sm hx
  refine ⟨C, S, W, h1, h2, h3, h4, h5, h6, h7, h8, h9, ⟨n, j1, j2, j3, fun r hr => ?_⟩, ⟨0, fun _ => 0, by decide, t1, t2, fun i hi => absurd hi (Nat.not_lt_zero i)⟩, ⟨t3, h12.2.1, h12.2.2.1, h12.2.2.2⟩⟩
  obtain ⟨S', s1, s2, s3⟩ := j4 r hr
  refine ⟨S', s1, ?_, s3⟩
  have hr3 : r = 0 ∨ r = 1 ∨ r = 2 := by omega
  rcases hr3 with rfl | rfl | rfl
  · exact s2
  · exact s2
  · exact s2
theorem open_c {M : PM} {b : Nat → Nat} {n t : Nat} (h1 : mI M 1 1 = zi t) (hn : n ≤ t) (ht : t ≤ 500) (hb : ∀ i, i < t → mA M 2 i = zi (b i) ∧ b i < 256) : ∃ M', F_X4_open_1 M (zi n) = rV M' ∧ TC b M' n 0 0 0 (-1) ∧ Sam0 M M' := by
  unfold F_X4_open_1
  rw [h1, minN (by omega) (by omega), cI_s, Nat.min_eq_left hn]
  refine ⟨_, rfl, ⟨?_, ?_, ?_, ?_, ?_, Nat.zero_le _, by omega, by decide, by decide, fun i hi => hb i (by omega)⟩, (Sam.i 1 6 _ (by decide) (Sam.i 1 5 _ (by decide) (Sam.i 1 4 _ (by decide) (Sam.i 1 3 _ (by decide) (Sam.i 1 2 _ (by decide) Sam.rf))))).1⟩
  · exact (rI_nk (by decide)).trans ((rI_nk (by decide)).trans ((rI_nk (by decide)).trans ((rI_nk (by decide)).trans rI_at)))
  · exact (rI_nk (by decide)).trans ((rI_nk (by decide)).trans ((rI_nk (by decide)).trans rI_at))
  · exact (rI_nk (by decide)).trans ((rI_nk (by decide)).trans rI_at)
  · exact (rI_nk (by decide)).trans rI_at
  · exact rI_at
theorem starts_m {M : PM} {b : Nat → Nat} {n : Nat} (hn : n ≤ 500) (hb : ∀ i, i < n → mA M 100 i = zi (b i) ∧ b i < 256) : ∃ M', F_X11_starts_99 M (zi n) = rV M' ∧ TM b M' n (sb b n 0) 0 (-1) ∧ mI M' 99 7 = zi 0 ∧ mI M' 99 1 = zi 0 ∧ M'.2 = M.2 ∧ (∀ q k, q ≠ 99 → M'.1 q k = M.1 q k) ∧ (∀ k, k ≠ 1 → k ≠ 2 → k ≠ 4 → k ≠ 5 → k ≠ 6 → k ≠ 7 → M'.1 99 k = M.1 99 k) := by
  unfold F_X11_starts_99
  have t0 : TM b (sI (sI (sI (sI (sI (sI M 99 1 0) 99 2 (zi n)) 99 4 0) 99 5 0) 99 6 (-1)) 99 7 0) n 0 0 (-1) := ⟨(rI_nk (by decide)).trans ((rI_nk (by decide)).trans ((rI_nk (by decide)).trans ((rI_nk (by decide)).trans rI_at))), (rI_nk (by decide)).trans ((rI_nk (by decide)).trans ((rI_nk (by decide)).trans rI_at)), (rI_nk (by decide)).trans ((rI_nk (by decide)).trans rI_at), (rI_nk (by decide)).trans rI_at, Nat.zero_le _, hn, by decide, hb⟩
  obtain ⟨M1, m1, m2, m3⟩ := blanks_m t0
  rw [m1, cV_s]
  refine ⟨M1, rfl, m2, (m3.1 99 7 (by decide)).trans rI_at, (m3.1 99 1 (by decide)).trans ((rI_nk (by decide)).trans ((rI_nk (by decide)).trans ((rI_nk (by decide)).trans ((rI_nk (by decide)).trans ((rI_nk (by decide)).trans rI_at))))), m3.2, fun q k hq => (m3.1 q k (fun e => hq e.1)).trans ((rI_ne hq).trans ((rI_ne hq).trans ((rI_ne hq).trans ((rI_ne hq).trans ((rI_ne hq).trans (rI_ne hq)))))), fun k a1 a2 a3 a4 a5 a6 => (m3.1 99 k (by omega)).trans ((rI_nk a6).trans ((rI_nk a5).trans ((rI_nk a4).trans ((rI_nk a3).trans ((rI_nk a2).trans (rI_nk a1))))))⟩
/-- the whole of the reference's reading, from its guard on -/
theorem calM_read {M : PM} {b : Nat → Nat} {n : Nat} (hn : n ≤ 500) (hb : ∀ i, i < n → mA M 100 i = zi (b i) ∧ b i < 256) (hW : ∀ k, k ≤ rdK b n → (rdo b n k).1 = 0 → WFD (rdo b n k).2.2.2.1 (rdo b n k).2.2.2.2 ∧ (rdo b n k).2.2.1 ≤ n) : ∃ M', (cV (F_X11_starts_99 M (zi n)) fun M1082 => F_X11_calendar_99_40 FUEL M1082 0) = F_X11_calendar_99_218 M' ∧ (∀ p ∈ kIl, p ≠ (99, 1) → M'.1 p.1 p.2 = M.1 p.1 p.2) ∧ (∀ q ∈ kAl, M'.2.2.1 q = M.2.2.1 q) ∧ (∀ q ∈ kBl, M'.2.2.2.1 q = M.2.2.2.1 q) ∧ (∀ q ∈ kGl, ∀ i, M'.2.2.2.2 q i = M.2.2.2.2 q i) ∧ M'.2.2.2.1 129 = M.2.2.2.1 129 ∧ M'.1 99 0 = M.1 99 0 ∧ mI M' 99 1 = zi 0 ∧ mI M' 99 5 = zi (fin1 b n) ∧ mI M' 99 6 = zi (fin2 b n) ∧ (fin1 b n = 0 → DM M' (rdo b n (rdK b n)).2.2.2.1 (rdo b n (rdK b n)).2.2.2.2 ∧ mA M' 102 4 = zi (t4 (rdo b n (rdK b n)).2.2.2.1) ∧ mA M' 102 5 = zi (t5 (rdo b n (rdK b n)).2.2.2.1)) := by
  obtain ⟨M1, s1, s2, s3, s4, s5, s6, s7⟩ := starts_m hn hb
  rw [s1, cV_s]
  have l40 : ∃ M2, F_X11_calendar_99_40 FUEL M1 0 = F_X11_calendar_99_58 FUEL M2 ∧ SamM M1 M2 ∧ M2.1 = M1.1 ∧ M2.2.2.1 100 = M1.2.2.1 100 ∧ ∀ j, j < 4 → mA M2 102 j = zi 0 := by
    refine loopS (σ := PM × Nat) (fun f q => F_X11_calendar_99_40 f q.1 (zi (q.2 : Nat))) (fun o => ∃ M2, o = F_X11_calendar_99_58 FUEL M2 ∧ SamM M1 M2 ∧ M2.1 = M1.1 ∧ M2.2.2.1 100 = M1.2.2.1 100 ∧ ∀ j, j < 4 → mA M2 102 j = zi 0) (fun r q => r = 4 - q.2 ∧ q.2 ≤ 4 ∧ SamM M1 q.1 ∧ q.1.1 = M1.1 ∧ q.1.2.2.1 100 = M1.2.2.1 100 ∧ ∀ j, j < q.2 → mA q.1 102 j = zi 0) ?_ 4 (M1, 0) FUEL ⟨rfl, Nat.zero_le _, SamM.rf, rfl, rfl, fun j hj => absurd hj (Nat.not_lt_zero j)⟩ (FUEL_gt (by omega))
    rintro f r ⟨N, i⟩ ⟨i1, i2, i3, i4, i5, i6⟩
    simp only at i1 i2 i3 i4 i5 i6
    show (∃ M2, F_X11_calendar_99_40 (f + 1) N (zi (i : Nat)) = _ ∧ _) ∨ _
    rw [F_X11_calendar_99_40]
    by_cases q : i = 4
    · left
      exact ⟨N, by rw [if_pos (by rw [q]; decide)], i3, i4, i5, q ▸ i6⟩
    · right
      refine ⟨4 - (i + 1), (sA N 102 i (zi 0), i + 1), by omega, ⟨rfl, by show i + 1 ≤ 4; omega, i3.tr (SamM.a 102 _ _ (by decide)), i4, (rA_ne (by decide) : (sA N 102 i (zi 0)).2.2.1 100 = N.2.2.1 100).trans i5, fun j hj => ?_⟩, ?_⟩
      · have hj' : j < i + 1 := hj
        by_cases q2 : j = i
        · rw [q2]; exact rA_at
        · exact (rA_nk q2).trans (i6 j (by omega))
      · rw [if_neg (by rw [show (4 : Int32) = zi 4 from rfl, zi_le (by omega) (by omega)]; omega), if_pos (zi_ixT (by omega) (by omega)), zi_natN (by omega), show (1 : Int32) = zi 1 from rfl, zi_add, lt_z, zc (show (i : Int) + 1 = ((i + 1 : Nat) : Int) by omega)]
        rfl
  obtain ⟨M2, l1, l2, l3, l4, l5⟩ := l40
  have d2 : DM M2 C00 A00 := ⟨⟨l5 0 (by decide), l5 1 (by decide), l5 2 (by decide), l5 3 (by decide)⟩, fun l hl => absurd hl (Nat.not_lt_zero l), fun l hl => absurd hl (Nat.not_lt_zero l), fun l hl => absurd hl (Nat.not_lt_zero l), fun h l hh => absurd hh (Nat.not_lt_zero h)⟩
  obtain ⟨M3, r1, r2, r3⟩ := read58 (s2.kp (fun k _ _ => by rw [l3]) l4) d2 (by rw [mI, l3]; exact s3) (fun k a c => (hW k a c).1) (fun k a c => (hW k a c).2)
  obtain ⟨M4, e1, e2, e3, e4, e5⟩ := read87 (f1 := fin1 b n) (f2 := fin2 b n) r3 (fun u => (hW _ (Nat.le_refl _) u).1) rfl rfl
  have sm := (l2.tr r2).tr e2
  rw [l1, r1, e1]
  refine ⟨M4, rfl, fun p hp hne => (sm.1.1.1 p hp).trans ?_, fun q hq => (sm.1.1.2.1 q hq).trans (by rw [s5]), fun q hq => (sm.1.1.2.2.1 q hq).trans (by rw [s5]), fun q hq i => (sm.1.1.2.2.2 q hq i).trans (by rw [s5]), sm.1.2.trans (by rw [s5]), sm.2.trans (s7 0 (by decide) (by decide) (by decide) (by decide) (by decide) (by decide)), (sm.1.1.1 (99, 1) (by decide)).trans s4, e3, e4, e5⟩
  by_cases q : p.1 = 99
  · obtain ⟨p1, p2⟩ := p
    simp only at q
    subst q
    show M1.1 99 p2 = M.1 99 p2
    refine s7 p2 (fun e => hne (by rw [e])) (fun e => ?_) (fun e => ?_) (fun e => ?_) (fun e => ?_) (fun e => ?_) <;> (rw [e] at hp; exact absurd hp (by decide))
  · exact s6 p.1 p.2 q
theorem DC.ne {M : PM} {C : Cal} {A : Nat → Nat → Nat} {q k : Nat} {x : Int32} (h : DC M C A) (h1 : 29 ≠ q) (h2 : 30 ≠ q) (h3 : 35 ≠ q) : DC (sI M q k x) C A := by
  obtain ⟨a1, a2, a3, a4, a5⟩ := h
  exact ⟨⟨(rI_ne h2).trans a1.1, (rI_ne h3).trans a1.2.1, (rI_ne h1).trans a1.2.2.1, (rI_ne h1).trans a1.2.2.2⟩, a2, a3, a4, a5⟩
theorem ok1 : OK_1 Rel := fun M a1 hR => by
  obtain ⟨z, rfl, hz⟩ := zi_rng a1
  have hR2 := hR
  obtain ⟨C, S, W, h1, h2, h3, h4, h5, h6, h7, h8, h9, h10, ⟨t, b, g1, g2, g3, g4⟩, h12⟩ := hR2
  unfold c_1 w_calendar
  by_cases hg : 0 ≤ z ∧ z ≤ t
  rotate_left
  · have e0 : mI (sI (rf M 2) 99 0 (zi 0)) 99 1 = zi t := g3
    refine okr1 (y := zi 0) 2 hR (by decide) ?_ ?_
    · have e20 : F_X10_calendar_0_20 M (zi z) = rE nIAE (rf M 2) := by
        unfold F_X10_calendar_0_20 F_X10_calendar_0_21
        rw [show (0 : Int32) = zi 0 from rfl, need_f, bV_e]
      unfold F_X10_calendar_0
      rw [g2]
      by_cases q : z < 0
      · rw [if_pos (by rw [show (0 : Int32) = zi 0 from rfl, zi_lt (by omega) (by omega)]; exact q), e20]
      · rw [if_neg (by rw [show (0 : Int32) = zi 0 from rfl, zi_lt (by omega) (by omega)]; exact q), if_pos (by rw [zi_lt (by omega) (by omega)]; omega), e20]
    · unfold F_X11_calendar_99
      rw [show (0 : Int32) = zi 0 from rfl, e0, in_f (by omega) (by omega) (by omega), cI_s, if_pos rfl]
      unfold F_X11_calendar_99_23
      rw [show (1 : Int32) = zi 1 from rfl, show (2 : Int32) = zi 2 from rfl, bad_t th0 (by decide) (by decide), cI_s, if_neg (by decide)]
      rfl
  obtain ⟨n, rfl, hn⟩ := natOf (z := z) (n := t + 1) ⟨hg.1, by omega⟩
  have hnt : n ≤ t := by omega
  obtain ⟨Mo, o1, o2, o3⟩ := open_c (n := n) g2 hnt g1 (fun i hi => ⟨(g4 i hi).1, (g4 i hi).2.2⟩)
  obtain ⟨M3, r1, r2, r3, r4, r5, r6, r7⟩ := read_c o2
  have sm3 := o3.tr r2
  -- the class up to the end of the text
  have eC : F_X10_calendar_0 M (zi n) = (if zi (fin1 b n) = 0 then cV (F_X0_copy_3_29 (sI (sI M3 0 13 (zi (fin2 b n))) 1 1 0)) fun M174 => cV (F_X7_clear_76 M174) fun M175 => cV (F_X3_begin_16_3 M175) fun M176 => some (.inl (some (.int (mI (sI M176 0 5 0) 4 4))), sI M176 0 5 0) else some (.inl (some (.int (zi (fin1 b n) - 10))), sI (sI M3 0 13 (zi (fin2 b n))) 1 1 0)) := by
    unfold F_X10_calendar_0
    rw [g2, if_neg (by rw [show (0 : Int32) = zi 0 from rfl, zi_lt (by omega) (by omega)]; omega), if_neg (by rw [zi_lt (by omega) (by omega)]; omega)]
    unfold F_X10_calendar_0_21
    rw [show (1 : Int32) = zi 1 from rfl, need_t, bV_s, o1, cV_s, r1, cV_s]
    unfold F_X10_closeText_0
    rw [cI_s, r4, show mI (sI (sI M3 0 13 (zi (fin2 b n))) 1 1 0) 1 5 = zi (fin1 b n) from ((rI_nk (by decide)).trans (rI_ne (by decide))).trans r3]
  -- the reference, on what the class left
  have eM : ∀ M', mI M' 99 1 = zi t → (∀ i, i < t → mA M' 100 i = zi (b i)) → ∃ M5, F_X11_calendar_99 M' (zi n) = F_X11_calendar_99_218 M5 ∧ (∀ p ∈ kIl, p ≠ (99, 1) → M5.1 p.1 p.2 = M'.1 p.1 p.2) ∧ (∀ q ∈ kAl, M5.2.2.1 q = M'.2.2.1 q) ∧ (∀ q ∈ kBl, M5.2.2.2.1 q = M'.2.2.2.1 q) ∧ (∀ q ∈ kGl, ∀ i, M5.2.2.2.2 q i = M'.2.2.2.2 q i) ∧ M5.2.2.2.1 129 = M'.2.2.2.1 129 ∧ mI M5 99 0 = zi 0 ∧ mI M5 99 1 = zi 0 ∧ mI M5 99 5 = zi (fin1 b n) ∧ mI M5 99 6 = zi (fin2 b n) ∧ (fin1 b n = 0 → DM M5 (rdo b n (rdK b n)).2.2.2.1 (rdo b n (rdK b n)).2.2.2.2 ∧ mA M5 102 4 = zi (t4 (rdo b n (rdK b n)).2.2.2.1) ∧ mA M5 102 5 = zi (t5 (rdo b n (rdK b n)).2.2.2.1)) := fun M' m1 m2 => by
    obtain ⟨M5, s1, s2, s3, s4, s5, s6, s7, s8, s9, s10, s11⟩ := calM_read (M := sI M' 99 0 (zi 0)) (b := b) (n := n) (by omega) (fun i hi => ⟨m2 i (by omega), (g4 i (by omega)).2.2⟩) r7
    have e0 : mI (sI M' 99 0 (zi 0)) 99 1 = zi t := m1
    refine ⟨M5, ?_, fun p hp hne => (s2 p hp hne).trans (Sam.th.1.1 p hp), s3, s4, s5, s6, s7.trans th0, s8, s9, s10, s11⟩
    unfold F_X11_calendar_99
    rw [show (0 : Int32) = zi 0 from rfl, e0, in_t (by omega) (by omega), cI_s, if_neg (by decide)]
    unfold F_X11_calendar_99_23
    rw [bad_f th0, cI_s, if_pos (show zi 0 = 0 from rfl)]
    exact s1
  have f218 : ∀ M5 : PM, mI M5 99 5 = zi (fin1 b n) → mI M5 99 6 = zi (fin2 b n) → F_X11_calendar_99_218 M5 = (if zi (fin1 b n) = 0 then F_X11_calendar_99_243 FUEL (sI M5 99 3 (zi (fin2 b n))) 0 else some (.inl (some (.int (zi (fin1 b n) - 10))), sI M5 99 3 (zi (fin2 b n)))) := fun M5 m5 m6 => by
    unfold F_X11_calendar_99_218
    rw [m6, show mI (sI M5 99 3 (zi (fin2 b n))) 99 5 = zi (fin1 b n) from (rI_nk (by decide)).trans m5]
  by_cases qf : fin1 b n = 0
  · obtain ⟨d1, d2, d3, d4, d5⟩ := r6 qf
    generalize hCC : (rdo b n (rdK b n)).2.2.2.1 = C' at *
    generalize hAA : (rdo b n (rdK b n)).2.2.2.2 = A at *
    have d10 : DC (sI (sI M3 0 13 (zi (fin2 b n))) 1 1 0) C' A := (d1.ne (by decide) (by decide) (by decide)).ne (by decide) (by decide) (by decide)
    obtain ⟨R, c1, c2, c3, c4, c5, c6, c7, c8, c9⟩ := calC_s d10 d2 (((rI_ne (by decide)).trans (rI_ne (by decide))).trans d3) (((rI_ne (by decide)).trans (rI_ne (by decide))).trans d4) d5
    have hc' := WFD_C d2 d5
    have R99 : ∀ k, (99, k) ∈ kIl → mI R 99 k = mI M 99 k := fun k hk => (c8 k).trans (((rI_ne (by decide)).trans (rI_ne (by decide))).trans (sm3.1 (99, k) hk))
    have RA : ∀ q, 99 ≤ q → q ∈ kAl → R.2.2.1 q = M.2.2.1 q := fun q hq hk => (c9 q hq).trans (sm3.2.1 q hk)
    obtain ⟨M5, m1, m2, m3, m4, m5, m6, m7, m8, m9, m10, m11⟩ := eM (sB R 129 0 (zi (cN C')).toInt64) ((R99 1 (by decide)).trans g3) (fun i hi => (congrFun (RA 100 (by decide) (by decide)) i).trans (g4 i hi).2.1)
    obtain ⟨n1, n2, n3⟩ := m11 qf
    have n1' : DM (sI M5 99 3 (zi (fin2 b n))) C' A := n1.e2 rfl
    obtain ⟨M6, k1, k2, k3, k4, k5, k6⟩ := calM_s n1' d2 n2 n3
    have fR : F_X10_calendar_0 M (zi n) = rI (zi (cN C')) R := by rw [eC, if_pos (by rw [qf]; rfl), c1]
    have gR : F_X11_calendar_99 (sB R 129 0 (zi (cN C')).toInt64) (zi n) = rI (zi (cN C')) M6 := by rw [m1, f218 M5 m9 m10, if_pos (by rw [qf]; rfl), k1]
    -- what stays, from the class's end to the end
    have kIc : ∀ q k, q < 99 → (q, k) ∈ kIl → mI M6 q k = mI R q k := fun q k hq hk => (k2.1 q k hq).trans ((rI_ne (by omega)).trans (m2 (q, k) hk (fun e => by have := congrArg Prod.fst e; simp only at this; omega)))
    have kAc : ∀ q, q < 99 → q ∈ kAl → M6.2.2.1 q = R.2.2.1 q := fun q hq hk => (k2.2.1 q hq).trans (m3 q hk)
    have kBc : ∀ q, q ∈ kBl → M6.2.2.2.1 q = R.2.2.2.1 q := fun q hk => (congrFun k2.2.2.1 q).trans ((m4 q hk).trans (u1_ne (fun e => by rw [e] at hk; exact absurd hk (by decide))))
    have hCalC : CalC M6 C' := by
      have c2' := c2
      unfold CalC LawC at c2' ⊢
      have iA : ∀ q, q < 99 → q ∈ kAl → mA M6 q = mA R q := kAc
      have iB : ∀ q, q ∈ kBl → mB M6 q = mB R q := kBc
      simp only [kIc 4 4 (by decide) (by decide), kIc 9 4 (by decide) (by decide), kIc 3 4 (by decide) (by decide), kIc 3 5 (by decide) (by decide), kIc 3 6 (by decide) (by decide), kIc 3 7 (by decide) (by decide), iA (4 + 1) (by decide) (by decide), iA (4 + 2) (by decide) (by decide), iA (9 + 1) (by decide) (by decide), iA (9 + 2) (by decide) (by decide), iA 8 (by decide) (by decide), iA 15 (by decide) (by decide), iB (4 + 3) (by decide), iB (9 + 3) (by decide)]
      exact c2'
    have hStaC : StaC M6 C' (S00 (fun h l => if l < 12 then A h l else 0)) 16 := ⟨fun h l x1 x2 => by
      show mA M6 17 (h * 12 + l) = zi ((if l < 12 then A h l else 0 : Nat))
      rw [if_pos x2]
      exact (congrFun (kAc 17 (by decide) (by decide)) _).trans (c3.1 h l x1 x2), ⟨(kIc 16 4 (by decide) (by decide)).trans c3.2.1.1, (kIc 16 9 (by decide) (by decide)).trans c3.2.1.2.1, (kIc 16 12 (by decide) (by decide)).trans c3.2.1.2.2⟩, fun i hi => absurd hi (Nat.not_lt_zero i), fun i hi => absurd hi (Nat.not_lt_zero i), fun i hi => absurd hi (Nat.not_lt_zero i)⟩
    have hStaM : StaM M6 C' (S00 (fun h l => if l < 12 then A h l else 0)) := ⟨fun h l x1 x2 => by
      show mG M6 115 h l = zi ((if l < 12 then A h l else 0 : Nat))
      rw [if_pos x2]
      exact k4.1 h l x1 x2, k4.2⟩
    have hWisC : WisC M6 C' W00 := ⟨(kIc 76 7 (by decide) (by decide)).trans c4.1, (kIc 76 8 (by decide) (by decide)).trans c4.2.1, (kIc 76 9 (by decide) (by decide)).trans c4.2.2.1, fun i hi => absurd hi (Nat.not_lt_zero i)⟩
    have hcn := d2.1.1
    have hWFS : WFS C' (S00 (fun h l => if l < 12 then A h l else 0)) := ⟨fun h l x1 x2 => by
      show (if l < 12 then A h l else 0) < cW C' l
      rw [if_pos (by omega)]
      exact d2.2.2.2.2.2.1 h l x1 x2, fun h l x1 x2 => by
      show (if l < 12 then A h l else 0) = 0
      by_cases q : l < 12
      · rw [if_pos q]; exact d2.2.2.2.2.2.2 h l q (Or.inr x2)
      · rw [if_neg q], ⟨(by decide : 0 ≤ 20), (by decide : 0 ≤ 20), (by decide : 0 ≤ 8)⟩, fun i hi => absurd hi (Nat.not_lt_zero i), fun i hi => absurd hi (Nat.not_lt_zero i), fun i hi => absurd hi (Nat.not_lt_zero i)⟩
    have r13 : mI R 0 13 = zi (fin2 b n) := (c6 13 (by decide)).trans ((rI_ne (by decide)).trans rI_at)
    have r14 : ∀ k, 14 ≤ k → k ≤ 16 → mI R 0 k = mI M 0 k := fun k x1 x2 => (c6 k (by omega)).trans (((rI_ne (by decide)).trans (rI_nk (by omega))).trans (sm3.1 (0, k) (by
      have : k = 14 ∨ k = 15 ∨ k = 16 := by omega
      rcases this with rfl | rfl | rfl <;> decide)))
    have a101 : ∀ j, mA M6 101 j = mA M 101 j := fun j => (congrFun k2.2.2.2.2 j).trans ((congrFun (m3 101 (by decide)) j).trans (congrFun (RA 101 (by decide) (by decide)) j))
    refine okm1 fR gR ((k2.2.2.2.1 0 (by decide)).trans ((rI_nk (by decide)).trans m7)) ((congrFun k2.2.2.1 129).trans m6) ⟨C', S00 (fun h l => if l < 12 then A h l else 0), W00, hc', hCalC, k3, hWFS, hStaC, hStaM, ?_, hWisC, k5, ⟨0, by decide, (kIc 0 5 (by decide) (by decide)).trans c5, k6, fun r hr => absurd hr (Nat.not_lt_zero r)⟩, ⟨0, fun _ => 0, by decide, (kIc 1 1 (by decide) (by decide)).trans ((c7 1).trans rI_at), (k2.2.2.2.1 1 (by decide)).trans ((rI_nk (by decide)).trans m8), fun i hi => absurd hi (Nat.not_lt_zero i)⟩, ⟨((kIc 0 13 (by decide) (by decide)).trans r13).trans ((k2.2.2.2.1 3 (by decide)).trans rI_at).symm, ?_, ?_, ?_⟩⟩
    · refine ⟨by decide, ?_, fun u => absurd u (Nat.lt_irrefl 0), fun i hi => absurd hi (Nat.not_lt_zero i)⟩
      show t5 C' ≤ 100000
      exact d5
    · exact (kIc 0 14 (by decide) (by decide)).trans ((r14 14 (by decide) (by decide)).trans (h12.2.1.trans (a101 0).symm))
    · exact (kIc 0 15 (by decide) (by decide)).trans ((r14 15 (by decide) (by decide)).trans (h12.2.2.1.trans (a101 1).symm))
    · exact (kIc 0 16 (by decide) (by decide)).trans ((r14 16 (by decide) (by decide)).trans (h12.2.2.2.trans (a101 2).symm))
  · have nz : ¬ zi (fin1 b n) = 0 := by rw [show (0 : Int32) = zi 0 from rfl, zi_eq (by omega) (by omega)]; exact qf
    have e10 : zi (fin1 b n) - 10 = zi (fin1 b n - 10) := by rw [show (10 : Int32) = zi 10 from rfl, zi_sub]
    rw [if_neg nz, e10] at eC
    have X99 : ∀ k, (99, k) ∈ kIl → mI (sI (sI M3 0 13 (zi (fin2 b n))) 1 1 0) 99 k = mI M 99 k := fun k hk => ((rI_ne (by decide)).trans (rI_ne (by decide))).trans (sm3.1 (99, k) hk)
    obtain ⟨M5, m1, m2, m3, m4, m5, m6, m7, m8, m9, m10, m11⟩ := eM (sB (sI (sI M3 0 13 (zi (fin2 b n))) 1 1 0) 129 0 (zi (fin1 b n - 10)).toInt64) ((X99 1 (by decide)).trans g3) (fun i hi => (congrFun (sm3.2.1 100 (by decide)) i).trans (g4 i hi).2.1)
    have gR := m1.trans (f218 M5 m9 m10)
    rw [if_neg nz, e10] at gR
    have iP : ∀ p ∈ kIl, p ∉ [(1, 1), (99, 1), (0, 13), (99, 3)] → (sI M5 99 3 (zi (fin2 b n))).1 p.1 p.2 = M.1 p.1 p.2 := fun p hp hne => by
      have n1 : ¬ (p.1 = 99 ∧ p.2 = 3) := fun e => hne (by rw [show p = (99, 3) from Prod.ext e.1 e.2]; decide)
      have n2 : p ≠ (99, 1) := fun e => hne (by rw [e]; decide)
      have n3 : ¬ (p.1 = 1 ∧ p.2 = 1) := fun e => hne (by rw [show p = (1, 1) from Prod.ext e.1 e.2]; decide)
      have n4 : ¬ (p.1 = 0 ∧ p.2 = 13) := fun e => hne (by rw [show p = (0, 13) from Prod.ext e.1 e.2]; decide)
      exact (u2_ne n1).trans ((m2 p hp n2).trans (((u2_ne n3).trans (u2_ne n4) : (sI (sI M3 0 13 (zi (fin2 b n))) 1 1 0).1 p.1 p.2 = M3.1 p.1 p.2).trans (sm3.1 p hp)))
    refine okm1 eC gR ((rI_nk (by decide)).trans m7) m6 (Rel_ft hR iP (fun q hq => (m3 q hq).trans (sm3.2.1 q hq)) (fun q hq => (m4 q hq).trans ((u1_ne (fun e => by rw [e] at hq; exact absurd hq (by decide))).trans (sm3.2.2.1 q hq))) (fun q hq i => (m5 q hq i).trans (sm3.2.2.2 q hq i)) ?_ ((rI_nk (by decide)).trans m8) ?_)
    · have x11 : (sI (sI M3 0 13 (zi (fin2 b n))) 1 1 0).1 1 1 = zi 0 := rI_at
      have y11 : (sI M5 99 3 (zi (fin2 b n))).1 1 1 = M5.1 1 1 := rI_ne (by decide)
      exact y11.trans ((m2 (1, 1) (by decide) (by decide)).trans x11)
    · have x13 : (sI (sI M3 0 13 (zi (fin2 b n))) 1 1 0).1 0 13 = zi (fin2 b n) := (rI_ne (by decide)).trans rI_at
      have y13 : (sI M5 99 3 (zi (fin2 b n))).1 0 13 = M5.1 0 13 := rI_ne (by decide)
      have z13 : (sI M5 99 3 (zi (fin2 b n))).1 99 3 = zi (fin2 b n) := rI_at
      exact (y13.trans ((m2 (0, 13) (by decide) (by decide)).trans x13)).trans z13.symm
