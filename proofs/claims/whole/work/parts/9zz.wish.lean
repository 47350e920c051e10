/-! wish: the case -/
theorem ok2 : OK_2 Rel := fun M a1 hR => by
  obtain ⟨z, rfl, hz⟩ := zi_rng a1
  have hR2 := hR
  obtain ⟨C, S, W, h1, h2, h3, h4, h5, h6, h7, h8, h9, h10, ⟨t, b, g1, g2, g3, g4⟩, h12⟩ := hR2
  unfold c_2 w_wish
  by_cases hg : 0 ≤ z ∧ z ≤ t ∧ z ≤ 200
  rotate_left
  · have e0 : mI (sI (rf M 2) 99 0 (zi 0)) 99 1 = zi t := g3
    refine okr1 (y := zi 0) 2 hR (by decide) ?_ ?_
    · have e27 : F_X10_wish_0_27 M (zi z) = rE nIAE (rf M 2) := by
        unfold F_X10_wish_0_27 F_X10_wish_0_28
        rw [show (0 : Int32) = zi 0 from rfl, need_f, bV_e]
      unfold F_X10_wish_0
      rw [g2]
      by_cases q : z < 0
      · rw [if_pos (by rw [show (0 : Int32) = zi 0 from rfl, zi_lt (by omega) (by omega)]; exact q), e27]
      · rw [if_neg (by rw [show (0 : Int32) = zi 0 from rfl, zi_lt (by omega) (by omega)]; exact q)]
        by_cases q2 : 200 < z
        · rw [if_pos (by rw [show (200 : Int32) = zi 200 from rfl, zi_lt (by omega) (by omega)]; exact q2), e27]
        · rw [if_neg (by rw [show (200 : Int32) = zi 200 from rfl, zi_lt (by omega) (by omega)]; exact q2), if_pos (by rw [zi_lt (by omega) (by omega)]; omega), e27]
    · have e25 : F_X11_wish_99_25 (sI (rf M 2) 99 0 (zi 0)) (zi z) = rI (zi 0) (rm (rf M 2) (zi 1) 2) := by
        unfold F_X11_wish_99_25 F_X11_wish_99_30
        rw [show (1 : Int32) = zi 1 from rfl, show (2 : Int32) = zi 2 from rfl, bad_t th0 (by decide) (by decide), cI_s, if_neg (by decide)]
        rfl
      unfold F_X11_wish_99
      rw [show (0 : Int32) = zi 0 from rfl, e0]
      by_cases q : 0 ≤ z ∧ z ≤ t
      · rw [in_t q (by omega), cI_s, if_neg (by decide), if_neg (by rw [show (200 : Int32) = zi 200 from rfl, zi_le (by omega) (by omega)]; omega), e25]
      · rw [in_f q (by omega) (by omega), cI_s, if_pos rfl, e25]
  obtain ⟨n, rfl, hn⟩ := natOf (z := z) (n := t + 1) ⟨hg.1, by omega⟩
  have hnt : n ≤ t := by omega
  have hn2 : n ≤ 200 := by omega
  obtain ⟨Mo, o1, o2, o3⟩ := open_c (n := n) g2 hnt g1 (fun i hi => ⟨(g4 i hi).1, (g4 i hi).2.2⟩)
  obtain ⟨M3, o, r1, r2, r3, r4, r5, r6, r7, r8⟩ := wishC_read h1 (h2.sm o3) o2 hn2
  have sm3 := o3.tr r2
  have eC : F_X10_wish_0 M (zi n) = (if zi (wf1 C b n o) = 0 then cV (F_X7_copy_76_82 (sI (sI M3 0 13 (zi (wf2 C b n o))) 1 1 0)) fun M255 => some (.inl (some (.int 1)), M255) else some (.inl (some (.int (zi (wf1 C b n o) - 10))), sI (sI M3 0 13 (zi (wf2 C b n o))) 1 1 0)) := by
    unfold F_X10_wish_0
    rw [g2, if_neg (by rw [show (0 : Int32) = zi 0 from rfl, zi_lt (by omega) (by omega)]; omega), if_neg (by rw [show (200 : Int32) = zi 200 from rfl, zi_lt (by omega) (by omega)]; omega), if_neg (by rw [zi_lt (by omega) (by omega)]; omega)]
    unfold F_X10_wish_0_28
    rw [show (1 : Int32) = zi 1 from rfl, need_t, bV_s, o1, cV_s, r1, cV_s]
    unfold F_X10_closeText_0
    rw [cI_s, r4, show mI (sI (sI M3 0 13 (zi (wf2 C b n o))) 1 1 0) 1 5 = zi (wf1 C b n o) from ((rI_nk (by decide)).trans (rI_ne (by decide))).trans r3]
  have eM : ∀ M', mI M' 99 1 = zi t → CalM M' C → (∀ i, i < t → mA M' 100 i = zi (b i)) → ∃ M5, F_X11_wish_99 M' (zi n) = F_X11_wish_99_125 M5 ∧ (∀ p ∈ kIl, p ≠ (99, 1) → M5.1 p.1 p.2 = M'.1 p.1 p.2) ∧ (∀ q ∈ kAl, M5.2.2.1 q = M'.2.2.1 q) ∧ (∀ q ∈ kBl, M5.2.2.2.1 q = M'.2.2.2.1 q) ∧ (∀ q ∈ kGl, ∀ i, M5.2.2.2.2 q i = M'.2.2.2.2 q i) ∧ M5.2.2.2.1 129 = M'.2.2.2.1 129 ∧ mI M5 99 0 = zi 0 ∧ mI M5 99 1 = zi 0 ∧ mI M5 99 5 = zi (wf1 C b n o) ∧ mI M5 99 6 = zi (wf2 C b n o) ∧ (wf1 C b n o = 0 → DWM M5 C o.2.2.2) := fun M' m1 mc m2 => by
    obtain ⟨M5, s1, s2, s3, s4, s5, s6, s7, s8, s9, s10, s11⟩ := wishM_read (M := sI M' 99 0 (zi 0)) (b := b) (n := n) h1 (mc.sm Sam.th.1) th0 (by omega) (fun i hi => ⟨m2 i (by omega), (g4 i (by omega)).2.2⟩) (fun u => (r6 u).2.2.2.2.1) r8
    have e0 : mI (sI M' 99 0 (zi 0)) 99 1 = zi t := m1
    refine ⟨M5, ?_, fun p hp hne => (s2 p hp hne).trans (Sam.th.1.1 p hp), s3, s4, s5, s6, s7.trans th0, s8, s9, s10, s11⟩
    unfold F_X11_wish_99
    rw [show (0 : Int32) = zi 0 from rfl, e0, in_t (by omega) (by omega), cI_s, if_neg (by decide), if_pos (by rw [show (200 : Int32) = zi 200 from rfl, zi_le (by omega) (by omega)]; omega)]
    exact s1
  have X99 : ∀ k, (99, k) ∈ kIl → mI (sI (sI M3 0 13 (zi (wf2 C b n o))) 1 1 0) 99 k = mI M 99 k := fun k hk => ((rI_ne (by decide)).trans (rI_ne (by decide))).trans (sm3.1 (99, k) hk)
  by_cases qf : wf1 C b n o = 0
  · obtain ⟨d1, d2, d3, d4⟩ := r7 qf
    obtain ⟨u1, hwd, hwf⟩ := wf1_ok r6 qf
    have rt := (hT_rt h1 hwd).2 hwf.2.1
    generalize o.2.2.2 = W' at *
    obtain ⟨R, c1, c2, c3, c4, c5, c6, c7, c8, c9⟩ := wcopy_s (M := sI (sI M3 0 13 (zi (wf2 C b n o))) 1 1 0) hwd.1 (((rI_ne (by decide)).trans (rI_ne (by decide))).trans d1.1) (((rI_ne (by decide)).trans (rI_ne (by decide))).trans d3) (((rI_ne (by decide)).trans (rI_ne (by decide))).trans d2)
    have R99 : ∀ k, (99, k) ∈ kIl → mI R 99 k = mI M 99 k := fun k hk => (c6 99 k (by decide)).trans (X99 k hk)
    have RA : ∀ q, q ≠ 77 → q ≠ 78 → q ≠ 79 → q ∈ kAl → R.2.2.1 q = M.2.2.1 q := fun q q1 q2 q3 hk => (c7 q q1 q2 q3).trans (sm3.2.1 q hk)
    have cmR : CalM (sB R 129 0 (zi 1).toInt64) C := by
      have h3' := h3
      unfold CalM at h3' ⊢
      have iA : ∀ q, q ≠ 77 → q ≠ 78 → q ≠ 79 → q ∈ kAl → mA (sB R 129 0 (zi 1).toInt64) q = mA M q := RA
      simp only [iA 103 (by decide) (by decide) (by decide) (by decide), iA 105 (by decide) (by decide) (by decide) (by decide), iA 107 (by decide) (by decide) (by decide) (by decide), iA 109 (by decide) (by decide) (by decide) (by decide), iA 111 (by decide) (by decide) (by decide) (by decide), iA 113 (by decide) (by decide) (by decide) (by decide)]
      exact h3'
    obtain ⟨M5, m1, m2, m3, m4, m5, m6, m7, m8, m9, m10, m11⟩ := eM (sB R 129 0 (zi 1).toInt64) ((R99 1 (by decide)).trans g3) cmR (fun i hi => (congrFun (RA 100 (by decide) (by decide) (by decide) (by decide)) i).trans (g4 i hi).2.1)
    have dm := m11 qf
    obtain ⟨M6, k1, k2, k3⟩ := w166 (M := sI (sI (sI M5 99 3 (zi (wf2 C b n o))) 99 24 (zi (hN W'))) 99 27 (zi (hT C W'))) (m := hN W') rfl hwd.1
    have fR : F_X10_wish_0 M (zi n) = rI (zi 1) R := by
      rw [eC, if_pos (by rw [qf]; rfl), c1, cV_s]
      rfl
    have gR : F_X11_wish_99 (sB R 129 0 (zi 1).toInt64) (zi n) = rI (zi 1) M6 := by
      rw [m1]
      unfold F_X11_wish_99_125
      have e5 : mI (sI M5 99 3 (zi (wf2 C b n o))) 99 5 = zi (wf1 C b n o) := (rI_nk (by decide)).trans m9
      have e25 : mI (sI M5 99 3 (zi (wf2 C b n o))) 99 25 = zi (hN W') := (rI_nk (by decide)).trans dm.1
      have e28 : mI (sI (sI M5 99 3 (zi (wf2 C b n o))) 99 24 (zi (hN W'))) 99 28 = zi (hT C W') := ((rI_nk (by decide)).trans (rI_nk (by decide))).trans (by rw [← rt]; exact dm.2.1)
      rw [m10, e5, if_pos (by rw [qf]; rfl), e25, e28, k1]
    have I6 : ∀ q k, M6.1 q k = (sI (sI (sI M5 99 3 (zi (wf2 C b n o))) 99 24 (zi (hN W'))) 99 27 (zi (hT C W'))).1 q k := fun q k => by rw [k2.1]
    have kIc : ∀ q k, q ≠ 99 → (q, k) ∈ kIl → mI M6 q k = mI R q k := fun q k hq hk => (I6 q k).trans (((rI_ne hq).trans ((rI_ne hq).trans (rI_ne hq))).trans (m2 (q, k) hk (fun e => hq (congrArg Prod.fst e))))
    have kIm : ∀ k, (99, k) ∈ kIl → k ≠ 1 → k ≠ 3 → k ≠ 24 → k ≠ 27 → mI M6 99 k = mI M 99 k := fun k hk n1 n3 n24 n27 => (I6 99 k).trans (((rI_nk n27).trans ((rI_nk n24).trans (rI_nk n3))).trans ((m2 (99, k) hk (fun e => n1 (congrArg Prod.snd e))).trans (R99 k hk)))
    have kAc : ∀ q, q ∈ kAl → M6.2.2.1 q = R.2.2.1 q := fun q hk => (congrFun k2.2.1 q).trans (m3 q hk)
    have kBc : ∀ q, q ∈ kBl → M6.2.2.2.1 q = R.2.2.2.1 q := fun q hk => (congrFun k2.2.2.1 q).trans ((m4 q hk).trans (u1_ne (fun e => by rw [e] at hk; exact absurd hk (by decide))))
    have hWisC : WisC M6 C W' := ⟨(kIc 76 7 (by decide) (by decide)).trans c2, (kIc 76 8 (by decide) (by decide)).trans c3, (kIc 76 9 (by decide) (by decide)).trans c4, fun i hi => by
      obtain ⟨x1, x2, x3, x4⟩ := c5 i hi
      obtain ⟨y1, y2, y3⟩ := d1.2 i hi
      refine ⟨(congrFun (kAc 77 (by decide)) i).trans (x1.trans y1), (congrFun (kAc 78 (by decide)) i).trans (x2.trans y2), (congrFun (kAc 79 (by decide)) i).trans (x3.trans y3), fun v => ?_⟩
      have e80 : mB M6 80 i = mB M3 86 i := (congrFun (kBc 80 (by decide)) i).trans x4
      rw [e80]
      exact d4 i hi v⟩
    have hWisM : WisM M6 C W' := ⟨(I6 99 24).trans ((rI_nk (by decide)).trans rI_at), (I6 99 27).trans rI_at, fun i hi => by
      obtain ⟨y1, y2, y3⟩ := dm.2.2 i hi
      exact ⟨(k3 i 0 hi (by decide)).trans y1, (k3 i 1 hi (by decide)).trans y2, (k3 i 2 hi (by decide)).trans y3⟩⟩
    have r13 : mI R 0 13 = zi (wf2 C b n o) := (c6 0 13 (by decide)).trans ((rI_ne (by decide)).trans rI_at)
    have r11 : mI R 1 1 = zi 0 := (c6 1 1 (by decide)).trans rI_at
    refine okm1 fR gR ((I6 99 0).trans (((rI_nk (by decide)).trans ((rI_nk (by decide)).trans (rI_nk (by decide)))).trans m7)) ((congrFun k2.2.2.1 129).trans m6) (Rel_ws h1 h2 h3 hwf hWisC hWisM h10 h4 h5 h6 h12 ((kIc 1 1 (by decide) (by decide)).trans r11) ((I6 99 1).trans (((rI_nk (by decide)).trans ((rI_nk (by decide)).trans (rI_nk (by decide)))).trans m8)) (((kIc 0 13 (by decide) (by decide)).trans r13).trans ((I6 99 3).trans ((rI_nk (by decide)).trans ((rI_nk (by decide)).trans rI_at))).symm) (fun p hp hne => ?_) (fun q hq hne => ?_) (fun q hq hne => ?_) (fun q hq hne i => ?_))
    · obtain ⟨p1, p2⟩ := p
      show mI M6 p1 p2 = mI M p1 p2
      by_cases e : p1 = 99
      · subst e
        exact kIm p2 hp (fun e => hne (by rw [e]; decide)) (fun e => hne (by rw [e]; decide)) (fun e => hne (by rw [e]; decide)) (fun e => hne (by rw [e]; decide))
      · have e76 : p1 ≠ 76 := fun e6 => by
          subst e6
          have : p2 = 7 ∨ p2 = 8 ∨ p2 = 9 := by
            simp only [kIl, List.mem_cons, Prod.mk.injEq, List.mem_nil_iff, or_false] at hp
            omega
          rcases this with rfl | rfl | rfl <;> exact hne (by decide)
        have n13 : ¬ (p1 = 0 ∧ p2 = 13) := fun v => hne (by rw [v.1, v.2]; decide)
        have n11 : ¬ (p1 = 1 ∧ p2 = 1) := fun v => hne (by rw [v.1, v.2]; decide)
        exact (kIc p1 p2 e hp).trans ((c6 p1 p2 e76).trans (((u2_ne n11).trans (u2_ne n13) : (sI (sI M3 0 13 (zi (wf2 C b n o))) 1 1 0).1 p1 p2 = M3.1 p1 p2).trans (sm3.1 (p1, p2) hp)))
    · exact (kAc q hq).trans (RA q (fun e => hne (by rw [e]; decide)) (fun e => hne (by rw [e]; decide)) (fun e => hne (by rw [e]; decide)) hq)
    · exact (kBc q hq).trans ((c8 q hne).trans (sm3.2.2.1 q hq))
    · refine (k2.2.2.2 q hne i).trans ((m5 q hq i).trans ?_)
      show R.2.2.2.2 q i = _
      rw [c9]
      exact sm3.2.2.2 q hq i
  · have nz : ¬ zi (wf1 C b n o) = 0 := by rw [show (0 : Int32) = zi 0 from rfl, zi_eq (by omega) (by omega)]; exact qf
    have e10 : zi (wf1 C b n o) - 10 = zi (wf1 C b n o - 10) := by rw [show (10 : Int32) = zi 10 from rfl, zi_sub]
    rw [if_neg nz, e10] at eC
    have cmX : CalM (sB (sI (sI M3 0 13 (zi (wf2 C b n o))) 1 1 0) 129 0 (zi (wf1 C b n o - 10)).toInt64) C := by
      have c3 : CalM M3 C := h3.sm sm3
      exact c3
    obtain ⟨M5, m1, m2, m3, m4, m5, m6, m7, m8, m9, m10, m11⟩ := eM (sB (sI (sI M3 0 13 (zi (wf2 C b n o))) 1 1 0) 129 0 (zi (wf1 C b n o - 10)).toInt64) ((X99 1 (by decide)).trans g3) cmX (fun i hi => (congrFun (sm3.2.1 100 (by decide)) i).trans (g4 i hi).2.1)
    have gR : F_X11_wish_99 (sB (sI (sI M3 0 13 (zi (wf2 C b n o))) 1 1 0) 129 0 (zi (wf1 C b n o - 10)).toInt64) (zi n) = rI (zi (wf1 C b n o - 10)) (sI M5 99 3 (zi (wf2 C b n o))) := by
      rw [m1]
      unfold F_X11_wish_99_125
      have e5 : mI (sI M5 99 3 (zi (wf2 C b n o))) 99 5 = zi (wf1 C b n o) := (rI_nk (by decide)).trans m9
      rw [m10, e5, if_neg nz, e10]
    have iP : ∀ p ∈ kIl, p ∉ [(1, 1), (99, 1), (0, 13), (99, 3)] → (sI M5 99 3 (zi (wf2 C b n o))).1 p.1 p.2 = M.1 p.1 p.2 := fun p hp hne => by
      have n1 : ¬ (p.1 = 99 ∧ p.2 = 3) := fun e => hne (by rw [show p = (99, 3) from Prod.ext e.1 e.2]; decide)
      have n2 : p ≠ (99, 1) := fun e => hne (by rw [e]; decide)
      have n3 : ¬ (p.1 = 1 ∧ p.2 = 1) := fun e => hne (by rw [show p = (1, 1) from Prod.ext e.1 e.2]; decide)
      have n4 : ¬ (p.1 = 0 ∧ p.2 = 13) := fun e => hne (by rw [show p = (0, 13) from Prod.ext e.1 e.2]; decide)
      exact (u2_ne n1).trans ((m2 p hp n2).trans (((u2_ne n3).trans (u2_ne n4) : (sI (sI M3 0 13 (zi (wf2 C b n o))) 1 1 0).1 p.1 p.2 = M3.1 p.1 p.2).trans (sm3.1 p hp)))
    refine okm1 eC gR ((rI_nk (by decide)).trans m7) m6 (Rel_ft hR iP (fun q hq => (m3 q hq).trans (sm3.2.1 q hq)) (fun q hq => (m4 q hq).trans ((u1_ne (fun e => by rw [e] at hq; exact absurd hq (by decide))).trans (sm3.2.2.1 q hq))) (fun q hq i => (m5 q hq i).trans (sm3.2.2.2 q hq i)) ?_ ((rI_nk (by decide)).trans m8) ?_)
    · have x11 : (sI (sI M3 0 13 (zi (wf2 C b n o))) 1 1 0).1 1 1 = zi 0 := rI_at
      have y11 : (sI M5 99 3 (zi (wf2 C b n o))).1 1 1 = M5.1 1 1 := rI_ne (by decide)
      exact y11.trans ((m2 (1, 1) (by decide) (by decide)).trans x11)
    · have x13 : (sI (sI M3 0 13 (zi (wf2 C b n o))) 1 1 0).1 0 13 = zi (wf2 C b n o) := (rI_ne (by decide)).trans rI_at
      have y13 : (sI M5 99 3 (zi (wf2 C b n o))).1 0 13 = M5.1 0 13 := rI_ne (by decide)
      have z13 : (sI M5 99 3 (zi (wf2 C b n o))).1 99 3 = zi (wf2 C b n o) := rI_at
      exact (y13.trans ((m2 (0, 13) (by decide) (by decide)).trans x13)).trans z13.symm
theorem math : MATH := ⟨Rel, rel_0, fun xs i M h => step_of ok0 ok1 ok2 ok3 ok4 ok5 ok6 ok7 ok8 ok9 ok10 ok11 ok12 ok13 ok14 ok15 ok16 ok17 ok18 ok19 ok20 ok21 ok22 ok23 ok24 ok25 ok26 ok27 ok28 ok29 ok30 ok31 ok32 ok33 ok34 ok35 ok36 ok37 ok38 ok39 ok40 ok41 xs i M h⟩
