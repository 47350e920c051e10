/-! wish: what both hold at the end -/
theorem bpy_in {M : PM} {q1 q2 n k : Nat} (h : k < n) : mB (cB M q1 q2 0 0 n) q2 k = mB M q1 k := by
  show (u1 M.2.2.2.1 q2 (va_cpy (M.2.2.2.1 q1) (M.2.2.2.1 q2) 0 0 n)) q2 k = _
  rw [u1, if_pos rfl, va_cpy, if_pos (by omega), Nat.zero_add]
  rfl
theorem cpOK_k {k : Nat} (hk : k ≤ 100) : cpOK 0 0 (zi k) 100 100 = true := by
  have n0 : ¬ zi k < 0 := by rw [show (0 : Int32) = zi 0 from rfl, zi_lt (by omega) (by omega)]; omega
  have z0 : (0 : Int32).toNatClampNeg = 0 := by decide
  unfold cpOK
  rw [zi_natN (by omega), decide_eq_false n0, z0, decide_eq_true (show 0 + k ≤ 100 by omega)]
  decide
theorem wcopy_s {M : PM} {k : Nat} {v : Bool} {x : Int32} (hk : k ≤ 100) (h7 : mI M 82 7 = zi k) (h8 : mI M 82 8 = bb v) (h9 : mI M 82 9 = x) : ∃ M', F_X7_copy_76_82 M = rV M' ∧ mI M' 76 7 = zi k ∧ mI M' 76 8 = bb v ∧ mI M' 76 9 = x ∧ (∀ i, i < k → mA M' 77 i = mA M 83 i ∧ mA M' 78 i = mA M 84 i ∧ mA M' 79 i = mA M 85 i ∧ mB M' 80 i = mB M 86 i) ∧ (∀ q j, q ≠ 76 → M'.1 q j = M.1 q j) ∧ (∀ q, q ≠ 77 → q ≠ 78 → q ≠ 79 → M'.2.2.1 q = M.2.2.1 q) ∧ (∀ q, q ≠ 80 → M'.2.2.2.1 q = M.2.2.2.1 q) ∧ M'.2.2.2.2 = M.2.2.2.2 := by
  have z0 : (0 : Int32).toNatClampNeg = 0 := by decide
  have an : ∀ v : Bool, bb v &&& 1 = bb v := by decide
  have e8 : mI (sI M 76 7 (mI M 82 7)) 82 8 = bb v := (rI_ne (by decide)).trans h8
  have e9 : mI (sI (sI M 76 7 (mI M 82 7)) 76 8 (bb v)) 82 9 = x := ((rI_ne (by decide)).trans (rI_ne (by decide))).trans h9
  unfold F_X7_copy_76_82
  rw [e8, if_pos (an v), e9, h7]
  generalize hX : sI (sI (sI M 76 7 (zi k)) 76 8 (bb v)) 76 9 x = X
  have x7 : mI X 76 7 = zi k := by rw [← hX]; exact (rI_nk (by decide)).trans ((rI_nk (by decide)).trans rI_at)
  have x8 : mI X 76 8 = bb v := by rw [← hX]; exact (rI_nk (by decide)).trans rI_at
  have x9 : mI X 76 9 = x := by rw [← hX]; exact rI_at
  have xr : ∀ q j, q ≠ 76 → X.1 q j = M.1 q j := fun q j hq => by rw [← hX]; exact (rI_ne hq).trans ((rI_ne hq).trans (rI_ne hq))
  have x2 : X.2 = M.2 := by rw [← hX]; rfl
  have y1 : mI (cA X 83 77 0 0 k) 76 7 = zi k := x7
  have y2 : mI (cA (cA X 83 77 0 0 k) 84 78 0 0 k) 76 7 = zi k := x7
  have y3 : mI (cA (cA (cA X 83 77 0 0 k) 84 78 0 0 k) 85 79 0 0 k) 76 7 = zi k := x7
  rw [x7, if_pos (cpOK_k hk), z0, zi_natN (by omega), lt_z, y1, if_pos (cpOK_k hk), zi_natN (by omega), y2, if_pos (cpOK_k hk), zi_natN (by omega), lt_z, y3, if_pos (cpOK_k hk), zi_natN (by omega)]
  have ea : ∀ q, X.2.2.1 q = M.2.2.1 q := fun q => by rw [x2]
  refine ⟨_, rfl, x7, x8, x9, fun i hi => ⟨?_, ?_, ?_, ?_⟩, fun q j hq => xr q j hq, fun q q1 q2 q3 => ?_, fun q hq => ?_, ?_⟩
  · show (cA (cA (cA X 83 77 0 0 k) 84 78 0 0 k) 85 79 0 0 k).2.2.1 77 i = _
    rw [cpy_ne (by decide), cpy_ne (by decide)]
    exact (cpy_in hi).trans (congrFun (ea 83) i)
  · show (cA (cA (cA X 83 77 0 0 k) 84 78 0 0 k) 85 79 0 0 k).2.2.1 78 i = _
    rw [cpy_ne (by decide)]
    refine (cpy_in hi).trans ?_
    show (cA X 83 77 0 0 k).2.2.1 84 i = _
    rw [cpy_ne (by decide)]
    exact congrFun (ea 84) i
  · show mA (cA (cA (cA X 83 77 0 0 k) 84 78 0 0 k) 85 79 0 0 k) 79 i = _
    refine (cpy_in hi).trans ?_
    show (cA (cA X 83 77 0 0 k) 84 78 0 0 k).2.2.1 85 i = _
    rw [cpy_ne (by decide), cpy_ne (by decide)]
    exact congrFun (ea 85) i
  · refine (bpy_in hi).trans ?_
    show X.2.2.2.1 86 i = _
    rw [x2]
  · show (cA (cA (cA X 83 77 0 0 k) 84 78 0 0 k) 85 79 0 0 k).2.2.1 q = _
    rw [cpy_ne q3, cpy_ne q2, cpy_ne q1]
    exact ea q
  · show (u1 X.2.2.2.1 80 _) q = _
    rw [u1_ne hq, x2]
  · show X.2.2.2.2 = _
    rw [x2]
/-- where the wish, the tape and the place of the fault have changed -/
theorem Rel_ws {M M1 : PM} {C : Cal} {S : Sta} {W : Wsh} (h1 : WFC C) (h2 : CalC M C) (h3 : CalM M C) (h7 : WFW C W) (h8 : WisC M1 C W) (h9 : WisM M1 C W) (h10 : ImgR M C) (h4 : WFS C S) (h5 : StaC M C S 16) (h6 : StaM M C S) (h12 : CntR M) (t1 : mI M1 1 1 = zi 0) (t2 : mI M1 99 1 = zi 0) (t3 : mI M1 0 13 = mI M1 99 3)
    (i : ∀ p ∈ kIl, p ∉ [(1, 1), (99, 1), (0, 13), (99, 3), (76, 7), (76, 8), (76, 9), (99, 24), (99, 27)] → M1.1 p.1 p.2 = M.1 p.1 p.2) (a : ∀ q ∈ kAl, q ∉ [77, 78, 79] → M1.2.2.1 q = M.2.2.1 q) (b : ∀ q ∈ kBl, q ≠ 80 → M1.2.2.2.1 q = M.2.2.2.1 q) (g : ∀ q ∈ kGl, q ≠ 116 → ∀ i, M1.2.2.2.2 q i = M.2.2.2.2 q i) : Rel M1 := by
  have iI : ∀ q k, (q, k) ∈ kIl → (q, k) ∉ [(1, 1), (99, 1), (0, 13), (99, 3), (76, 7), (76, 8), (76, 9), (99, 24), (99, 27)] → mI M1 q k = mI M q k := fun q k x y => i (q, k) x y
  have iA : ∀ q, q ∈ kAl → q ∉ [77, 78, 79] → mA M1 q = mA M q := a
  have iB : ∀ q, q ∈ kBl → q ≠ 80 → mB M1 q = mB M q := b
  have iG : ∀ q i, q ∈ kGl → q ≠ 116 → mG M1 q i = mG M q i := fun q i x y => g q x y i
  refine ⟨C, S, W, h1, ?_, ?_, h4, ?_, ?_, h7, h8, h9, ?_, ⟨0, fun _ => 0, by decide, t1, t2, fun i hi => absurd hi (Nat.not_lt_zero i)⟩, ⟨t3, ?_, ?_, ?_⟩⟩
  · unfold CalC LawC at h2 ⊢
    simp only [iI 4 4 (by decide) (by decide), iI 9 4 (by decide) (by decide), iI 3 4 (by decide) (by decide), iI 3 5 (by decide) (by decide), iI 3 6 (by decide) (by decide), iI 3 7 (by decide) (by decide), iA (4 + 1) (by decide) (by decide), iA (4 + 2) (by decide) (by decide), iA (9 + 1) (by decide) (by decide), iA (9 + 2) (by decide) (by decide), iA 8 (by decide) (by decide), iA 15 (by decide) (by decide), iB (4 + 3) (by decide) (by decide), iB (9 + 3) (by decide) (by decide)]
    exact h2
  · unfold CalM at h3 ⊢
    simp only [iA 103 (by decide) (by decide), iA 105 (by decide) (by decide), iA 107 (by decide) (by decide), iA 109 (by decide) (by decide), iA 111 (by decide) (by decide), iA 113 (by decide) (by decide)]
    exact h3
  · unfold StaC at h5 ⊢
    simp only [iI 16 4 (by decide) (by decide), iI 16 9 (by decide) (by decide), iI 16 12 (by decide) (by decide), iA (16 + 1) (by decide) (by decide), iA (16 + 2) (by decide) (by decide), iA (16 + 3) (by decide) (by decide), iA (16 + 4) (by decide) (by decide), iA (16 + 5) (by decide) (by decide), iA (16 + 6) (by decide) (by decide), iA (16 + 7) (by decide) (by decide), iA (16 + 8) (by decide) (by decide), iA (16 + 9) (by decide) (by decide), iA (16 + 10) (by decide) (by decide)]
    exact h5
  · unfold StaM at h6 ⊢
    simp only [iI 99 32 (by decide) (by decide), iI 99 33 (by decide) (by decide), iI 99 34 (by decide) (by decide), fun i => iG 115 i (by decide) (by decide), fun i => iG 119 i (by decide) (by decide), fun i => iG 120 i (by decide) (by decide), fun i => iG 121 i (by decide) (by decide)]
    exact h6
  · obtain ⟨n, j1, j2, j3, j4⟩ := h10
    refine ⟨n, j1, (iI 0 5 (by decide) (by decide)).trans j2, (iI 99 35 (by decide) (by decide)).trans j3, fun r hr => ?_⟩
    obtain ⟨S', s1, s2, s3⟩ := j4 r hr
    refine ⟨S', s1, ?_, ?_⟩
    · unfold StaC at s2 ⊢
      have hr3 : r = 0 ∨ r = 1 ∨ r = 2 := by omega
      have j3 : ∀ k, (k = 4 ∨ k = 9 ∨ k = 12) → mI M1 (43 + 11 * r) k = mI M (43 + 11 * r) k := fun k hk => by
        rcases hr3 with rfl | rfl | rfl <;> rcases hk with rfl | rfl | rfl <;> exact iI _ _ (by decide) (by decide)
      have m0 : ∀ k, k < 10 → 43 + 11 * 0 + (k + 1) ∈ kAl ∧ 43 + 11 * 0 + (k + 1) ∉ [77, 78, 79] := by decide
      have m1 : ∀ k, k < 10 → 43 + 11 * 1 + (k + 1) ∈ kAl ∧ 43 + 11 * 1 + (k + 1) ∉ [77, 78, 79] := by decide
      have m2 : ∀ k, k < 10 → 43 + 11 * 2 + (k + 1) ∈ kAl ∧ 43 + 11 * 2 + (k + 1) ∉ [77, 78, 79] := by decide
      have j5 : ∀ k, k < 10 → mA M1 (43 + 11 * r + (k + 1)) = mA M (43 + 11 * r + (k + 1)) := fun k hk => by
        rcases hr3 with rfl | rfl | rfl
        · exact iA _ (m0 k hk).1 (m0 k hk).2
        · exact iA _ (m1 k hk).1 (m1 k hk).2
        · exact iA _ (m2 k hk).1 (m2 k hk).2
      simp only [j3 4 (by decide), j3 9 (by decide), j3 12 (by decide), j5 0 (by decide), j5 1 (by decide), j5 2 (by decide), j5 3 (by decide), j5 4 (by decide), j5 5 (by decide), j5 6 (by decide), j5 7 (by decide), j5 8 (by decide), j5 9 (by decide)]
      exact s2
    · unfold Kept at s3 ⊢
      simp only [fun i => iG 122 i (by decide) (by decide)]
      exact s3
  · exact (iI 0 14 (by decide) (by decide)).trans (h12.2.1.trans (congrFun (iA 101 (by decide) (by decide)) 0).symm)
  · exact (iI 0 15 (by decide) (by decide)).trans (h12.2.2.1.trans (congrFun (iA 101 (by decide) (by decide)) 1).symm)
  · exact (iI 0 16 (by decide) (by decide)).trans (h12.2.2.2.trans (congrFun (iA 101 (by decide) (by decide)) 2).symm)
theorem wf1_ok {C : Cal} {b : Nat → Nat} {n : Nat} {o : WOut} (h : OKo C n 0 W00 o) (hf : wf1 C b n o = 0) : o.1 = 0 ∧ WFd C o.2.2.2 ∧ WFW C o.2.2.2 := by
  unfold wf1 at hf
  by_cases u : o.1 = 0
  rotate_left
  · rw [if_pos u] at hf; exact absurd hf u
  rw [if_neg (fun v => v u)] at hf
  by_cases q : sb b n o.2.2.1 = n
  rotate_left
  · rw [if_pos q] at hf; exact absurd hf (by decide)
  rw [if_neg (fun v => v q)] at hf
  by_cases w : hT C o.2.2.2 ≤ 100000
  rotate_left
  · rw [if_neg w] at hf; exact absurd hf (by decide)
  obtain ⟨g1, g2, g3, g4, g5, g6⟩ := h u
  exact ⟨u, g5, g5.1, w, fun _ => by rw [g4]; exact Nat.succ_pos _, g5.2⟩
theorem wishM_read {M : PM} {b : Nat → Nat} {n : Nat} {C : Cal} {o : WOut} (hc : WFC C) (hcm : CalM M C) (h0 : mI M 99 0 = zi 0) (hn : n ≤ 500) (hb : ∀ i, i < n → mA M 100 i = zi (b i) ∧ b i < 256) (hw : o.1 = 0 → WFd C o.2.2.2) (hr : ∀ Mr, CalM Mr C → StWM b n Mr C (wGood 0 W00) 0 → ∃ Mr', G_orow 60 0 Mr = rV Mr' ∧ SamM Mr Mr' ∧ StWM b n Mr' C o 0) : ∃ M', F_X11_wish_99_30 M (zi n) (zi 0) = F_X11_wish_99_125 M' ∧ (∀ p ∈ kIl, p ≠ (99, 1) → M'.1 p.1 p.2 = M.1 p.1 p.2) ∧ (∀ q ∈ kAl, M'.2.2.1 q = M.2.2.1 q) ∧ (∀ q ∈ kBl, M'.2.2.2.1 q = M.2.2.2.1 q) ∧ (∀ q ∈ kGl, ∀ i, M'.2.2.2.2 q i = M.2.2.2.2 q i) ∧ M'.2.2.2.1 129 = M.2.2.2.1 129 ∧ M'.1 99 0 = M.1 99 0 ∧ mI M' 99 1 = zi 0 ∧ mI M' 99 5 = zi (wf1 C b n o) ∧ mI M' 99 6 = zi (wf2 C b n o) ∧ (wf1 C b n o = 0 → DWM M' C o.2.2.2) := by
  obtain ⟨M1, s1, s2, s3, s4, s5, s6, s7⟩ := starts_m hn hb
  have e5 : mA (sI M1 99 25 0) 103 5 = zi (t5 C) := by
    show M1.2.2.1 103 5 = _
    rw [s5]
    exact hcm.1.2.2.2.2.2
  unfold F_X11_wish_99_30
  rw [bad_f h0, cI_s, if_pos (show zi 0 = 0 from rfl), s1, cV_s, if_pos (by decide), show (5 : Int32).toNatClampNeg = 5 from by decide, e5]
  have sm0 : SamM M1 (sI (sI (sI (sI M1 99 25 0) 99 28 (zi (t5 C))) 99 26 0) 99 4 (zi 0)) := ⟨Sam.i 99 4 _ (by decide) (Sam.i 99 26 _ (by decide) (Sam.i 99 28 _ (by decide) (Sam.i 99 25 _ (by decide) Sam.rf))), rfl⟩
  have tm : TM b (sI (sI (sI M1 99 25 0) 99 28 (zi (t5 C))) 99 26 0) n (sb b n 0) 0 (-1) := s2.kp (fun k k1 k2 => (rI_nk (by omega)).trans ((rI_nk (by omega)).trans (rI_nk (by omega)))) rfl
  have tm1 : TM b (sI (sI (sI (sI M1 99 25 0) 99 28 (zi (t5 C))) 99 26 0) 99 4 (zi 0)) n 0 0 (-1) := ⟨(rI_nk (by decide)).trans tm.1, rI_at, (rI_nk (by decide)).trans tm.2.2.1, (rI_nk (by decide)).trans tm.2.2.2.1, Nat.zero_le _, tm.2.2.2.2.2.1, tm.2.2.2.2.2.2.1, tm.2.2.2.2.2.2.2⟩
  have eo : G_orow 60 0 (sI (sI (sI M1 99 25 0) 99 28 (zi (t5 C))) 99 26 0) = G_orow 60 0 (sI (sI (sI (sI M1 99 25 0) 99 28 (zi (t5 C))) 99 26 0) 99 4 (zi 0)) := orow_at tm 57
  have d25 : mI (sI (sI (sI (sI M1 99 25 0) 99 28 (zi (t5 C))) 99 26 0) 99 4 (zi 0)) 99 25 = zi 0 := rfl
  have d28 : mI (sI (sI (sI (sI M1 99 25 0) 99 28 (zi (t5 C))) 99 26 0) 99 4 (zi 0)) 99 28 = zi (t5 C) := rfl
  have d26 : mI (sI (sI (sI (sI M1 99 25 0) 99 28 (zi (t5 C))) 99 26 0) 99 4 (zi 0)) 99 26 = zi 0 := rfl
  have cm : CalM (sI (sI (sI (sI M1 99 25 0) 99 28 (zi (t5 C))) 99 26 0) 99 4 (zi 0)) C := by
    have ea : (sI (sI (sI (sI M1 99 25 0) 99 28 (zi (t5 C))) 99 26 0) 99 4 (zi 0)).2.2.1 = M.2.2.1 := by
      show M1.2.2.1 = _
      rw [s5]
    have hcm' := hcm
    unfold CalM mA at hcm' ⊢
    rw [ea]
    exact hcm'
  rw [eo]
  generalize sI (sI (sI (sI M1 99 25 0) 99 28 (zi (t5 C))) 99 26 0) 99 4 (zi 0) = N at *
  obtain ⟨M2, r1, r2, r3⟩ := hr N cm (Or.inl ⟨rfl, tm1, ⟨d25, d28, fun i hi => absurd hi (Nat.not_lt_zero i)⟩, d26⟩)
  obtain ⟨M3, w1, w2, w3, w4, w5⟩ := wishM_end hc r3 hw
  rw [r1, cV_s, w1]
  have sm := (sm0.tr r2).tr w2
  refine ⟨M3, rfl, fun p hp hne => (sm.1.1.1 p hp).trans ?_, fun q hq => (sm.1.1.2.1 q hq).trans (by rw [s5]), fun q hq => (sm.1.1.2.2.1 q hq).trans (by rw [s5]), fun q hq i => (sm.1.1.2.2.2 q hq i).trans (by rw [s5]), sm.1.2.trans (by rw [s5]), sm.2.trans (s7 0 (by decide) (by decide) (by decide) (by decide) (by decide) (by decide)), (sm.1.1.1 (99, 1) (by decide)).trans s4, w3, w4, w5⟩
  by_cases q : p.1 = 99
  · obtain ⟨p1, p2⟩ := p
    simp only at q
    subst q
    show M1.1 99 p2 = M.1 99 p2
    refine s7 p2 (fun e => hne (by rw [e])) (fun e => ?_) (fun e => ?_) (fun e => ?_) (fun e => ?_) (fun e => ?_) <;> (rw [e] at hp; exact absurd hp (by decide))
  · exact s6 p.1 p.2 q
