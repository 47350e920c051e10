/-! wish: the reference's end -/
theorem one_at {b : Nat → Nat} {M : PM} {n : Nat} {rc : Nat → PM → Option PR} (h : TM b M n (sb b n 0) 0 (-1)) : F_X11_one_99 rc M = F_X11_one_99 rc (sI M 99 4 (zi 0)) := by
  have h0 : TM b (sI M 99 4 (zi 0)) n 0 0 (-1) := ⟨(rI_nk (by decide)).trans h.1, rI_at, (rI_nk (by decide)).trans h.2.2.1, (rI_nk (by decide)).trans h.2.2.2.1, Nat.zero_le _, h.2.2.2.2.2.1, h.2.2.2.2.2.2.1, h.2.2.2.2.2.2.2⟩
  have same : ∀ N : PM, TM b N n (sb b n 0) 0 (-1) → (∀ q k, ¬ (q = 99 ∧ 4 ≤ k ∧ k ≤ 6) → N.1 q k = M.1 q k) → N.2 = M.2 → N = M := fun N t k1 k2 => by
    refine Prod.ext (funext fun q => funext fun k => ?_) k2
    by_cases e : q = 99 ∧ 4 ≤ k ∧ k ≤ 6
    · obtain ⟨rfl, e1, e2⟩ := e
      have e3 : k = 4 ∨ k = 5 ∨ k = 6 := by omega
      rcases e3 with rfl | rfl | rfl
      · exact t.2.1.trans h.2.1.symm
      · exact t.2.2.1.trans h.2.2.1.symm
      · exact t.2.2.2.1.trans h.2.2.2.1.symm
    · exact k1 q k e
  obtain ⟨M1, a1, a2, a3⟩ := blanks_m h
  obtain ⟨M2, c1, c2, c3⟩ := blanks_m h0
  rw [sb_sb (Nat.zero_le n)] at a2
  have e1 := same M1 a2 a3.1 a3.2
  have e2 := same M2 c2 (fun q k e => (c3.1 q k e).trans (u2_ne (fun v => e ⟨v.1, by omega, by omega⟩))) c3.2
  rw [e1] at a1
  rw [e2] at c1
  unfold F_X11_one_99
  rw [h.2.2.1, h0.2.2.1, if_pos (show zi 0 = 0 from rfl), if_pos (show zi 0 = 0 from rfl), a1, c1]
theorem orow_at {b : Nat → Nat} {M : PM} {n : Nat} (h : TM b M n (sb b n 0) 0 (-1)) (k : Nat) : G_orow (k + 3) 0 M = G_orow (k + 3) 0 (sI M 99 4 (zi 0)) := by
  have e2 : G_orow (k + 1) 2 M = G_orow (k + 1) 2 (sI M 99 4 (zi 0)) := one_at (rc := G_orow k) h
  have e1 : G_orow (k + 2) 1 M = G_orow (k + 2) 1 (sI M 99 4 (zi 0)) := by
    show F_X11_andRow_99 (G_orow (k + 1)) M = F_X11_andRow_99 (G_orow (k + 1)) (sI M 99 4 (zi 0))
    unfold F_X11_andRow_99
    rw [e2]
  show F_X11_orRow_99 (G_orow (k + 2)) M = F_X11_orRow_99 (G_orow (k + 2)) (sI M 99 4 (zi 0))
  unfold F_X11_orRow_99
  rw [e1]
theorem wishM_end {b : Nat → Nat} {M : PM} {n : Nat} {C : Cal} {o : WOut} (hc : WFC C) (h : StWM b n M C o 0) (hw : o.1 = 0 → WFd C o.2.2.2) : ∃ M', (cV (F_X11_blanks_99 M) fun M1152 => (if mI M1152 99 5 = 0 then (if mI M1152 99 2 ≤ mI M1152 99 4 then F_X11_wish_99_100 M1152 else cV (F_X11_wrong_99 M1152 1 (mI M1152 99 4)) fun M1153 => F_X11_wish_99_100 M1153) else F_X11_wish_99_100 M1152)) = F_X11_wish_99_125 M' ∧ SamM M M' ∧ mI M' 99 5 = zi (wf1 C b n o) ∧ mI M' 99 6 = zi (wf2 C b n o) ∧ (wf1 C b n o = 0 → DWM M' C o.2.2.2) := by
  have nz : ∀ f : Int, 0 ≤ f ∧ f ≤ 4 → f ≠ 0 → ¬ zi f = 0 := fun f h1 h2 => by rw [show (0 : Int32) = zi 0 from rfl, zi_eq (by omega) (by omega)]; exact h2
  have bad : ∀ (N : PM) (p : Nat) (f g : Int), TM b N n p f g → f ≠ 0 → F_X11_wish_99_100 N = F_X11_wish_99_125 N := fun N p f g t hf => by
    unfold F_X11_wish_99_100
    rw [t.2.2.1, if_neg (nz f t.2.2.2.2.2.2.1 hf)]
  rcases h with ⟨u1, t, d, _⟩ | ⟨u1, p, t⟩
  · obtain ⟨M1, a1, a2, a3⟩ := blanks_m t
    have hs := a2.2.2.2.2.1
    have hn := a2.2.2.2.2.2.1
    rw [a1, cV_s, a2.2.2.1, if_pos (show zi 0 = 0 from rfl), a2.1, a2.2.1]
    by_cases q : sb b n o.2.2.1 = n
    · have rr := rtW_rng (C := C) (W := o.2.2.2) hc (hN o.2.2.2) (WFd_day (hw u1))
      obtain ⟨e1, e2⟩ := hT_rt hc (hw u1)
      have d1 := d.kr a3
      rw [if_pos (by rw [zi_le (by omega) (by omega)]; omega)]
      by_cases w : hT C o.2.2.2 ≤ 100000
      · have v1 : wf1 C b n o = 0 := by unfold wf1; rw [if_neg (fun v => v u1), if_neg (fun v => v q), if_pos w]
        have v2 : wf2 C b n o = -1 := by unfold wf2; rw [if_neg (fun v => v u1), if_neg (fun v => v q), if_pos w]
        have hr := e1.mpr w
        refine ⟨M1, ?_, a3.samM, by rw [v1]; exact a2.2.2.1, by rw [v2]; exact a2.2.2.2.1, fun _ => d1⟩
        unfold F_X11_wish_99_100
        rw [a2.2.2.1, if_pos (show zi 0 = 0 from rfl), d1.2.1, if_pos (by rw [show (100000 : Int32) = zi 100000 from rfl, zi_le (by omega) (by omega)]; omega)]
      · have v1 : wf1 C b n o = 4 := by unfold wf1; rw [if_neg (fun v => v u1), if_neg (fun v => v q), if_neg w]
        have v2 : wf2 C b n o = n := by unfold wf2; rw [if_neg (fun v => v u1), if_neg (fun v => v q), if_neg w]
        have hr : ¬ rtW C o.2.2.2 (hN o.2.2.2) ≤ 100000 := fun v => w (e1.mp v)
        obtain ⟨M2, c1, c2, c3⟩ := wrong_m (x := 4) (y := (n : Int)) a2 (by decide)
        rw [if_pos rfl, if_pos rfl] at c2
        refine ⟨M2, ?_, a3.samM.tr c3.samM, by rw [v1]; exact c2.2.2.1, by rw [v2]; exact c2.2.2.2.1, fun v => by rw [v1] at v; exact absurd v (by decide)⟩
        unfold F_X11_wish_99_100
        rw [a2.2.2.1, if_pos (show zi 0 = 0 from rfl), d1.2.1, if_neg (by rw [show (100000 : Int32) = zi 100000 from rfl, zi_le (by omega) (by omega)]; omega), a2.1, show (4 : Int32) = zi 4 from rfl, c1, cV_s]
    · have v1 : wf1 C b n o = 1 := by unfold wf1; rw [if_neg (fun v => v u1), if_pos q]
      have v2 : wf2 C b n o = ((sb b n o.2.2.1 : Nat) : Int) := by unfold wf2; rw [if_neg (fun v => v u1), if_pos q]
      obtain ⟨M2, c1, c2, c3⟩ := wrong_m (x := 1) (y := ((sb b n o.2.2.1 : Nat) : Int)) a2 (by decide)
      rw [if_pos rfl, if_pos rfl] at c2
      rw [if_neg (by rw [zi_le (by omega) (by omega)]; omega), show (1 : Int32) = zi 1 from rfl, c1, cV_s]
      exact ⟨M2, bad M2 _ _ _ c2 (by decide), a3.samM.tr c3.samM, by rw [v1]; exact c2.2.2.1, by rw [v2]; exact c2.2.2.2.1, fun v => by rw [v1] at v; exact absurd v (by decide)⟩
  · obtain ⟨M1, a1, a2, a3⟩ := blanks_m t
    have v1 : wf1 C b n o = o.1 := by unfold wf1; rw [if_pos u1]
    have v2 : wf2 C b n o = o.2.1 := by unfold wf2; rw [if_pos u1]
    rw [a1, cV_s, a2.2.2.1, if_neg (nz _ a2.2.2.2.2.2.2.1 u1)]
    exact ⟨M1, bad M1 _ _ _ a2 u1, a3.samM, by rw [v1]; exact a2.2.2.1, by rw [v2]; exact a2.2.2.2.1, fun v => by rw [v1] at v; exact absurd v u1⟩
def KQ (M M' : PM) : Prop := M'.1 = M.1 ∧ M'.2.2.1 = M.2.2.1 ∧ M'.2.2.2.1 = M.2.2.2.1 ∧ ∀ q, q ≠ 116 → ∀ i, M'.2.2.2.2 q i = M.2.2.2.2 q i
theorem KQ.rf {M : PM} : KQ M M := ⟨rfl, rfl, rfl, fun _ _ _ => rfl⟩
theorem KQ.tr {M M1 M2 : PM} (h : KQ M M1) (g : KQ M1 M2) : KQ M M2 := ⟨g.1.trans h.1, g.2.1.trans h.2.1, g.2.2.1.trans h.2.2.1, fun q hq i => (g.2.2.2 q hq i).trans (h.2.2.2 q hq i)⟩
theorem KQ.g {M : PM} {i k : Nat} {x : Int32} : KQ M (sG M 116 i k x) := ⟨rfl, rfl, rfl, fun q hq i => u2_ne (fun e => hq e.1)⟩
theorem w176 {M : PM} {h : Nat} {k : PM → Int32 → Option PR} (hh : h < 220) : ∃ M1, F_X11_wish_99_176 k FUEL M (zi h) 0 = k M1 (zi ((h + 1 : Nat))) ∧ KQ M M1 ∧ (∀ i j, i ≠ h → mG M1 116 i j = mG M 116 i j) ∧ ∀ l, l < 3 → mG M1 116 h l = mG M 117 h l := by
  refine loopS (σ := PM × Nat) (fun f q => F_X11_wish_99_176 k f q.1 (zi h) (zi (q.2 : Nat))) (fun o => ∃ M1, o = k M1 (zi ((h + 1 : Nat))) ∧ KQ M M1 ∧ (∀ i j, i ≠ h → mG M1 116 i j = mG M 116 i j) ∧ ∀ l, l < 3 → mG M1 116 h l = mG M 117 h l) (fun r q => r = 3 - q.2 ∧ q.2 ≤ 3 ∧ KQ M q.1 ∧ (∀ i j, i ≠ h → mG q.1 116 i j = mG M 116 i j) ∧ ∀ l, l < q.2 → mG q.1 116 h l = mG M 117 h l) ?_ 3 (M, 0) FUEL ⟨rfl, Nat.zero_le _, KQ.rf, fun _ _ _ => rfl, fun j hj => absurd hj (Nat.not_lt_zero j)⟩ (FUEL_gt (by omega))
  rintro f r ⟨M1, l⟩ ⟨i1, i2, i3, i4, i5⟩
  simp only at i1 i2 i3 i4 i5
  show (∃ M2, F_X11_wish_99_176 k (f + 1) M1 (zi h) (zi (l : Nat)) = _ ∧ _) ∨ _
  rw [F_X11_wish_99_176]
  by_cases q : l = 3
  · left
    refine ⟨M1, ?_, i3, i4, q ▸ i5⟩
    rw [if_pos (by rw [q]; decide), show (1 : Int32) = zi 1 from rfl, zi_add, lt_z, zc (show (h : Int) + 1 = ((h + 1 : Nat) : Int) by omega)]
  · right
    refine ⟨3 - (l + 1), (sG M1 116 h l (mG M1 117 h l), l + 1), by omega, ⟨rfl, by show l + 1 ≤ 3; omega, i3.tr KQ.g, fun i j hi => ?_, fun t ht => ?_⟩, ?_⟩
    · exact (congrFun (rG_nr hi : (sG M1 116 h l (mG M1 117 h l)).2.2.2.2 116 i = M1.2.2.2.2 116 i) j).trans (i4 i j hi)
    · have ht' : t < l + 1 := ht
      show (sG M1 116 h l (mG M1 117 h l)).2.2.2.2 116 h t = _
      by_cases q2 : t = l
      · rw [q2, rG_at]; exact congrFun (i3.2.2.2 117 (by decide) h) l
      · rw [rG_nk q2]; exact i5 t (by omega)
    · rw [if_neg (by rw [show (3 : Int32) = zi 3 from rfl, zi_le (by omega) (by omega)]; omega), if_pos (zi_ixT (by omega) (by omega)), if_pos (zi_ixT (by omega) (by omega)), if_pos ⟨by rw [zi_natN (by omega)]; omega, zi_ixT (by omega) (by omega)⟩, if_pos ⟨by rw [zi_natN (by omega)]; omega, zi_ixT (by omega) (by omega)⟩, zi_natN (by omega), zi_natN (by omega), show (1 : Int32) = zi 1 from rfl, zi_add, lt_z, zc (show (l : Int) + 1 = ((l + 1 : Nat) : Int) by omega)]
theorem w166 {M : PM} {m : Nat} (hm : mI M 99 24 = zi m) (hm2 : m ≤ 100) : ∃ M1, F_X11_wish_99_166 FUEL M 0 = rI (zi 1) M1 ∧ KQ M M1 ∧ ∀ h l, h < m → l < 3 → mG M1 116 h l = mG M 117 h l := by
  refine loopS (σ := PM × Nat) (fun f q => F_X11_wish_99_166 f q.1 (zi (q.2 : Nat))) (fun o => ∃ M1, o = rI (zi 1) M1 ∧ KQ M M1 ∧ ∀ h l, h < m → l < 3 → mG M1 116 h l = mG M 117 h l) (fun r q => r = m - q.2 ∧ q.2 ≤ m ∧ KQ M q.1 ∧ ∀ h l, h < q.2 → l < 3 → mG q.1 116 h l = mG M 117 h l) ?_ m (M, 0) FUEL ⟨rfl, Nat.zero_le _, KQ.rf, fun j l hj => absurd hj (Nat.not_lt_zero j)⟩ (FUEL_gt (by omega))
  rintro f r ⟨M1, i⟩ ⟨i1, i2, i3, i4⟩
  simp only at i1 i2 i3 i4
  show (∃ M2, F_X11_wish_99_166 (f + 1) M1 (zi (i : Nat)) = _ ∧ _) ∨ _
  have eH : mI M1 99 24 = zi m := by rw [mI, i3.1]; exact hm
  rw [F_X11_wish_99_166, eH]
  by_cases q : i = m
  · left
    exact ⟨M1, by rw [if_pos (by rw [zi_le (by omega) (by omega)]; omega)]; rfl, i3, q ▸ i4⟩
  · right
    obtain ⟨M2, a1, a2, a3, a4⟩ := w176 (M := M1) (h := i) (k := F_X11_wish_99_166 f) (by omega)
    refine ⟨m - (i + 1), (M2, i + 1), by omega, ⟨rfl, by show i + 1 ≤ m; omega, i3.tr a2, fun h l h1 h2 => ?_⟩, ?_⟩
    · have h1' : h < i + 1 := h1
      by_cases q2 : h = i
      · rw [q2, a4 l h2]; exact congrFun (i3.2.2.2 117 (by decide) i) l
      · rw [a3 h l q2]; exact i4 h l (by omega) h2
    · rw [if_neg (by rw [zi_le (by omega) (by omega)]; omega), a1]
