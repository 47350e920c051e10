/-! wish: reading as a whole -/
theorem KPp.tc {b : Nat → Nat} {M M' : PM} {n p s : Nat} {f g : Int} (h : KPp M M') (t : TC b M n p s f g) : TC b M' n p s f g := t.kp (fun k _ _ => h.1 1 k (by omega)) (by rw [h.2.1])
theorem read27 {b : Nat → Nat} {M : PM} {n p st k x : Nat} {f g : Int} {s a : Nat → Nat} (t : TC b M n p st f g) (hk : k ≤ 100) (h7 : mI M 82 7 = zi k) (h8 : mI M 82 8 = zi 0) (h9 : mI M 82 9 = zi x) (hx : 0 < x ∧ x ≤ 100000) (hs : ∀ i, i < k → (mA M 83 i = zi 2 ↔ s i = 2) ∧ (mA M 83 i = zi 1 ↔ s i = 1) ∧ (s i = 2 → mA M 84 i = zi (a i) ∧ 2 ≤ a i ∧ a i ≤ 99)) : ∃ M', F_X8_read_88_82_27 M = rV M' ∧ Sam0 M M' ∧ mI M' 1 5 = zi (if f = 0 ∧ ¬ cpP x (fun i => decide (s i = 2)) a k ≤ 100000 then 4 else f) ∧ mI M' 1 6 = zi (if f = 0 ∧ ¬ cpP x (fun i => decide (s i = 2)) a k ≤ 100000 then (n : Int) else g) ∧ (cpP x (fun i => decide (s i = 2)) a k ≤ 100000 → mI M' 82 7 = zi k ∧ M'.2.2.1 = M.2.2.1 ∧ mI M' 82 9 = zi (cpP x (fun i => decide (s i = 2)) a k) ∧ mI M' 82 8 = bb (decide (0 < fb_ct (fun i => decide (s i = 1)) k)) ∧ ∀ i, i < k → s i = 2 → EvB (mB M' 86 i) (a i)) := by
  obtain ⟨M1, p1, p2, p3, p4, p5⟩ := prep_s hk h7 h8 h9 hx hs
  have hr := cpP_rng (x := x) (p := fun i => decide (s i = 2)) (a := a) (m := k) hx (fun j hj u => ((hs j hj).2.2 (of_decide_eq_true u)).2) k (Nat.le_refl _)
  have t1 := p2.tc t
  unfold F_X8_read_88_82_27
  rw [p1, cV_s, p3]
  by_cases q : cpP x (fun i => decide (s i = 2)) a k ≤ 100000
  · rw [if_pos (by rw [show (100000 : Int32) = zi 100000 from rfl, zi_le (by omega) (by omega)]; omega), if_neg (fun u => u.2 q), if_neg (fun u => u.2 q)]
    exact ⟨M1, rfl, p2.sam, t1.2.2.2.1, t1.2.2.2.2.1, fun _ => ⟨(p2.1 82 7 (by decide)).trans h7, p2.2.1, p3, p4, p5⟩⟩
  · obtain ⟨M2, b1, b2, b3⟩ := blame_c (x := 4) (y := (n : Int)) t1 (by decide)
    rw [if_neg (by rw [show (100000 : Int32) = zi 100000 from rfl, zi_le (by omega) (by omega)]; omega), t1.1, show (4 : Int32) = zi 4 from rfl, b1, cV_s]
    refine ⟨M2, rfl, p2.sam.tr b3.sam, ?_, ?_, fun u => absurd u q⟩
    · rw [b2.2.2.2.1]
      by_cases q2 : f = 0
      · rw [if_pos q2, if_pos ⟨q2, q⟩]
      · rw [if_neg q2, if_neg (fun u => q2 u.1)]
    · rw [b2.2.2.2.2.1]
      by_cases q2 : f = 0
      · rw [if_pos q2, if_pos ⟨q2, q⟩]
      · rw [if_neg q2, if_neg (fun u => q2 u.1)]
def wf1 (C : Cal) (b : Nat → Nat) (n : Nat) (o : WOut) : Int := if o.1 ≠ 0 then o.1 else if sb b n o.2.2.1 ≠ n then 1 else if hT C o.2.2.2 ≤ 100000 then 0 else 4
def wf2 (C : Cal) (b : Nat → Nat) (n : Nat) (o : WOut) : Int := if o.1 ≠ 0 then o.2.1 else if sb b n o.2.2.1 ≠ n then ((sb b n o.2.2.1 : Nat) : Int) else if hT C o.2.2.2 ≤ 100000 then -1 else (n : Int)
theorem hT_cp {C : Cal} {W : Wsh} (hc : WFC C) (hw : WFd C W) : (cpP (t5 C) (fun i => decide (hS W i = 2)) (hA W) (hN W) ≤ 100000 ↔ hT C W ≤ 100000) ∧ (hT C W ≤ 100000 → cpP (t5 C) (fun i => decide (hS W i = 2)) (hA W) (hN W) = hT C W) := by
  have h := cpP_s (x := t5 C) (p := fun i => decide (hS W i = 2)) (a := hA W) (m := hN W) (t5_pos hc) (fun i hi u => by have := WFd_day hw i hi (of_decide_eq_true u); omega) (hN W) (Nat.le_refl _)
  have e : lcs (t5 C) (fun i => decide (hS W i = 2)) (hA W) (hN W) = hT C W := rfl
  rw [e] at h
  exact ⟨⟨fun u => by rw [← h (Or.inl u)]; exact u, fun u => by rw [h (Or.inr u)]; exact u⟩, fun u => h (Or.inr u)⟩
theorem hT_rt {C : Cal} {W : Wsh} (hc : WFC C) (hw : WFd C W) : (rtW C W (hN W) ≤ 100000 ↔ hT C W ≤ 100000) ∧ (hT C W ≤ 100000 → rtW C W (hN W) = hT C W) := by
  have h := rtW_s (C := C) (W := W) (m := hN W) hc (fun i hi u => by have := WFd_day hw i hi u; omega) (hN W) (Nat.le_refl _)
  have e : lcs (t5 C) (fun i => decide (hS W i = 2)) (hA W) (hN W) = hT C W := rfl
  rw [e] at h
  exact ⟨⟨fun u => by rw [← h (Or.inl u)]; exact u, fun u => by rw [h (Or.inr u)]; exact u⟩, fun u => h (Or.inr u)⟩
theorem wishC_read {b : Nat → Nat} {M : PM} {n s0 : Nat} {C : Cal} (hc : WFC C) (cc : CalC M C) (h : TC b M n 0 s0 0 (-1)) (hn : n ≤ 200) : ∃ M' o, F_X8_read_88_82 M = rV M' ∧ Sam0 M M' ∧ mI M' 1 5 = zi (wf1 C b n o) ∧ mI M' 1 6 = zi (wf2 C b n o) ∧ (0 ≤ wf1 C b n o ∧ wf1 C b n o ≤ 4) ∧ OKo C n 0 W00 o ∧ (wf1 C b n o = 0 → DWC M' o.2.2.2 ∧ mI M' 82 9 = zi (hT C o.2.2.2) ∧ mI M' 82 8 = bb (decide (0 < fb_ct (fun i => decide (hS o.2.2.2 i = 1)) (hN o.2.2.2))) ∧ ∀ i, i < hN o.2.2.2 → hS o.2.2.2 i = 2 → EvB (mB M' 86 i) (hA o.2.2.2 i)) ∧ ∀ Mr, CalM Mr C → StWM b n Mr C (wGood 0 W00) 0 → ∃ Mr', G_orow 60 0 Mr = rV Mr' ∧ SamM Mr Mr' ∧ StWM b n Mr' C o 0 := by
  have ht5 := hc.2.2.2.2.2
  have ht5p := t5_pos hc
  unfold F_X8_read_88_82 F_X7_clear_82
  rw [if_pos (by decide), cV_s]
  have sm0 : Sam0 M (sI (sI (sI M 82 7 0) 82 8 0) 82 9 (mI (sI (sI M 82 7 0) 82 8 0) 3 7)) := (Sam.i 82 9 _ (by decide) (Sam.i 82 8 _ (by decide) (Sam.i 82 7 _ (by decide) Sam.rf))).1
  have t0 : TC b (sI (sI (sI M 82 7 0) 82 8 0) 82 9 (mI (sI (sI M 82 7 0) 82 8 0) 3 7)) n 0 s0 0 (-1) := h.kp (fun k _ _ => (rI_ne (by decide)).trans ((rI_ne (by decide)).trans (rI_ne (by decide)))) rfl
  have z7 : mI (sI (sI (sI M 82 7 0) 82 8 0) 82 9 (mI (sI (sI M 82 7 0) 82 8 0) 3 7)) 82 7 = zi 0 := rfl
  have z8 : mI (sI (sI (sI M 82 7 0) 82 8 0) 82 9 (mI (sI (sI M 82 7 0) 82 8 0) 3 7)) 82 8 = zi 0 := rfl
  have z9 : mI (sI (sI (sI M 82 7 0) 82 8 0) 82 9 (mI (sI (sI M 82 7 0) 82 8 0) 3 7)) 82 9 = zi (t5 C) := cc.2.2.2.1.2.2.2
  generalize sI (sI (sI M 82 7 0) 82 8 0) 82 9 (mI (sI (sI M 82 7 0) 82 8 0) 3 7) = M0 at *
  obtain ⟨M1, o, c1, c2, c3, c4, c5⟩ := (PT_all (b := b) hc hn 60).1 0 (by decide) (by decide) M0 0 s0 W00 (cc.sm sm0) t0 ⟨z7, fun i hi => absurd hi (Nat.not_lt_zero i)⟩ ⟨by decide, fun i hi => absurd hi (Nat.not_lt_zero i)⟩ (Nat.le_refl _)
  have c1' : G_read 60 0 M0 0 = rV M1 := c1
  rw [c1', cV_s]
  have y8 : mI M1 82 8 = zi 0 := c2.2.1.trans z8
  have y9 : mI M1 82 9 = zi (t5 C) := c2.2.2.trans z9
  rcases c3 with ⟨u1, ⟨s2, u2⟩, u3⟩ | ⟨u1, ⟨pp, s2, u2⟩, u3⟩
  · obtain ⟨g1, g2, g3, g4, g5, g6⟩ := c4 u1
    obtain ⟨M2, a1, a2, a3⟩ := atEnd_c u2
    rw [a1, cI_s]
    have hp := u2.2.2.2.2.2.1
    -- preparing, whatever stands
    have pr : ∀ (N : PM) (p st : Nat) (f g : Int), TC b N n p st f g → KT M1 N → ∃ M', F_X8_read_88_82_27 N = rV M' ∧ Sam0 N M' ∧ mI M' 1 5 = zi (if f = 0 ∧ ¬ hT C o.2.2.2 ≤ 100000 then 4 else f) ∧ mI M' 1 6 = zi (if f = 0 ∧ ¬ hT C o.2.2.2 ≤ 100000 then (n : Int) else g) ∧ (hT C o.2.2.2 ≤ 100000 → DWC M' o.2.2.2 ∧ mI M' 82 9 = zi (hT C o.2.2.2) ∧ mI M' 82 8 = bb (decide (0 < fb_ct (fun i => decide (hS o.2.2.2 i = 1)) (hN o.2.2.2))) ∧ ∀ i, i < hN o.2.2.2 → hS o.2.2.2 i = 2 → EvB (mB M' 86 i) (hA o.2.2.2 i)) := fun N p st f g t k => by
      have d := u3.kt k
      obtain ⟨e1, e2⟩ := hT_cp hc g5
      obtain ⟨M', r1, r2, r3, r4, r5⟩ := read27 (s := hS o.2.2.2) (a := hA o.2.2.2) t g5.1 d.1 ((k.1 82 8 (by decide)).trans y8) ((k.1 82 9 (by decide)).trans y9) ⟨ht5p, ht5⟩ (fun i hi => by
        obtain ⟨d1, d2, d3⟩ := d.2 i hi
        have ck := g5.2 i hi
        refine ⟨by rw [d1, zi_eq (by have := ck.1; omega) (by omega)]; omega, by rw [d1, zi_eq (by have := ck.1; omega) (by omega)]; omega, fun w => ⟨d2, (ck.2.2.2.1 w).1⟩⟩)
      have eq : (f = 0 ∧ ¬ cpP (t5 C) (fun i => decide (hS o.2.2.2 i = 2)) (hA o.2.2.2) (hN o.2.2.2) ≤ 100000) = (f = 0 ∧ ¬ hT C o.2.2.2 ≤ 100000) := propext ⟨fun w => ⟨w.1, fun v => w.2 (e1.mpr v)⟩, fun w => ⟨w.1, fun v => w.2 (e1.mp v)⟩⟩
      have i3 : (if f = 0 ∧ ¬ cpP (t5 C) (fun i => decide (hS o.2.2.2 i = 2)) (hA o.2.2.2) (hN o.2.2.2) ≤ 100000 then (4 : Int) else f) = (if f = 0 ∧ ¬ hT C o.2.2.2 ≤ 100000 then 4 else f) := by
        by_cases w : f = 0 ∧ ¬ hT C o.2.2.2 ≤ 100000
        · rw [if_pos w, if_pos (eq.symm ▸ w)]
        · rw [if_neg w, if_neg (eq.symm ▸ w)]
      have i4 : (if f = 0 ∧ ¬ cpP (t5 C) (fun i => decide (hS o.2.2.2 i = 2)) (hA o.2.2.2) (hN o.2.2.2) ≤ 100000 then (n : Int) else g) = (if f = 0 ∧ ¬ hT C o.2.2.2 ≤ 100000 then (n : Int) else g) := by
        by_cases w : f = 0 ∧ ¬ hT C o.2.2.2 ≤ 100000
        · rw [if_pos w, if_pos (eq.symm ▸ w)]
        · rw [if_neg w, if_neg (eq.symm ▸ w)]
      rw [i3] at r3
      rw [i4] at r4
      refine ⟨M', r1, r2, r3, r4, fun w => ?_⟩
      obtain ⟨v1, v2, v3, v4, v5⟩ := r5 (e1.mpr w)
      exact ⟨⟨v1, fun i hi => ⟨(congrFun (congrFun v2 83) i).trans (d.2 i hi).1, (congrFun (congrFun v2 84) i).trans (d.2 i hi).2.1, (congrFun (congrFun v2 85) i).trans (d.2 i hi).2.2⟩⟩, by rw [v3, e2 w], v4, v5⟩
    unfold wf1 wf2
    by_cases q : sb b n o.2.2.1 = n
    · obtain ⟨M', r1, r2, r3, r4, r5⟩ := pr M2 _ _ _ _ a2 a3
      rw [decide_eq_true q, if_neg (by decide), r1]
      by_cases w : hT C o.2.2.2 ≤ 100000
      · rw [if_neg (fun v => v.2 w)] at r3 r4
        exact ⟨M', o, rfl, ((sm0.tr c2.1).tr a3.sam).tr r2, by rw [if_neg (fun w => w u1), if_neg (fun w => w q), if_pos w]; exact r3, by rw [if_neg (fun w => w u1), if_neg (fun w => w q), if_pos w]; exact r4, by rw [if_neg (fun w => w u1), if_neg (fun w => w q), if_pos w]; decide, c4, fun _ => r5 w, c5⟩
      · rw [if_pos ⟨rfl, w⟩] at r3 r4
        exact ⟨M', o, rfl, ((sm0.tr c2.1).tr a3.sam).tr r2, by rw [if_neg (fun w => w u1), if_neg (fun w => w q), if_neg w]; exact r3, by rw [if_neg (fun w => w u1), if_neg (fun w => w q), if_neg w]; exact r4, by rw [if_neg (fun w => w u1), if_neg (fun w => w q), if_neg w]; decide, c4, fun v => by rw [if_neg (fun w => w u1), if_neg (fun w => w q), if_neg w] at v; exact absurd v (by decide), c5⟩
    · obtain ⟨M3, k1, k2, k3⟩ := blameNext_c a2
      rw [if_pos rfl, if_pos rfl, sb_sb hp] at k2
      obtain ⟨M', r1, r2, r3, r4, r5⟩ := pr M3 _ _ _ _ k2 (a3.tr k3)
      rw [if_neg (fun v => absurd v.1 (by decide))] at r3 r4
      rw [decide_eq_false q, if_pos (by decide), k1, cV_s, r1]
      exact ⟨M', o, rfl, (((sm0.tr c2.1).tr a3.sam).tr k3.sam).tr r2, by rw [if_neg (fun w => w u1), if_pos q]; exact r3, by rw [if_neg (fun w => w u1), if_pos q]; exact r4, by rw [if_neg (fun w => w u1), if_pos q]; decide, c4, fun v => by rw [if_neg (fun w => w u1), if_pos q] at v; exact absurd v (by decide), c5⟩
  · -- a fault was found: nothing more can be
    have hf := u2.2.2.2.2.2.2.2.2.1
    obtain ⟨k, k1, k2, k3⟩ := u3
    have exs : ∀ i, ∃ v : Nat, (mA M1 83 i = zi 2 ↔ v = 2) ∧ (mA M1 83 i = zi 1 ↔ v = 1) := fun i => by
      by_cases w2 : mA M1 83 i = zi 2
      · exact ⟨2, ⟨fun _ => rfl, fun _ => w2⟩, ⟨fun w => by rw [w2] at w; exact absurd w (by decide), fun w => absurd w (by decide)⟩⟩
      · by_cases w1 : mA M1 83 i = zi 1
        · exact ⟨1, ⟨fun w => absurd w w2, fun w => absurd w (by decide)⟩, ⟨fun _ => rfl, fun _ => w1⟩⟩
        · exact ⟨0, ⟨fun w => absurd w w2, fun w => absurd w (by decide)⟩, ⟨fun w => absurd w w1, fun w => absurd w (by decide)⟩⟩
    have exa : ∀ i, ∃ a : Nat, i < k → mA M1 83 i = zi 2 → mA M1 84 i = zi a ∧ 2 ≤ a ∧ a ≤ 99 := fun i => by
      by_cases w : i < k ∧ mA M1 83 i = zi 2
      · obtain ⟨a, x1, x2, x3⟩ := k3 i w.1 w.2
        exact ⟨a, fun _ _ => ⟨x3, x1, x2⟩⟩
      · exact ⟨0, fun v1 v2 => absurd ⟨v1, v2⟩ w⟩
    obtain ⟨sf, hsf⟩ := Classical.axiomOfChoice exs
    obtain ⟨af, haf⟩ := Classical.axiomOfChoice exa
    have pr : ∀ (N : PM) (p st : Nat), TC b N n p st o.1 o.2.1 → KT M1 N → ∃ M', F_X8_read_88_82_27 N = rV M' ∧ Sam0 N M' ∧ mI M' 1 5 = zi o.1 ∧ mI M' 1 6 = zi o.2.1 := fun N p st t kt => by
      have ea : ∀ q i, mA N q i = mA M1 q i := fun q i => by rw [mA, mA, kt.2]
      obtain ⟨M', r1, r2, r3, r4, _⟩ := read27 (s := sf) (a := af) t k1 ((kt.1 82 7 (by decide)).trans k2) ((kt.1 82 8 (by decide)).trans y8) ((kt.1 82 9 (by decide)).trans y9) ⟨ht5p, ht5⟩ (fun i hi => by
        rw [ea 83 i, ea 84 i]
        exact ⟨(hsf i).1, (hsf i).2, fun w => haf i hi ((hsf i).1.mpr w)⟩)
      rw [if_neg (fun w => u1 w.1)] at r3 r4
      exact ⟨M', r1, r2, r3, r4⟩
    obtain ⟨M2, a1, a2, a3⟩ := atEnd_c u2
    rw [a1, cI_s]
    have fin : ∀ M', mI M' 1 5 = zi o.1 → mI M' 1 6 = zi o.2.1 → mI M' 1 5 = zi (wf1 C b n o) ∧ mI M' 1 6 = zi (wf2 C b n o) ∧ (0 ≤ wf1 C b n o ∧ wf1 C b n o ≤ 4) ∧ wf1 C b n o ≠ 0 := fun M' m1 m2 => by
      unfold wf1 wf2
      rw [if_pos u1, if_pos u1]
      exact ⟨m1, m2, hf, u1⟩
    cases hv : decide (sb b n pp = n) with
    | true =>
      obtain ⟨M', r1, r2, r3, r4⟩ := pr M2 _ _ a2 a3
      obtain ⟨x1, x2, x3, x4⟩ := fin M' r3 r4
      rw [if_neg (by decide), r1]
      exact ⟨M', o, rfl, ((sm0.tr c2.1).tr a3.sam).tr r2, x1, x2, x3, c4, fun w => absurd w x4, c5⟩
    | false =>
      obtain ⟨M3, w1, w2, w3⟩ := blameNext_c a2
      rw [if_neg u1, if_neg u1] at w2
      obtain ⟨M', r1, r2, r3, r4⟩ := pr M3 _ _ w2 (a3.tr w3)
      obtain ⟨x1, x2, x3, x4⟩ := fin M' r3 r4
      rw [if_pos (by decide), w1, cV_s, r1]
      exact ⟨M', o, rfl, (((sm0.tr c2.1).tr a3.sam).tr w3.sam).tr r2, x1, x2, x3, c4, fun w => absurd w x4, c5⟩
