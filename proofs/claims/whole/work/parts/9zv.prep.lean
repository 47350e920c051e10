/-! wish: the end of reading, the class -/
theorem commonTurn_w {M : PM} {a w : Nat} (ha : 0 < a ∧ a ≤ 9900000) (hw : 1 ≤ w ∧ w ≤ 99) : F_X10_commonTurn M (zi a) (zi w) = rI (zi (if 100000 < a then a else Nat.lcm a w : Nat)) M := by
  by_cases q : 100000 < a
  · unfold F_X10_commonTurn
    rw [if_pos q, commonDivisor_s (by omega) (by omega), cI_s, if_pos (by rw [show (100000 : Int32) = zi 100000 from rfl, zi_lt (by omega) (by omega)]; omega)]
  · rw [if_neg q, commonTurn_s (by omega) (by omega)]
/-- the turn over the parts with p, bounded as the class does it -/
def cpP (x : Nat) (p : Nat → Bool) (a : Nat → Nat) : Nat → Nat
  | 0 => x
  | k + 1 => if p k = true then (if 100000 < cpP x p a k then cpP x p a k else Nat.lcm (cpP x p a k) (a k)) else cpP x p a k
theorem cpP_rng {x : Nat} {p : Nat → Bool} {a : Nat → Nat} {m : Nat} (hx : 0 < x ∧ x ≤ 100000) (ha : ∀ i, i < m → p i = true → 2 ≤ a i ∧ a i ≤ 99) : ∀ k, k ≤ m → 0 < cpP x p a k ∧ cpP x p a k ≤ 9900000
  | 0, _ => ⟨hx.1, by show x ≤ 9900000; omega⟩
  | k + 1, hk => by
    have ih := cpP_rng hx ha k (by omega)
    rw [cpP]
    split
    · rename_i u
      have h2 := ha k (by omega) u
      split
      · exact ih
      · refine ⟨Nat.lcm_pos ih.1 (by omega), Nat.le_trans (Nat.le_of_dvd (Nat.mul_pos ih.1 (by omega)) (Nat.lcm_dvd_mul _ _)) ?_⟩
        exact Nat.mul_le_mul (show cpP x p a k ≤ 100000 by omega) h2.2
    · exact ih
theorem lcsP_mono {x : Nat} {p : Nat → Bool} {a : Nat → Nat} {m : Nat} (hx : 0 < x) (ha : ∀ i, i < m → p i = true → 1 ≤ a i) : ∀ k, k ≤ m → 0 < lcs x p a k ∧ (k < m → lcs x p a k ≤ lcs x p a (k + 1))
  | 0, _ => ⟨hx, fun hm => by
    rw [lcs, lcs]
    split
    · exact Nat.le_of_dvd (Nat.lcm_pos hx (ha 0 hm (by assumption))) (Nat.dvd_lcm_left _ _)
    · exact Nat.le_refl _⟩
  | k + 1, hk => by
    have ih := (lcsP_mono hx ha k (by omega)).1
    have hp : 0 < lcs x p a (k + 1) := by
      rw [lcs]
      split
      · exact Nat.lcm_pos ih (ha k (by omega) (by assumption))
      · exact ih
    refine ⟨hp, fun hm => ?_⟩
    have e : lcs x p a (k + 1 + 1) = if p (k + 1) = true then Nat.lcm (lcs x p a (k + 1)) (a (k + 1)) else lcs x p a (k + 1) := rfl
    rw [e]
    split
    · exact Nat.le_of_dvd (Nat.lcm_pos hp (ha (k + 1) hm (by assumption))) (Nat.dvd_lcm_left _ _)
    · exact Nat.le_refl _
theorem cpP_s {x : Nat} {p : Nat → Bool} {a : Nat → Nat} {m : Nat} (hx : 0 < x) (ha : ∀ i, i < m → p i = true → 1 ≤ a i) : ∀ k, k ≤ m → (cpP x p a k ≤ 100000 ∨ lcs x p a k ≤ 100000) → cpP x p a k = lcs x p a k
  | 0, _, _ => rfl
  | k + 1, hk, h => by
    have hmo := (lcsP_mono hx ha k (by omega)).2 (by omega)
    rw [cpP] at h ⊢
    rw [lcs] at hmo h ⊢
    by_cases u : p k = true
    · rw [if_pos u] at hmo h ⊢
      rw [if_pos u] at h ⊢
      by_cases q : 100000 < cpP x p a k
      · rw [if_pos q] at h ⊢
        rcases h with h | h
        · omega
        · have := cpP_s hx ha k (by omega) (Or.inr (by omega))
          omega
      · rw [if_neg q, cpP_s hx ha k (by omega) (Or.inl (by omega))]
    · rw [if_neg u] at h ⊢
      rw [if_neg u] at h ⊢
      exact cpP_s hx ha k (by omega) h
theorem rtW_s {C : Cal} {W : Wsh} {m : Nat} (hc : WFC C) (ha : ∀ i, i < m → hS W i = 2 → 1 ≤ hA W i) : ∀ k, k ≤ m → (rtW C W k ≤ 100000 ∨ lcs (t5 C) (fun i => decide (hS W i = 2)) (hA W) k ≤ 100000) → rtW C W k = lcs (t5 C) (fun i => decide (hS W i = 2)) (hA W) k
  | 0, _, _ => rfl
  | k + 1, hk, h => by
    have ha' : ∀ i, i < m → (fun i => decide (hS W i = 2)) i = true → 1 ≤ hA W i := fun i hi u => ha i hi (of_decide_eq_true u)
    have hmo := (lcsP_mono (t5_pos hc) ha' k (by omega)).2 (by omega)
    rw [rtW] at h ⊢
    rw [lcs] at hmo h ⊢
    by_cases u : hS W k = 2
    · rw [if_pos (decide_eq_true u)] at hmo h ⊢
      rw [if_pos u] at h ⊢
      by_cases q : 100000 < rtW C W k
      · rw [if_pos q] at h ⊢
        rcases h with h | h
        · omega
        · have := rtW_s hc ha k (by omega) (Or.inr (by omega))
          omega
      · rw [if_neg q] at h ⊢
        have e := rtW_s hc ha k (by omega) (Or.inl (by omega))
        by_cases q2 : 100000 < Nat.lcm (rtW C W k) (hA W k)
        · rw [if_pos q2] at h ⊢
          rw [e] at q2
          omega
        · rw [if_neg q2, e]
    · have du : ¬ decide (hS W k = 2) = true := by rw [decide_eq_true_eq]; exact u
      rw [if_neg u, if_neg du] at h ⊢
      exact rtW_s hc ha k (by omega) h
/-- what preparing leaves -/
def KPp (M M' : PM) : Prop := (∀ q k, ¬ (q = 82 ∧ (k = 8 ∨ k = 9)) → M'.1 q k = M.1 q k) ∧ M'.2.2.1 = M.2.2.1 ∧ (∀ q, q ≠ 86 → M'.2.2.2.1 q = M.2.2.2.1 q) ∧ M'.2.2.2.2 = M.2.2.2.2
theorem KPp.sam {M M' : PM} (h : KPp M M') : Sam0 M M' := ⟨fun p hp => h.1 p.1 p.2 (fun e => by
  obtain ⟨p1, p2⟩ := p
  simp only at e
  obtain ⟨rfl, rfl | rfl⟩ := e
  · exact absurd hp (by decide)
  · exact absurd hp (by decide)), fun q _ => by rw [h.2.1], fun q hq => h.2.2.1 q (fun e => by rw [e] at hq; exact absurd hq (by decide)), fun q _ i => by rw [h.2.2.2]⟩
theorem prep_s {M : PM} {k x : Nat} {s a : Nat → Nat} (hk : k ≤ 100) (h7 : mI M 82 7 = zi k) (h8 : mI M 82 8 = zi 0) (h9 : mI M 82 9 = zi x) (hx : 0 < x ∧ x ≤ 100000) (hs : ∀ i, i < k → (mA M 83 i = zi 2 ↔ s i = 2) ∧ (mA M 83 i = zi 1 ↔ s i = 1) ∧ (s i = 2 → mA M 84 i = zi (a i) ∧ 2 ≤ a i ∧ a i ≤ 99)) : ∃ M', F_X7_prepare_82 M = rV M' ∧ KPp M M' ∧ mI M' 82 9 = zi (cpP x (fun i => decide (s i = 2)) a k) ∧ mI M' 82 8 = bb (decide (0 < fb_ct (fun i => decide (s i = 1)) k)) ∧ ∀ i, i < k → s i = 2 → EvB (mB M' 86 i) (a i) := by
  unfold F_X7_prepare_82
  have hr := fun i (hi : i ≤ k) => cpP_rng (x := x) (p := fun i => decide (s i = 2)) (a := a) (m := k) hx (fun j hj u => ((hs j hj).2.2 (of_decide_eq_true u)).2) i hi
  refine loopS (σ := PM × Nat) (fun f q => F_X7_prepare_82_2 f q.1 (zi (q.2 : Nat))) (fun o => ∃ M', o = rV M' ∧ KPp M M' ∧ mI M' 82 9 = zi (cpP x (fun i => decide (s i = 2)) a k) ∧ mI M' 82 8 = bb (decide (0 < fb_ct (fun i => decide (s i = 1)) k)) ∧ ∀ i, i < k → s i = 2 → EvB (mB M' 86 i) (a i)) (fun r q => r = k - q.2 ∧ q.2 ≤ k ∧ KPp M q.1 ∧ mI q.1 82 9 = zi (cpP x (fun i => decide (s i = 2)) a q.2) ∧ mI q.1 82 8 = bb (decide (0 < fb_ct (fun i => decide (s i = 1)) q.2)) ∧ ∀ i, i < q.2 → s i = 2 → EvB (mB q.1 86 i) (a i)) ?_ k (M, 0) FUEL ⟨rfl, Nat.zero_le _, ⟨fun _ _ _ => rfl, rfl, fun _ _ => rfl, rfl⟩, h9, h8, fun i hi => absurd hi (Nat.not_lt_zero i)⟩ (FUEL_gt (by omega))
  rintro f r ⟨M1, i⟩ ⟨i1, i2, i3, i4, i5, i6⟩
  simp only at i1 i2 i3 i4 i5 i6
  have e7 : mI M1 82 7 = zi k := (i3.1 82 7 (by decide)).trans h7
  show (∃ M', F_X7_prepare_82_2 (f + 1) M1 (zi (i : Nat)) = _ ∧ _) ∨ _
  rw [F_X7_prepare_82_2, e7]
  by_cases q : i = k
  · left
    refine ⟨M1, by rw [if_pos (by rw [zi_le (by omega) (by omega)]; omega)], i3, q ▸ i4, q ▸ i5, q ▸ i6⟩
  right
  obtain ⟨s1, s2, s3⟩ := hs i (by omega)
  have ea : ∀ q j, mA M1 q j = mA M q j := fun q j => by rw [mA, mA, i3.2.1]
  have e83 : mA M1 83 i = mA M 83 i := ea 83 i
  have hri := hr i i2
  -- the second half: does it count
  have half : ∀ N : PM, KPp M N → mI N 82 9 = zi (cpP x (fun i => decide (s i = 2)) a (i + 1)) → mI N 82 8 = bb (decide (0 < fb_ct (fun i => decide (s i = 1)) i)) → (∀ j, j < i + 1 → s j = 2 → EvB (mB N 86 j) (a j)) → ∃ r' s', r' < r ∧ (fun r (q : PM × Nat) => r = k - q.2 ∧ q.2 ≤ k ∧ KPp M q.1 ∧ mI q.1 82 9 = zi (cpP x (fun i => decide (s i = 2)) a q.2) ∧ mI q.1 82 8 = bb (decide (0 < fb_ct (fun i => decide (s i = 1)) q.2)) ∧ ∀ i, i < q.2 → s i = 2 → EvB (mB q.1 86 i) (a i)) r' s' ∧ F_X7_prepare_82_52 (F_X7_prepare_82_2 f) N (zi (i : Nat)) = (fun f (q : PM × Nat) => F_X7_prepare_82_2 f q.1 (zi (q.2 : Nat))) f s' := fun N n1 n2 n3 n4 => by
    have n83 : mA N 83 i = mA M 83 i := by rw [mA, mA, n1.2.1]
    refine ⟨k - (i + 1), (sI N 82 8 (bb (decide (0 < fb_ct (fun i => decide (s i = 1)) (i + 1)))), i + 1), by omega, ⟨rfl, by show i + 1 ≤ k; omega, ⟨fun q j hq => (u2_ne (fun e => hq ⟨e.1, Or.inl e.2⟩)).trans (n1.1 q j hq), n1.2.1, n1.2.2.1, n1.2.2.2⟩, (rI_nk (by decide)).trans n2, rI_at, n4⟩, ?_⟩
    unfold F_X7_prepare_82_52
    rw [if_pos (zi_ixT (by omega) (by omega)), zi_natN (by omega), n83, n3]
    unfold F_X7_prepare_82_72
    rw [show (1 : Int32) = zi 1 from rfl, show (0 : Int32) = zi 0 from rfl, zi_add, zc (show (i : Int) + 1 = ((i + 1 : Nat) : Int) by omega)]
    have orT : ∀ v : Bool, bb v ||| zi 1 = bb true := by decide
    have orF : ∀ v : Bool, bb v ||| zi 0 = bb v := by decide
    have an : ∀ v : Bool, bb v &&& zi 1 = bb v := by decide
    by_cases q1 : s i = 1
    · rw [if_pos (s2.mpr q1), orT, if_pos (an true), lt_z, ctT (p := fun i => decide (s i = 1)) (decide_eq_true q1), decide_eq_true (Nat.succ_pos _)]
    · rw [if_neg (fun u => q1 (s2.mp u)), orF, if_pos (an _), lt_z, ctF (p := fun i => decide (s i = 1)) (decide_eq_false q1)]
  rw [if_neg (by rw [zi_le (by omega) (by omega)]; omega), if_pos (zi_ixT (by omega) (by omega)), zi_natN (by omega), e83]
  by_cases q2 : s i = 2
  · obtain ⟨a1, a2⟩ := s3 q2
    obtain ⟨y, y1, y2⟩ := everyOf_s (M := M1) (w := a i) (by omega)
    have e84 : mA M1 84 i = zi (a i) := (ea 84 i).trans a1
    have e9 : mI (sB M1 86 i y) 82 9 = zi (cpP x (fun i => decide (s i = 2)) a i) := i4
    have e84' : mA (sB M1 86 i y) 84 i = zi (a i) := e84
    have ct := commonTurn_w (M := sB M1 86 i y) hri (show 1 ≤ a i ∧ a i ≤ 99 by omega)
    have es : (if 100000 < cpP x (fun i => decide (s i = 2)) a i then cpP x (fun i => decide (s i = 2)) a i else Nat.lcm (cpP x (fun i => decide (s i = 2)) a i) (a i)) = cpP x (fun i => decide (s i = 2)) a (i + 1) := by
      rw [cpP, if_pos (decide_eq_true q2)]
    rw [es] at ct
    have i50 : mI (sI (sB M1 86 i y) 82 9 (zi (cpP x (fun i => decide (s i = 2)) a (i + 1)))) 82 8 = bb (decide (0 < fb_ct (fun i => decide (s i = 1)) i)) := (rI_nk (by decide)).trans i5
    obtain ⟨r', s', z1, z2, z3⟩ := half (sI (sB M1 86 i y) 82 9 (zi (cpP x (fun i => decide (s i = 2)) a (i + 1)))) ⟨fun q j hq => (u2_ne (fun e => hq ⟨e.1, Or.inr e.2⟩)).trans (i3.1 q j hq), i3.2.1, fun q hq => (u1_ne hq : (sB M1 86 i y).2.2.2.1 q = M1.2.2.2.1 q).trans (i3.2.2.1 q hq), i3.2.2.2⟩ rI_at i50 (fun j hj hj2 => by
      show EvB ((sB M1 86 i y).2.2.2.1 86 j) (a j)
      rw [rB_sB, if_pos rfl]
      by_cases q3 : j = i
      · rw [if_pos q3, q3]; exact y2
      · rw [if_neg q3]; exact i6 j (by omega) hj2)
    refine ⟨r', s', z1, z2, ?_⟩
    have s1' : mA M 83 i = 2 := s1.mpr q2
    rw [if_pos s1', if_pos (zi_ixT (by omega) (by omega)), e84, y1, cJ_s, if_pos (zi_ixT (by omega) (by omega)), if_pos (zi_ixT (by omega) (by omega)), e9, e84', ct, cI_s]
    exact z3
  · have es : cpP x (fun i => decide (s i = 2)) a (i + 1) = cpP x (fun i => decide (s i = 2)) a i := by
      rw [cpP, if_neg (by rw [decide_eq_true_eq]; exact q2)]
    obtain ⟨r', s', z1, z2, z3⟩ := half M1 i3 (by rw [es]; exact i4) i5 (fun j hj hj2 => i6 j (by
      by_cases q3 : j = i
      · rw [q3] at hj2; exact absurd hj2 q2
      · omega) hj2)
    refine ⟨r', s', z1, z2, ?_⟩
    have s1' : ¬ mA M 83 i = 2 := fun u => q2 (s1.mp u)
    rw [if_neg s1']
    exact z3
