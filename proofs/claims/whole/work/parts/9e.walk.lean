/-! begun: the class's walk over the free days -/
def wkM (M : PM) (p e : Nat) (y : Int64) : PM := sJ (sI (sI M 27 5 (zi p)) 27 6 (zi e)) 27 7 y
theorem wk_wk (M : PM) (p e p' e' : Nat) (y y' : Int64) : sI (sJ (sI (wkM M p e y) 27 5 (zi p')) 27 7 y') 27 6 (zi e') = wkM M p' e' y' := by
  unfold wkM sI sJ
  dsimp only
  rw [u2_swap M.1 (q := 27) (k := 5) (j := 6) (zi p) (zi e) (by decide), u2_same, u2_swap _ (q := 27) (k := 6) (j := 5) (zi e) (zi p') (by decide), u2_same, u2_same]
def WK (C : Cal) (L c p e : Nat) (y : Int64) : Prop := p ≤ c ∧ c ≤ e ∧ e ≤ p + 64 ∧ e ≤ 1000000000 ∧ ∀ i, i < 64 → lb y i = (fd C L 0 (p + i) && (decide (c ≤ p + i) && decide (p + i < e)))
def FsF (C : Cal) (L c : Nat) (r : Int) : Prop := (∃ x : Nat, c ≤ x ∧ x ≤ 999999999 ∧ fd C L 0 x = true ∧ (∀ z, c ≤ z → z < x → fd C L 0 z = false) ∧ r = (x : Nat)) ∨ (r = -1 ∧ ∀ x, c ≤ x → x ≤ 999999999 → fd C L 0 x = false)
theorem cmp0 (y : Int64) : (lg_cmp y (0 : Int64) = 0) ↔ y = 0 := by
  unfold lg_cmp
  by_cases h : y = 0
  · subst h; decide
  · constructor
    · intro e
      exfalso
      revert e
      split
      · decide
      · decide
    · exact fun e => absurd e h
theorem walk90 {M : PM} {C : Cal} {L c p e : Nat} {y : Int64} (h : WK C L c p e y) (hn : y = 0 → ∀ x, c ≤ x → x ≤ 999999999 → fd C L 0 x = false) : ∃ r p' e' y', F_X1_walkOn_27_94 (wkM M p e y) = rI (zi r) (wkM M p' e' y') ∧ FsF C L c r ∧ (r ≠ -1 → WK C L (r + 1).toNat p' e' y') := by
  obtain ⟨h1, h2, h3, h4, h5⟩ := h
  have mj : mJ (wkM M p e y) 27 7 = y := by
    show (u2 M.2.1 27 7 y) 27 7 = y
    exact u2_eq
  have mi : mI (wkM M p e y) 27 5 = zi p := by
    show (sI (sI M 27 5 (zi p)) 27 6 (zi e)).1 27 5 = zi p
    exact (rI_nk (by decide)).trans rI_at
  unfold F_X1_walkOn_27_94
  rw [mj]
  by_cases q : y = 0
  · refine ⟨-1, p, e, y, ?_, Or.inr ⟨rfl, hn q⟩, fun h => absurd rfl h⟩
    rw [if_pos ((cmp0 y).mpr q)]
    rfl
  · have f1 := fa_first_le (lb y) 64
    have f2 := fa_first_no (lb y) 64
    have f3 := fa_first_yes (lb y) 64
    have hlt : fa_first (lb y) 64 < 64 := by
      rcases Nat.lt_or_ge (fa_first (lb y) 64) 64 with u | u
      · exact u
      · exact absurd (lb_ext (fun i hi => by rw [f2 i (by omega), lb_0])) q
    have hc := lb_clr y (i := 0) (by decide)
    rw [if_neg (fun e => q ((cmp0 y).mp e)), lowest_s, cI_s, mi, mj]
    have clr : ∀ i, i < 64 → lb (y &&& (y - 1)) i = (lb y i && decide (fa_first (lb y) 64 < i)) := fun i hi => by
      rw [lb_clr y hi]
      refine congrArg (lb y i && ·) (decide_eq_decide.mpr ⟨?_, ?_⟩)
      · rintro ⟨j, j1, j2⟩
        rcases Nat.lt_or_ge j (fa_first (lb y) 64) with u | u
        · rw [f2 j u] at j2; exact absurd j2 (by decide)
        · omega
      · intro u
        exact ⟨_, u, f3 hlt⟩
    have f4 := f3 hlt
    generalize fa_first (lb y) 64 = v at f1 f2 f4 hlt clr
    rw [h5 v hlt] at f4
    simp only [Bool.and_eq_true, decide_eq_true_eq] at f4
    refine ⟨((p + v : Nat) : Int), p, e, y &&& (y - 1), ?_, Or.inl ⟨p + v, f4.2.1, by omega, f4.1, fun z z1 z2 => ?_, rfl⟩, fun _ => ⟨by omega, by omega, h3, h4, fun i hi => ?_⟩⟩
    · rw [lt_z, zi_add, zc (show (p : Int) + (v : Int) = ((p + v : Nat) : Int) by omega)]
      refine congrArg (rI _) ?_
      unfold wkM sJ
      dsimp only
      rw [u2_same]
    · have := f2 (z - p) (by omega)
      rw [h5 (z - p) (by omega), show p + (z - p) = z by omega, decide_eq_true z1, decide_eq_true (by omega : z < e), Bool.and_true, Bool.and_true] at this
      exact this
    · rw [clr i hi, h5 i hi, show (((p + v : Nat) : Int) + 1).toNat = p + v + 1 by omega]
      cases fd C L 0 (p + i)
      · rfl
      · rw [Bool.true_and, Bool.true_and, ← Bool.decide_and, ← Bool.decide_and, ← Bool.decide_and]
        exact decide_eq_decide.mpr (by omega)
