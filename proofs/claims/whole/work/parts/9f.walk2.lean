theorem walk_s {M : PM} {C : Cal} {L c p e : Nat} {y : Int64} (hc : WFC C) (cc : CalC M C) (hL : L < 4096) (h2 : mI M 27 2 = zi L) (h3 : mI M 27 3 = zi ((0 : Nat) : Int)) (h4 : mI M 27 4 = zi (tB C L 0)) (h : WK C L c p e y) : ∃ r p' e' y', F_X1_walkOn_27 (wkM M p e y) = rI (zi r) (wkM M p' e' y') ∧ FsF C L c r ∧ (r ≠ -1 → WK C L (r + 1).toNat p' e' y') := by
  have hT := tB_le hc L 0
  have sm : ∀ p e y, Sam0 M (wkM M p e y) := fun p e y => by
    refine ⟨fun x hx => ?_, fun _ _ => rfl, fun _ _ => rfl, fun _ _ _ => rfl⟩
    have : x.1 ≠ 27 := by
      intro h27
      revert hx h27
      revert x
      decide
    exact (rI_ne this).trans (rI_ne this)
  have e0 : F_X1_patience_27 (wkM M p e y) = rI (zi ((tB C L 0 : Int) + 3)) (wkM M p e y) := by
    have e4 : mI (wkM M p e y) 27 4 = zi (tB C L 0) := ((rI_nk (by decide)).trans (rI_nk (by decide)) : (sI (sI M 27 5 (zi p)) 27 6 (zi e)).1 27 4 = M.1 27 4).trans h4
    unfold F_X1_patience_27
    rw [e4, show (3 : Int32) = zi 3 from rfl, zi_add]
  unfold F_X1_walkOn_27
  rw [e0, cI_s]
  refine loopS (σ := Nat × Nat × Int64 × Int) (fun f s => F_X1_walkOn_27_7 f (wkM M s.1 s.2.1 s.2.2.1) (zi s.2.2.2)) (fun o => ∃ r p' e' y', o = rI (zi r) (wkM M p' e' y') ∧ FsF C L c r ∧ (r ≠ -1 → WK C L (r + 1).toNat p' e' y')) (fun q s => q = 1000000000 - s.2.1 ∧ c ≤ s.2.1 ∧ s.2.2.2 ≤ (tB C L 0 : Int) + 3 ∧ -1000 ≤ s.2.2.2 ∧ ∃ c', WK C L c' s.1 s.2.1 s.2.2.1 ∧ c ≤ c' ∧ (∀ x, c ≤ x → x < c' → fd C L 0 x = false) ∧ (e : Int) + ((tB C L 0 : Int) + 3 - s.2.2.2) = s.2.1 ∧ e ≤ s.2.1) ?_ (1000000000 - e) (p, e, y, (tB C L 0 : Int) + 3) FUEL ⟨rfl, h.2.1, Int.le_refl _, by show -1000 ≤ (tB C L 0 : Int) + 3; omega, c, h, Nat.le_refl _, fun x h1 h2 => absurd h2 (by omega), by show (e : Int) + ((tB C L 0 : Int) + 3 - ((tB C L 0 : Int) + 3)) = e; omega, Nat.le_refl _⟩ (FUEL_gt (by omega))
  rintro f q ⟨p1, e1, y1, k1⟩ ⟨i1, i2, i3, i4, c', i5, i6, i7, i8, i9⟩
  simp only at i1 i2 i3 i4 i5 i6 i7 i8 i9
  have mj : mJ (wkM M p1 e1 y1) 27 7 = y1 := by
    show (u2 M.2.1 27 7 y1) 27 7 = y1
    exact u2_eq
  have m6 : mI (wkM M p1 e1 y1) 27 6 = zi e1 := (rI_at : (sI (sI M 27 5 (zi p1)) 27 6 (zi e1)).1 27 6 = zi e1)
  have lift : (∃ r p' e' y', F_X1_walkOn_27_94 (wkM M p1 e1 y1) = rI (zi r) (wkM M p' e' y') ∧ FsF C L c' r ∧ (r ≠ -1 → WK C L (r + 1).toNat p' e' y')) → ∃ r p' e' y', F_X1_walkOn_27_94 (wkM M p1 e1 y1) = rI (zi r) (wkM M p' e' y') ∧ FsF C L c r ∧ (r ≠ -1 → WK C L (r + 1).toNat p' e' y') := by
    rintro ⟨r, p', e', y', a1, a2, a3⟩
    refine ⟨r, p', e', y', a1, ?_, a3⟩
    rcases a2 with ⟨x, x1, x2, x3, x4, x5⟩ | ⟨x1, x2⟩
    · refine Or.inl ⟨x, by omega, x2, x3, fun z z1 z2 => ?_, x5⟩
      rcases Nat.lt_or_ge z c' with u | u
      · exact i7 z z1 u
      · exact x4 z u z2
    · refine Or.inr ⟨x1, fun x z1 z2 => ?_⟩
      rcases Nat.lt_or_ge x c' with u | u
      · exact i7 x z1 u
      · exact x2 x u z2
  show (∃ r p' e' y', F_X1_walkOn_27_7 (f + 1) (wkM M p1 e1 y1) (zi k1) = rI (zi r) (wkM M p' e' y') ∧ _) ∨ _
  rw [F_X1_walkOn_27_7, mj, m6]
  by_cases q0 : y1 = 0
  · have none1 : ∀ x, c ≤ x → x < e1 → fd C L 0 x = false := fun x x1 x2 => by
      rcases Nat.lt_or_ge x c' with u | u
      · exact i7 x x1 u
      · have := i5.2.2.2.2 (x - p1) (by have := i5.2.2.1; have := i5.1; omega)
        rw [q0, lb_0, show p1 + (x - p1) = x by have := i5.1; omega, decide_eq_true u, decide_eq_true x2, Bool.and_true, Bool.and_true] at this
        exact this.symm
    rw [if_pos ((cmp0 y1).mpr q0)]
    by_cases q1 : 999999999 < e1
    · left
      rw [if_pos (by rw [show (999999999 : Int32) = zi 999999999 from rfl, zi_lt (by omega) (by have := i5.2.2.2.1; omega)]; omega)]
      exact lift (walk90 i5 (fun _ x x1 x2 => none1 x (by omega) (by omega)))
    · rw [if_neg (by rw [show (999999999 : Int32) = zi 999999999 from rfl, zi_lt (by omega) (by omega)]; omega)]
      by_cases q2 : k1 ≤ 0
      · left
        have hnev := fd_never (C := C) (L := L) (O := 0) (a := e) (n := e1 - e) hc (by omega) (fun i hi => none1 (e + i) (by have := h.2.1; omega) (by omega))
        rw [if_pos (by rw [show (0 : Int32) = zi 0 from rfl, zi_le (by omega) (by omega)]; omega)]
        exact lift (walk90 i5 (fun _ x _ _ => hnev x))
      · right
        have s5 : sI (wkM M p1 e1 y1) 27 5 (zi e1) = wkM M e1 e1 y1 := by
          unfold wkM sI sJ
          dsimp only
          rw [u2_swap M.1 (q := 27) (k := 5) (j := 6) (zi p1) (zi e1) (by decide), u2_same, u2_swap _ (q := 27) (k := 6) (j := 5) (zi e1) (zi e1) (by decide)]
        have g2 : mI (wkM M e1 e1 y1) 27 2 = zi L := ((rI_nk (by decide)).trans (rI_nk (by decide)) : (sI (sI M 27 5 (zi e1)) 27 6 (zi e1)).1 27 2 = M.1 27 2).trans h2
        have g3 : mI (wkM M e1 e1 y1) 27 3 = zi ((0 : Nat) : Int) := ((rI_nk (by decide)).trans (rI_nk (by decide)) : (sI (sI M 27 5 (zi e1)) 27 6 (zi e1)).1 27 3 = M.1 27 3).trans h3
        have g5 : mI (wkM M e1 e1 y1) 27 5 = zi e1 := ((rI_nk (by decide)).trans rI_at : (sI (sI M 27 5 (zi e1)) 27 6 (zi e1)).1 27 5 = zi e1)
        have t0 := tO_nn hc (d := (e1 : Int)) (by omega)
        have c2 : CalC (wkM M e1 e1 y1) C := cc.sm (sm _ _ _)
        obtain ⟨n, b1, b2, b3, b4, b5⟩ := stretch_s (M := wkM M p1 e1 y1) (d := e1) hc (cc.sm (sm _ _ _)) (by omega)
        have t1 := turnsOn_s (d := (e1 : Int)) hc c2.2.2.2.1.2.1 c2.2.2.2.2 (by omega)
        obtain ⟨x, x1, x2⟩ := daysFrom_s (t := tO C (e1 : Int)) hc c2 hL (show 0 < 4096 by decide) g2 g3 (by omega)
        obtain ⟨z, z1, z2⟩ := low_s (M := wkM M e1 e1 y1) (b := (n : Int)) (by omega)
        have s6 : sI (sJ (wkM M e1 e1 y1) 27 7 (x &&& z)) 27 6 (zi ((e1 + n : Nat))) = wkM M e1 (e1 + n) (x &&& z) := by
          unfold wkM sI sJ
          dsimp only
          rw [u2_same, u2_same]
        have g6 : mI (sJ (wkM M e1 e1 y1) 27 7 (x &&& z)) 27 5 = zi e1 := g5
        refine ⟨1000000000 - (e1 + n), (e1, e1 + n, x &&& z, k1 - n), by omega, ⟨rfl, by show c ≤ e1 + n; omega, by show k1 - (n : Int) ≤ _; omega, by show -1000 ≤ k1 - (n : Int); omega, e1, ⟨Nat.le_refl _, by show e1 ≤ e1 + n; omega, by show e1 + n ≤ e1 + 64; omega, b4, fun i hi => ?_⟩, i2, none1, by show (e : Int) + ((tB C L 0 : Int) + 3 - (k1 - (n : Int))) = ((e1 + n : Nat) : Int); omega, by show e ≤ e1 + n; omega⟩, ?_⟩
        · show lb (x &&& z) i = (fd C L 0 (e1 + i) && (decide (e1 ≤ e1 + i) && decide (e1 + i < e1 + n)))
          rw [lb_and, x2 i hi, z2 i hi]
          by_cases u : i < n
          · rw [decide_eq_true (by omega : (i : Int) < (n : Int)), decide_eq_true (by omega : e1 ≤ e1 + i), decide_eq_true (by omega : e1 + i < e1 + n), Bool.and_true, Bool.and_true, Bool.and_true]
            unfold fd
            rw [b5 i u]
          · rw [decide_eq_false (by omega : ¬ (i : Int) < (n : Int)), decide_eq_false (by omega : ¬ e1 + i < e1 + n), Bool.and_false, Bool.and_false, Bool.and_false]
        · rw [if_neg (by rw [show (0 : Int32) = zi 0 from rfl, zi_le (by omega) (by omega)]; omega), b1, cI_s, m6, s5, g5, t1, cI_s, x1, cJ_s, z1, cJ_s, g6, zi_add, zc (show (e1 : Int) + (n : Int) = ((e1 + n : Nat) : Int) by omega), s6, mx1 b2 b3, cI_s, lt_z, zi_sub]
  · left
    rw [if_neg (fun e => q0 ((cmp0 y1).mp e))]
    exact lift (walk90 i5 (fun e => absurd e q0))
