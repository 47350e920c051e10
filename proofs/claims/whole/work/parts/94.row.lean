/-! row -/
def run (p : Nat → Bool) (d : Nat) : Nat → Nat
  | 0 => 0
  | k + 1 => if p (d + k) = true then run p d k + 1 else 0
theorem run_ge {p : Nat → Bool} {d : Nat} : ∀ k r, r ≤ run p d k ↔ r ≤ k ∧ ∀ i, k - r ≤ i → i < k → p (d + i) = true
  | 0, r => by
    constructor
    · intro h
      exact ⟨h, fun i _ h2 => absurd h2 (Nat.not_lt_zero i)⟩
    · intro h
      exact h.1
  | k + 1, r => by
    have ih := run_ge (p := p) (d := d) k
    unfold run
    by_cases q : p (d + k) = true
    · rw [if_pos q]
      match r with
      | 0 => exact ⟨fun _ => ⟨Nat.zero_le _, fun i h1 h2 => absurd h1 (by omega)⟩, fun _ => Nat.zero_le _⟩
      | s + 1 =>
        constructor
        · intro h
          obtain ⟨h1, h2⟩ := (ih s).mp (by omega)
          refine ⟨by omega, fun i h3 h4 => ?_⟩
          by_cases e : i = k
          · rw [e]; exact q
          · exact h2 i (by omega) (by omega)
        · rintro ⟨h1, h2⟩
          have := (ih s).mpr ⟨by omega, fun i h3 h4 => h2 i (by omega) (by omega)⟩
          omega
    · rw [if_neg q]
      constructor
      · intro h
        exact ⟨by omega, fun i h3 h4 => absurd h3 (by omega)⟩
      · rintro ⟨h1, h2⟩
        rcases Nat.eq_zero_or_pos r with e | e
        · omega
        · exact absurd (h2 k (by omega) (by omega)) q
theorem run_ones {p : Nat → Bool} {d K : Nat} : ∀ v, (∀ i, i < v → p (d + K + i) = true) → run p d (K + v) = run p d K + v
  | 0, _ => rfl
  | v + 1, h => by
    have ih := run_ones (p := p) (d := d) (K := K) v (fun i hi => h i (by omega))
    have h1 := h v (by omega)
    rw [show d + K + v = d + (K + v) by omega] at h1
    show run p d (K + v + 1) = _
    rw [run, if_pos h1, ih]
    omega
theorem run_zero {p : Nat → Bool} {d K : Nat} (h : p (d + K) = false) : run p d (K + 1) = 0 := by
  rw [run, if_neg (by rw [h]; decide)]
theorem row_never {p : Nat → Bool} {d e T r B : Nat} (hT : 0 < T) (hp : ∀ x, e ≤ x → p (x + T) = p x) (hr : 0 < r) (hB : e + T + r ≤ B + 1) (h : ∀ k, d + k < B → run p d (k + 1) < r) (hd : d ≤ e) : ∀ k, run p d (k + 1) < r := by
  intro k
  induction k using Nat.strongRecOn with
  | ind k ih =>
    by_cases q : d + k < B
    · exact h k q
    · rcases Nat.lt_or_ge (run p d (k + 1)) r with u | u
      · exact u
      · exfalso
        obtain ⟨u1, u2⟩ := (run_ge (k + 1) r).mp u
        have := ih (k - T) (by omega)
        have : r ≤ run p d (k - T + 1) := (run_ge _ r).mpr ⟨by omega, fun i h3 h4 => by
          have h5 := u2 (i + T) (by omega) (by omega)
          rw [show d + (i + T) = (d + i) + T by omega, hp (d + i) (by omega)] at h5
          exact h5⟩
        omega
def RowF (p : Nat → Bool) (d r : Nat) (x : Int) : Prop := (∃ k : Nat, d + k ≤ 999999999 ∧ run p d (k + 1) = r ∧ (∀ j, j < k → run p d (j + 1) < r) ∧ x = ((d + k : Nat) : Int) - r + 1) ∨ (x = -1 ∧ ∀ k : Nat, d + k ≤ 999999999 → run p d (k + 1) < r)
theorem RowF_one {p : Nat → Bool} {d r : Nat} {x y : Int} (h : RowF p d r x) (g : RowF p d r y) : x = y := by
  rcases h with ⟨k, h1, h2, h3, h4⟩ | ⟨h1, h2⟩
  · rcases g with ⟨j, g1, g2, g3, g4⟩ | ⟨g1, g2⟩
    · have : k = j := by
        rcases Nat.lt_trichotomy k j with q | q | q
        · have := g3 k q; omega
        · exact q
        · have := h3 j q; omega
      omega
    · have := g2 k h1; omega
  · rcases g with ⟨j, g1, g2, g3, g4⟩ | ⟨g1, g2⟩
    · have := h2 j g1; omega
    · omega
theorem fd_set {C : Cal} {L O e : Nat} {T : Nat} (he : ∀ x i : Nat, e ≤ x → tO C ((x + i : Nat) : Int) = tO C (x : Int) + i) (hT : tB C L O ∣ T) (x : Nat) (hx : e ≤ x) : fd C L O (x + T) = fd C L O x := by
  obtain ⟨m, hm⟩ := hT
  unfold fd
  rw [he x T hx, hm, Int.natCast_mul, fre_per]
theorem lb_shr (x : Int64) {k i : Nat} (hk : k < 64) (hi : i < 64) : lb ((x.toUInt64 >>> ((zi k).toInt64.toUInt64 &&& Int64.toUInt64 63)).toInt64) i = lb x (k + i) := by
  obtain ⟨X, hX, rfl⟩ := wb_of x
  rw [show ((lN X).toUInt64 >>> ((zi k).toInt64.toUInt64 &&& Int64.toUInt64 63)).toInt64 = lN (X / 2 ^ k) from wb_shr hX hk, lb_lN _ hi, Nat.testBit_div_two_pow]
  by_cases q : k + i < 64
  · rw [lb_lN _ q, Nat.add_comm]
  · rw [show lb (lN X) (k + i) = false from BitVec.getLsbD_of_ge _ _ (by omega), Nat.testBit_lt_two_pow]
    exact Nat.lt_of_lt_of_le hX (Nat.pow_le_pow_right (by decide) (by omega))
theorem rowM {M : PM} {C : Cal} {d r : Nat} (hc : WFC C) (c : CalM M C) (hd : d ≤ 999999999) (hr : 1 ≤ r ∧ r ≤ 99) : ∃ x, F_X11_row_99_74 FUEL M (zi r) (zi (bnd d (2 * t4 C + 100))) (zi 0) (zi d) = rI (zi x) M ∧ RowF (fd C (2 ^ cN C - 1) 0) d r x := by
  have hT := t4_le hc
  have hTp := t4_pos hc
  have hp2 := p2 hc.1.1
  have hbd : bnd d (2 * t4 C + 100) ≤ 999999999 := Nat.min_le_right _ _
  have hfree : ∀ x : Nat, (ob (fun l => hb (cW C l) (cD C l) (tO C (x : Int))) (cN C) = 0) = (fd C (2 ^ cN C - 1) 0 x = true) := fun x => by
    have e := ob_and (L := 2 ^ cN C - 1) (t := tO C (x : Int)) hc (by omega)
    rw [ob_zi _ _ (by have := hc.1.1; omega), zand, Nat.and_two_pow_sub_one_eq_mod, Nat.mod_eq_of_lt (obN_lt _ _), ← ob_zi _ _ (by have := hc.1.1; omega)] at e
    rw [fd_0, show (0 : Int32) = zi 0 from rfl, e]
    cases anL (cN C) (cW C) (cD C) (2 ^ cN C - 1) (tO C (x : Int))
    · exact propext ⟨fun _ => rfl, fun _ => rfl⟩
    · exact propext ⟨fun h => absurd h (by decide), fun h => absurd h (by decide)⟩
  refine loopS (σ := Nat) (fun n s => F_X11_row_99_74 n M (zi r) (zi (bnd d (2 * t4 C + 100))) (zi (run (fd C (2 ^ cN C - 1) 0) d s : Nat)) (zi ((d + s : Nat)))) (fun o => ∃ x, o = rI (zi x) M ∧ RowF (fd C (2 ^ cN C - 1) 0) d r x) (fun q s => q = 1000000000 - (d + s) ∧ d + s ≤ 1000000000 ∧ ∀ k, k < s → run (fd C (2 ^ cN C - 1) 0) d (k + 1) < r) ?_ (1000000000 - d) 0 FUEL ⟨rfl, by show d + 0 ≤ _; omega, fun k hk => absurd hk (Nat.not_lt_zero k)⟩ (FUEL_gt (by omega))
  rintro n q s ⟨i1, i2, i3⟩
  have hrun : run (fd C (2 ^ cN C - 1) 0) d s < r := by
    match s with
    | 0 => show 0 < r; omega
    | k + 1 => exact i3 k (by omega)
  show (∃ x, F_X11_row_99_74 (n + 1) M (zi r) (zi (bnd d (2 * t4 C + 100))) (zi (run (fd C (2 ^ cN C - 1) 0) d s : Nat)) (zi ((d + s : Nat))) = rI (zi x) M ∧ _) ∨ _
  by_cases q1 : bnd d (2 * t4 C + 100) < d + s
  · left
    refine ⟨-1, ?_, Or.inr ⟨rfl, fun k hk => ?_⟩⟩
    · rw [F_X11_row_99_74, if_pos (by rw [zi_lt (by omega) (by omega)]; omega)]
      rfl
    · by_cases q2 : bnd d (2 * t4 C + 100) = 999999999
      · exact i3 k (by omega)
      · have hbe : bnd d (2 * t4 C + 100) = max d 100000 + (2 * t4 C + 100) := by unfold bnd at *; omega
        exact row_never (e := max d 100000) (T := t4 C) (B := d + s) hTp (fun x hx => fd_set (e := 100000) (fun x i hx => tO_set hc hx i) (by rw [tB_0]; exact tA_dvd C _ _ (Nat.le_refl _)) x (by omega)) (by omega) (by omega) (fun k hk => i3 k (by omega)) (by omega) k
  · have h0 := tO_nn hc (d := ((d + s : Nat) : Int)) (by omega)
    have t1 := turnedOn_s (d := ((d + s : Nat) : Int)) hc c.1.2.2.2.1 c.2.2.2.2.2 (by omega)
    have t2 := bitsAt_s (t := tO C ((d + s : Nat) : Int)) hc c (by omega)
    rw [F_X11_row_99_74, if_neg (by rw [zi_lt (by omega) (by omega)]; omega), t1, cI_s, t2, cI_s]
    unfold F_X11_row_99_101
    have hrs : run (fd C (2 ^ cN C - 1) 0) d (s + 1) = if fd C (2 ^ cN C - 1) 0 (d + s) = true then run (fd C (2 ^ cN C - 1) 0) d s + 1 else 0 := rfl
    have hi3 : ∀ k, k < s + 1 → k ≠ s → run (fd C (2 ^ cN C - 1) 0) d (k + 1) < r := fun k h1 h2 => i3 k (by omega)
    have nx : ∀ v : Int, v = (run (fd C (2 ^ cN C - 1) 0) d (s + 1) : Nat) → v < r → ∃ r' s', r' < q ∧ (r' = 1000000000 - (d + s') ∧ d + s' ≤ 1000000000 ∧ ∀ k, k < s' → run (fd C (2 ^ cN C - 1) 0) d (k + 1) < r) ∧ F_X11_row_99_74 n M (zi r) (zi (bnd d (2 * t4 C + 100))) (zi v) (zi (((d + s : Nat) : Int) + 1)) = F_X11_row_99_74 n M (zi r) (zi (bnd d (2 * t4 C + 100))) (zi (run (fd C (2 ^ cN C - 1) 0) d s' : Nat)) (zi ((d + s' : Nat))) := fun v hv hv2 => by
      refine ⟨1000000000 - (d + (s + 1)), s + 1, by omega, ⟨rfl, by omega, fun k hk => ?_⟩, ?_⟩
      · by_cases e : k = s
        · rw [e]; omega
        · exact hi3 k hk e
      · rw [hv, zc (show ((d + s : Nat) : Int) + 1 = ((d + (s + 1) : Nat) : Int) by omega)]
    by_cases q3 : fd C (2 ^ cN C - 1) 0 (d + s) = true
    · rw [if_pos q3] at hrs
      rw [if_pos (by rw [hfree]; exact q3), show (1 : Int32) = zi 1 from rfl, zi_add]
      by_cases q4 : run (fd C (2 ^ cN C - 1) 0) d s + 1 = r
      · left
        refine ⟨((d + s : Nat) : Int) - r + 1, ?_, Or.inl ⟨s, by omega, by omega, i3, rfl⟩⟩
        rw [if_pos (by rw [zc (show ((run (fd C (2 ^ cN C - 1) 0) d s : Nat) : Int) + 1 = (r : Int) by omega)]), zi_sub, zi_add]
      · right
        rw [if_neg (by rw [zi_eq (by omega) (by omega)]; omega), zi_add, lt_z]
        exact nx _ (by omega) (by omega)
    · rw [if_neg q3] at hrs
      right
      rw [if_neg (by rw [hfree]; exact q3), show (0 : Int32) = zi 0 from rfl, if_neg (by rw [zi_eq (by omega) (by omega)]; omega), show (1 : Int32) = zi 1 from rfl, zi_add, lt_z]
      exact nx _ (by omega) (by omega)
