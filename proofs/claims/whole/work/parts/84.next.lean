/-! next -/
/-- the wish holds on day d -/
def wd (C : Cal) (S : Sta) (W : Wsh) (d : Nat) : Bool := wsB C S W (d : Int) (tO C (d : Int))
/-- r is the first day from a on up to the last that has g; -1 without -/
def Fst (g : Nat → Bool) (a : Nat) (r : Int) : Prop := (∃ k : Nat, a + k ≤ 999999999 ∧ g (a + k) = true ∧ (∀ j, j < k → g (a + j) = false) ∧ r = ((a + k : Nat) : Int)) ∨ (r = -1 ∧ ∀ k : Nat, a + k ≤ 999999999 → g (a + k) = false)
theorem Fst_one {g : Nat → Bool} {a : Nat} {r r' : Int} (h : Fst g a r) (h' : Fst g a r') : r = r' := by
  rcases h with ⟨k, k1, k2, k3, k4⟩ | ⟨k1, k2⟩
  · rcases h' with ⟨j, j1, j2, j3, j4⟩ | ⟨j1, j2⟩
    · rcases Nat.lt_trichotomy k j with q | q | q
      · rw [j3 k q] at k2; exact absurd k2 (by decide)
      · rw [k4, j4, q]
      · rw [k3 j q] at j2; exact absurd j2 (by decide)
    · rw [j2 k k1] at k2; exact absurd k2 (by decide)
  · rcases h' with ⟨j, j1, j2, j3, j4⟩ | ⟨j1, j2⟩
    · rw [k2 j j1] at j2; exact absurd j2 (by decide)
    · rw [k1, j1]
theorem atm_per {C : Cal} {S : Sta} {W : Wsh} {k : Nat} {d t : Int} (hv : WFW C W) (hk : k < hN W) : atm C S W k (d + (hT C W : Nat)) (t + (hT C W : Nat)) = atm C S W k d t := by
  obtain ⟨v7, v0, v1, v2, v3, v4, -, -⟩ := hv.2.2.2 k hk
  have d5 : t5 C ∣ hT C W := lcs_base _ _ _ _
  have hp : ∀ {w x : Nat} (z : Int), w ∣ hT C W → hb w x (z + (hT C W : Nat)) = hb w x z := fun {w x} z h => by
    have := hb_per (w := w) (d := x) (t := z) (m := 1) h
    rw [Int.mul_one] at this
    exact this
  unfold atm
  by_cases e0 : hS W k = 0
  · rw [if_pos e0, if_pos e0, hp _ (Nat.dvd_trans (w_dvd5 (v0 e0)) d5)]
  · rw [if_neg e0, if_neg e0]
    by_cases e1 : hS W k = 1
    · rw [if_pos e1, if_pos e1]
      have : hcN (cW C) (cD C) (cN C) (t + (hT C W : Nat)) = hcN (cW C) (cD C) (cN C) t := fb_ct_cong (fun l hl => hp _ (Nat.dvd_trans (w_dvd5 hl) d5))
      rw [this]
    · rw [if_neg e1, if_neg e1]
      by_cases e2 : hS W k = 2
      · rw [if_pos e2, if_pos e2, hp _ (lcs_in (p := fun i => decide (hS W i = 2)) hk (decide_eq_true e2))]
      · rw [if_neg e2, if_neg e2]
        by_cases e3 : hS W k = 3
        · rw [if_pos e3, if_pos e3, show t + ((hT C W : Nat) : Int) + (aS S (hA W k) (hB W k) : Int) = t + (aS S (hA W k) (hB W k) : Int) + ((hT C W : Nat) : Int) by omega, hp _ (Nat.dvd_trans (w_dvd5 (v3 e3).2) d5)]
        · rw [if_neg e3, if_neg e3]
          by_cases e4 : hS W k = 4
          · rw [hp _ (Nat.dvd_trans (o_dvd5 (v4 e4)) d5)]
          · have : oW C (hA W k) ∣ hT C W ∨ True := Or.inr trivial
            sorry
theorem ev_per {C : Cal} {S : Sta} {W : Wsh} {d t : Int} (hv : WFW C W) : ∀ k, k ≤ hN W → ∀ j, evS C S W (d + (hT C W : Nat)) (t + (hT C W : Nat)) k j = evS C S W d t k j
  | 0, _, _ => rfl
  | k + 1, hk, j => by
    have ih := ev_per (S := S) (d := d) (t := t) hv k (by omega)
    rw [evS, evS]
    by_cases q5 : hS W k < 5
    · rw [if_pos q5, if_pos q5, atm_per hv (by omega), ih]
    · rw [if_neg q5, if_neg q5, ih, ih, ih]
