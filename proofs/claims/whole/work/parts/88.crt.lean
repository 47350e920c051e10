/-! two weeks together -/
theorem bez (w v : Nat) : ∃ x y : Int, (w : Int) * x + (v : Int) * y = (Nat.gcd w v : Int) := by
  induction w, v using Nat.gcd.induction with
  | H0 n => exact ⟨0, 1, by rw [Nat.gcd_zero_left, Int.mul_zero, Int.zero_add, Int.mul_one]⟩
  | H1 m n hm ih =>
    obtain ⟨x, y, h⟩ := ih
    refine ⟨y - ((n / m : Nat) : Int) * x, x, ?_⟩
    rw [Nat.gcd_rec, ← h]
    have e : (n : Int) = (m : Int) * ((n / m : Nat) : Int) + ((n % m : Nat) : Int) := by
      have := Nat.div_add_mod n m
      omega
    rw [Int.mul_sub]
    conv => lhs; rw [e]
    rw [Int.add_mul, Int.mul_assoc]
    omega
theorem crt {w d v e : Nat} (hw : 0 < w) (hv : 0 < v) (hd : d < w) (he : e < v) (h : mee w d v e = true) : ∃ r, r < Nat.lcm w v ∧ ∀ t : Int, (hb w d t && hb v e t) = hb (Nat.lcm w v) r t := by
  have hl : 0 < Nat.lcm w v := Nat.lcm_pos hw hv
  obtain ⟨x, y, hxy⟩ := bez w v
  have h1 : ((d : Int) - e) % (Nat.gcd w v : Int) = 0 := of_decide_eq_true h
  obtain ⟨c, hc⟩ := Int.dvd_of_emod_eq_zero h1
  have k1 : ((d : Int) - w * (x * c)) % (w : Int) = d := by
    rw [Int.sub_mul_emod_self_left]
    exact Int.emod_eq_of_lt (by omega) (by omega)
  have k2 : ((d : Int) - w * (x * c)) % (v : Int) = e := by
    have : (d : Int) - w * (x * c) = e + v * (y * c) := by
      have h3 : (Nat.gcd w v : Int) * c = (w : Int) * (x * c) + (v : Int) * (y * c) := by rw [← hxy, Int.add_mul, Int.mul_assoc, Int.mul_assoc]
      omega
    rw [this, Int.add_mul_emod_self_left]
    exact Int.emod_eq_of_lt (by omega) (by omega)
  generalize (d : Int) - w * (x * c) = t0 at k1 k2
  have m1 := Int.emod_nonneg t0 (b := (Nat.lcm w v : Int)) (by omega)
  have m2 := Int.emod_lt_of_pos t0 (b := (Nat.lcm w v : Int)) (by omega)
  obtain ⟨r, hr⟩ : ∃ r : Nat, t0 % (Nat.lcm w v : Int) = r := ⟨(t0 % (Nat.lcm w v : Int)).toNat, by omega⟩
  refine ⟨r, by omega, fun t => ?_⟩
  unfold hb
  rw [← Bool.decide_and]
  refine decide_eq_decide.mpr ?_
  rw [← hr, ← k1, ← k2, Int.emod_eq_emod_iff_emod_sub_eq_zero, Int.emod_eq_emod_iff_emod_sub_eq_zero, Int.emod_eq_emod_iff_emod_sub_eq_zero, ← Int.dvd_iff_emod_eq_zero, ← Int.dvd_iff_emod_eq_zero, ← Int.dvd_iff_emod_eq_zero, Int.ofNat_dvd_left, Int.ofNat_dvd_left, Int.ofNat_dvd_left]
  constructor
  · rintro ⟨a, b⟩; exact Nat.lcm_dvd a b
  · intro a; exact ⟨Nat.dvd_trans (Nat.dvd_lcm_left w v) a, Nat.dvd_trans (Nat.dvd_lcm_right w v) a⟩
theorem crt_no {w d v e : Nat} (h : mee w d v e = false) (t : Int) : (hb w d t && hb v e t) = false := by
  cases h1 : hb w d t with
  | false => rfl
  | true =>
    cases h2 : hb v e t with
    | false => rfl
    | true =>
      exfalso
      have a1 : t % (w : Int) = d := of_decide_eq_true h1
      have a2 : t % (v : Int) = e := of_decide_eq_true h2
      have a3 : ¬ ((d : Int) - e) % (Nat.gcd w v : Int) = 0 := of_decide_eq_false h
      apply a3
      rw [← a1, ← a2]
      have b1 := Int.emod_add_mul_ediv t (w : Int)
      have b2 := Int.emod_add_mul_ediv t (v : Int)
      obtain ⟨p, hp⟩ := Nat.gcd_dvd_left w v
      obtain ⟨q, hq⟩ := Nat.gcd_dvd_right w v
      have c1 : (w : Int) = (Nat.gcd w v : Int) * p := by rw [← Int.natCast_mul, ← hp]
      have c2 : (v : Int) = (Nat.gcd w v : Int) * q := by rw [← Int.natCast_mul, ← hq]
      have : t % (w : Int) - t % (v : Int) = (Nat.gcd w v : Int) * (q * (t / (v : Int)) - p * (t / (w : Int))) := by
        rw [Int.mul_sub, ← Int.mul_assoc, ← Int.mul_assoc, ← c1, ← c2]
        omega
      rw [this, Int.mul_emod_right]
theorem ct_eq1 {m r : Nat} (hr : r < m) : fb_ct (fun i => decide (i = r)) m = 1 := by
  have h1 : fb_ct (fun i => decide (i = r)) m = fb_ct (fun i => decide (i = r)) (r + 1 + (m - (r + 1))) := by rw [show r + 1 + (m - (r + 1)) = m by omega]
  rw [h1, fb_ct_split, ctT (p := fun i => decide (i = r)) (decide_eq_true rfl), fb_ct_zero.mpr (fun k hk => decide_eq_false (by omega)), fb_ct_zero.mpr (fun k hk => decide_eq_false (by omega))]
theorem ct_hb {m r : Nat} (hr : r < m) : ∀ q, fb_ct (fun t => hb m r (t : Nat)) (m * q) = q
  | 0 => rfl
  | q + 1 => by
    rw [Nat.mul_succ, fb_ct_split, ct_hb hr q]
    have : fb_ct (fun k => hb m r ((m * q + k : Nat) : Int)) m = fb_ct (fun i => decide (i = r)) m := fb_ct_cong (fun k hk => by
      unfold hb
      refine decide_eq_decide.mpr ?_
      rw [show (((m * q + k : Nat) : Int)) % (m : Int) = (((m * q + k) % m : Nat) : Int) from (Int.natCast_emod _ _).symm, Nat.mul_add_mod, Nat.mod_eq_of_lt hk]
      omega)
    rw [this, ct_eq1 hr]
theorem ct_hbT {m r T : Nat} (hr : r < m) (h : m ∣ T) : fb_ct (fun t => hb m r (t : Nat)) T = T / m := by
  obtain ⟨q, rfl⟩ := h
  rw [ct_hb hr q, Nat.mul_div_cancel_left _ (by omega)]
/-- days of a turn on which a holds and b does not -/
def thN (C : Cal) (a b : Nat) : Nat := fb_ct (fun t => hb (cW C a) (cD C a) (t : Nat) && !hb (cW C b) (cD C b) (t : Nat)) (t4 C)
theorem thN_eq {C : Cal} {a b : Nat} (hc : WFC C) (ha : a < cN C) (hb2 : b < cN C) : thN C a b + (if mee (cW C a) (cD C a) (cW C b) (cD C b) = true then t4 C / Nat.lcm (cW C a) (cW C b) else 0) = t4 C / cW C a := by
  have h1 := hc.2.1 a ha
  have h2 := hc.2.1 b hb2
  have hA := ct_hbT (T := t4 C) h1.2 (w_dvd4 ha)
  have hs : fb_ct (fun t => hb (cW C a) (cD C a) (t : Nat)) (t4 C) = thN C a b + fb_ct (fun t => hb (cW C a) (cD C a) (t : Nat) && hb (cW C b) (cD C b) (t : Nat)) (t4 C) := by
    unfold thN
    rw [← fb_ct_or (fun k _ => by simp only [Bool.and_eq_true, Bool.not_eq_true']; rintro ⟨⟨-, x⟩, -, y⟩; rw [x] at y; exact absurd y (by decide))]
    exact fb_ct_cong (fun k _ => by cases hb (cW C a) (cD C a) (k : Nat) <;> cases hb (cW C b) (cD C b) (k : Nat) <;> rfl)
  rw [← hA, hs]
  by_cases e : mee (cW C a) (cD C a) (cW C b) (cD C b) = true
  · obtain ⟨r, r1, r2⟩ := crt (by omega) (by omega) h1.2 h2.2 e
    rw [if_pos e, ← ct_hbT (T := t4 C) r1 (Nat.lcm_dvd (w_dvd4 ha) (w_dvd4 hb2)), fb_ct_cong (q := fun t => hb (Nat.lcm (cW C a) (cW C b)) r (t : Nat)) (p := fun t => hb (cW C a) (cD C a) (t : Nat) && hb (cW C b) (cD C b) (t : Nat)) (fun k _ => r2 _)]
  · rw [if_neg e, fb_ct_zero.mpr (fun k _ => crt_no (Bool.eq_false_iff.mpr e) _)]
