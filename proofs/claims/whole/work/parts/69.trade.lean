/-! turns of some laws; free days; trade -/
theorem lcs_dvd {t : Nat} {p : Nat → Bool} {w : Nat → Nat} {B : Nat} (ht : t ∣ B) : ∀ {n : Nat}, (∀ k, k < n → p k = true → w k ∣ B) → lcs t p w n ∣ B
  | 0, _ => ht
  | n + 1, h => by
    have ih := lcs_dvd (p := p) (w := w) ht (n := n) (fun k hk => h k (by omega))
    rw [lcs]
    by_cases hp : p n = true
    · rw [if_pos hp]; exact Nat.lcm_dvd ih (h n (by omega) hp)
    · rw [if_neg hp]; exact ih
theorem lcs_base (t : Nat) (p : Nat → Bool) (w : Nat → Nat) : ∀ n, t ∣ lcs t p w n
  | 0 => Nat.dvd_refl t
  | n + 1 => by
    have ih := lcs_base t p w n
    rw [lcs]
    split
    · exact Nat.dvd_trans ih (Nat.dvd_lcm_left _ _)
    · exact ih
theorem lcs_in {t : Nat} {p : Nat → Bool} {w : Nat → Nat} : ∀ {n k : Nat}, k < n → p k = true → w k ∣ lcs t p w n
  | n + 1, k, hk, hp => by
    rw [lcs]
    by_cases e : k = n
    · subst e
      rw [if_pos hp]
      exact Nat.dvd_lcm_right _ _
    · have ih := lcs_in (t := t) (w := w) (show k < n by omega) hp
      split
      · exact Nat.dvd_trans ih (Nat.dvd_lcm_left _ _)
      · exact ih
theorem lcs_pos {t : Nat} {p : Nat → Bool} {w : Nat → Nat} (ht : 0 < t) : ∀ {n : Nat}, (∀ k, k < n → 0 < w k) → 0 < lcs t p w n
  | 0, _ => ht
  | n + 1, h => by
    have ih := lcs_pos (p := p) (w := w) ht (n := n) (fun k hk => h k (by omega))
    rw [lcs]
    split
    · exact Nat.lcm_pos ih (h n (by omega))
    · exact ih
theorem t4_pos {C : Cal} (hc : WFC C) : 0 < t4 C := lcs_pos (by decide) (fun k hk => by have := hc.2.1 k hk; omega)
theorem t5_pos {C : Cal} (hc : WFC C) : 0 < t5 C := lcs_pos (t4_pos hc) (fun k hk => by have := hc.2.2.1 k hk; omega)
theorem t4_dvd (C : Cal) : t4 C ∣ t5 C := lcs_base _ _ _ _
theorem w_dvd4 {C : Cal} {l : Nat} (h : l < cN C) : cW C l ∣ t4 C := lcs_in h rfl
theorem w_dvd5 {C : Cal} {l : Nat} (h : l < cN C) : cW C l ∣ t5 C := Nat.dvd_trans (w_dvd4 h) (t4_dvd C)
theorem o_dvd5 {C : Cal} {l : Nat} (h : l < oN C) : oW C l ∣ t5 C := lcs_in h rfl
theorem t4_le {C : Cal} (hc : WFC C) : t4 C ≤ 100000 := Nat.le_trans (Nat.le_of_dvd (t5_pos hc) (t4_dvd C)) hc.2.2.2.2.2
/-- the turn of some laws of both towns -/
def tA (C : Cal) (L : Nat) : Nat := lcs 1 (fun l => L.testBit l) (cW C) (cN C)
def tB (C : Cal) (L O : Nat) : Nat := lcs (tA C L) (fun l => O.testBit l) (oW C) (oN C)
theorem turnWith_s {M : PM} {C : Cal} {L t : Nat} (hc : WFC C) (c : LawC M 4 (cN C) (cW C) (cD C)) (hL : L < 4096) (hb : ∀ k, k ≤ cN C → lcs t (fun l => L.testBit l) (cW C) k ≤ 100000) : F_X2_turnWith_4 M (zi L) (zi t) = rI (zi (lcs t (fun l => L.testBit l) (cW C) (cN C))) M := by
  have hn := hc.1.1
  obtain ⟨a1, a2, a3, a4⟩ := c
  unfold F_X2_turnWith_4
  exact loopU (cN C) (fun f l => F_X2_turnWith_4_5 f M (zi L) (zi (lcs t (fun l => L.testBit l) (cW C) l : Nat)) (zi (l : Nat))) _ (fun f => by
      rw [F_X2_turnWith_4_5]
      simp (disch := omega) only [lt_z, cI_s, cJ_s, cV_s, bI_s, bI_e, bV_s, bV_e, zl, zi_neg, zi_add, zi_sub, zi_mul, ↓reduceIte, zb0, zb1, bb_and, bb_t, bb_f, zi_ltT, zi_ltF, zi_leT, zi_leF, zi_eqT, zi_eqF, zi_ixT, zi_nat, Int.toNat_natCast, Int.reduceToNat, ltNT, and_self, a1]) (fun f l hl => by
      have hw := hc.2.1 l hl
      have a2l := a2 l hl
      have hbl := hb l (by omega)
      rw [F_X2_turnWith_4_5, zc (show ((l + 1 : Nat) : Int) = l + 1 by omega), lcs]
      unfold F_X2_turnWith_4_35
      cases hb1 : L.testBit l
      · rw [if_neg (by decide : ¬ false = true)]
        simp (disch := omega) only [lt_z, cI_s, cJ_s, cV_s, bI_s, bI_e, bV_s, bV_e, zl, zi_neg, zi_add, zi_sub, zi_mul, ↓reduceIte, zb0, zb1, bb_and, bb_t, bb_f, zi_ltT, zi_ltF, zi_leT, zi_leF, zi_eqT, zi_eqF, zi_ixT, zi_nat, Int.toNat_natCast, Int.reduceToNat, ltNT, and_self, a1, isIn_s, hb1]
      · rw [if_pos rfl]
        simp (disch := omega) only [lt_z, cI_s, cJ_s, cV_s, bI_s, bI_e, bV_s, bV_e, zl, zi_neg, zi_add, zi_sub, zi_mul, ↓reduceIte, zb0, zb1, bb_and, bb_t, bb_f, zi_ltT, zi_ltF, zi_leT, zi_leF, zi_eqT, zi_eqF, zi_ixT, zi_nat, Int.toNat_natCast, Int.reduceToNat, ltNT, and_self, a1, isIn_s, hb1, a2l, commonTurn_s]) 0 FUEL (by omega) (FUEL_gt (by omega))
theorem turnWith9_s {M : PM} {C : Cal} {L t : Nat} (hc : WFC C) (c : LawC M 9 (oN C) (oW C) (oD C)) (hL : L < 4096) (hb : ∀ k, k ≤ oN C → lcs t (fun l => L.testBit l) (oW C) k ≤ 100000) : F_X2_turnWith_9 M (zi L) (zi t) = rI (zi (lcs t (fun l => L.testBit l) (oW C) (oN C))) M := by
  have hn := hc.1.2.1
  obtain ⟨a1, a2, a3, a4⟩ := c
  unfold F_X2_turnWith_9
  exact loopU (oN C) (fun f l => F_X2_turnWith_9_5 f M (zi L) (zi (lcs t (fun l => L.testBit l) (oW C) l : Nat)) (zi (l : Nat))) _ (fun f => by
      rw [F_X2_turnWith_9_5]
      simp (disch := omega) only [lt_z, cI_s, cJ_s, cV_s, bI_s, bI_e, bV_s, bV_e, zl, zi_neg, zi_add, zi_sub, zi_mul, ↓reduceIte, zb0, zb1, bb_and, bb_t, bb_f, zi_ltT, zi_ltF, zi_leT, zi_leF, zi_eqT, zi_eqF, zi_ixT, zi_nat, Int.toNat_natCast, Int.reduceToNat, ltNT, and_self, a1]) (fun f l hl => by
      have hw := hc.2.2.1 l hl
      have a2l := a2 l hl
      have hbl := hb l (by omega)
      rw [F_X2_turnWith_9_5, zc (show ((l + 1 : Nat) : Int) = l + 1 by omega), lcs]
      unfold F_X2_turnWith_9_35
      cases hb1 : L.testBit l
      · rw [if_neg (by decide : ¬ false = true)]
        simp (disch := omega) only [lt_z, cI_s, cJ_s, cV_s, bI_s, bI_e, bV_s, bV_e, zl, zi_neg, zi_add, zi_sub, zi_mul, ↓reduceIte, zb0, zb1, bb_and, bb_t, bb_f, zi_ltT, zi_ltF, zi_leT, zi_leF, zi_eqT, zi_eqF, zi_ixT, zi_nat, Int.toNat_natCast, Int.reduceToNat, ltNT, and_self, a1, isIn_s, hb1]
      · rw [if_pos rfl]
        simp (disch := omega) only [lt_z, cI_s, cJ_s, cV_s, bI_s, bI_e, bV_s, bV_e, zl, zi_neg, zi_add, zi_sub, zi_mul, ↓reduceIte, zb0, zb1, bb_and, bb_t, bb_f, zi_ltT, zi_ltF, zi_leT, zi_leF, zi_eqT, zi_eqF, zi_ixT, zi_nat, Int.toNat_natCast, Int.reduceToNat, ltNT, and_self, a1, isIn_s, hb1, a2l, commonTurn_s]) 0 FUEL (by omega) (FUEL_gt (by omega))
theorem tA_dvd (C : Cal) (L k : Nat) (hk : k ≤ cN C) : lcs 1 (fun l => L.testBit l) (cW C) k ∣ t4 C := lcs_dvd (Nat.one_dvd _) (fun j hj _ => w_dvd4 (by omega))
theorem tB_dvd (C : Cal) (L O k : Nat) (hk : k ≤ oN C) : lcs (tA C L) (fun l => O.testBit l) (oW C) k ∣ t5 C := lcs_dvd (Nat.dvd_trans (tA_dvd C L (cN C) (Nat.le_refl _)) (t4_dvd C)) (fun j hj _ => o_dvd5 (by omega))
theorem tB_pos {C : Cal} (hc : WFC C) (L O : Nat) : 0 < tB C L O := lcs_pos (lcs_pos (by decide) (fun k hk => by have := hc.2.1 k hk; omega)) (fun k hk => by have := hc.2.2.1 k hk; omega)
theorem tB_le {C : Cal} (hc : WFC C) (L O : Nat) : tB C L O ≤ 100000 := Nat.le_trans (Nat.le_of_dvd (t5_pos hc) (tB_dvd C L O _ (Nat.le_refl _))) hc.2.2.2.2.2
def brM (M : PM) (L O T : Nat) : PM := sI (sI (sI M 27 2 (zi L)) 27 3 (zi O)) 27 4 (zi T)
theorem brM_sam {M : PM} {L O T : Nat} : Sam M (brM M L O T) := Sam.i 27 4 _ (by decide) (Sam.i 27 3 _ (by decide) (Sam.i 27 2 _ (by decide) Sam.rf))
theorem bar_s {M : PM} {C : Cal} {L O : Nat} (hc : WFC C) (c : CalC M C) (hL : L < 4096) (hO : O < 4096) : F_X1_bar_27 M (zi L) (zi O) = rV (brM M L O (tB C L O)) := by
  have c1 : LawC (sI (sI M 27 2 (zi L)) 27 3 (zi O)) 4 (cN C) (cW C) (cD C) := c.1
  have c2 : LawC (sI (sI M 27 2 (zi L)) 27 3 (zi O)) 9 (oN C) (oW C) (oD C) := c.2.1
  have h1 := turnWith_s (t := 1) hc c1 hL (fun k hk => Nat.le_trans (Nat.le_of_dvd (t4_pos hc) (tA_dvd C L k hk)) (t4_le hc))
  have h2 := turnWith9_s (t := tA C L) hc c2 hO (fun k hk => Nat.le_trans (Nat.le_of_dvd (t5_pos hc) (tB_dvd C L O k hk)) hc.2.2.2.2.2)
  unfold F_X1_bar_27
  rw [show (1 : Int32) = zi ((1 : Nat) : Int) from rfl, h1, cI_s]
  show cI (F_X2_turnWith_9 _ (zi O) (zi (tA C L))) _ = _
  rw [h2, cI_s]
  rfl
/-- none of these laws of both towns holds -/
def fre (C : Cal) (L O : Nat) (t : Int) : Bool := !(anL (cN C) (cW C) (cD C) L t || anL (oN C) (oW C) (oD C) O t)
theorem daysFrom_s {M : PM} {C : Cal} {L O : Nat} {t : Int} (hc : WFC C) (c : CalC M C) (hL : L < 4096) (hO : O < 4096) (h2 : mI M 27 2 = zi L) (h3 : mI M 27 3 = zi O) (ht : -2000000000 ≤ t ∧ t ≤ 2000000000) : ∃ y, F_X1_daysFrom_27 M (zi t) = rJ y M ∧ ∀ i, i < 64 → lb y i = fre C L O (t + i) := by
  obtain ⟨x, x1, x2⟩ := someHeld_s hc c.1 hL ht
  obtain ⟨z, z1, z2⟩ := someHeld9_s hc c.2.1 hO ht
  refine ⟨(x ||| z) ^^^ (-1), ?_, fun i hi => ?_⟩
  · unfold F_X1_daysFrom_27
    rw [h2, x1, cJ_s, h3, z1, cJ_s]
  · rw [lb_not _ hi, lb_or, x2 i hi, z2 i hi]
    rfl
theorem ct_cut (q : Nat → Bool) (b : Int) : ∀ n, fb_ct (fun i => q i && decide ((i : Int) < b)) n = fb_ct q (min n b.toNat)
  | 0 => by rw [Nat.zero_min]; rfl
  | n + 1 => by
    have ih := ct_cut q b n
    rw [fb_ct_succ, ih]
    by_cases h : (n : Int) < b
    · rw [decide_eq_true h, Bool.and_true, show min n b.toNat = n by omega, show min (n + 1) b.toNat = n + 1 by omega, fb_ct_succ]
    · rw [decide_eq_false h, Bool.and_false, if_neg (by decide), show min n b.toNat = b.toNat by omega, show min (n + 1) b.toNat = b.toNat by omega]
      rfl
/-- the next 64 of T days counted -/
theorem blk {p : Nat → Bool} {T a : Nat} (ha : a < T) : fb_ct p (min a T) + fb_ct (fun i => p (a + i) && decide ((i : Int) < (T : Int) - a)) 64 = fb_ct p (min (a + 64) T) := by
  rw [ct_cut (fun i => p (a + i)), show min a T = a by omega, ← fb_ct_split, show a + min 64 ((T : Int) - a).toNat = min (a + 64) T by omega]
theorem tradeC {M : PM} {C : Cal} {L O : Nat} (hc : WFC C) (c : CalC M C) (hL : L < 4096) (hO : O < 4096) (h2 : mI M 27 2 = zi L) (h3 : mI M 27 3 = zi O) : F_X10_trade_0_24 FUEL M (zi 0) (zi 0) = rI (zi (fb_ct (fun t => fre C L O t) (t5 C))) M := by
  have hT := hc.2.2.2.2.2
  have a1 := c.2.2.2.1.2.2.2
  have h := loopS (σ := Nat) (fun f a => F_X10_trade_0_24 f M (zi (fb_ct (fun t => fre C L O t) (min a (t5 C)) : Nat)) (zi (a : Nat))) (fun o => o = rI (zi (fb_ct (fun t => fre C L O t) (t5 C))) M) (fun r a => r = t5 C - a ∧ a ≤ t5 C + 64) (fun f r a hI => by
    obtain ⟨r1, r2⟩ := hI
    by_cases e : t5 C ≤ a
    · left
      rw [F_X10_trade_0_24, show min a (t5 C) = t5 C by omega]
      simp (disch := omega) only [lt_z, cI_s, cJ_s, cV_s, bI_s, bI_e, bV_s, bV_e, zl, zi_neg, zi_add, zi_sub, zi_mul, ↓reduceIte, zb0, zb1, bb_and, bb_t, bb_f, zi_ltT, zi_ltF, zi_leT, zi_leF, zi_eqT, zi_eqF, zi_ixT, zi_nat, Int.toNat_natCast, Int.reduceToNat, ltNT, and_self, a1]
    · right
      refine ⟨t5 C - (a + 64), a + 64, by omega, ⟨rfl, by omega⟩, ?_⟩
      obtain ⟨x, x1, x2⟩ := daysFrom_s (t := (a : Int)) hc c hL hO h2 h3 (by omega)
      obtain ⟨y, y1, y2⟩ := low_s (M := M) (b := (t5 C : Int) - a) (by omega)
      have e2 : fb_ct (lb (x &&& y)) 64 = fb_ct (fun i => (fun t : Nat => fre C L O t) (a + i) && decide ((i : Int) < (t5 C : Int) - a)) 64 := fb_ct_cong (fun i hi => by rw [lb_and, x2 i hi, y2 i hi, ← Int.natCast_add])
      have hb := blk (p := fun t => fre C L O t) (T := t5 C) (a := a) (by omega)
      rw [F_X10_trade_0_24, x1, cJ_s, a1, zi_sub, y1, cJ_s, bitCount_lb, cI_s, e2, ← hb, zc (show ((a + 64 : Nat) : Int) = a + 64 by omega), zc (show ((fb_ct (fun t : Nat => fre C L O t) (min a (t5 C)) + fb_ct (fun i => (fun t : Nat => fre C L O t) (a + i) && decide ((i : Int) < (t5 C : Int) - a)) 64 : Nat) : Int) = (fb_ct (fun t : Nat => fre C L O t) (min a (t5 C)) : Int) + (fb_ct (fun i => (fun t : Nat => fre C L O t) (a + i) && decide ((i : Int) < (t5 C : Int) - a)) 64 : Int) from Int.natCast_add _ _), if_neg (by rw [zi_le (by omega) (by omega)]; omega)]
      generalize fb_ct (fun i => (fun t : Nat => fre C L O t) (a + i) && decide ((i : Int) < (t5 C : Int) - a)) 64 = u
      generalize fb_ct (fun t : Nat => fre C L O t) (min a (t5 C)) = v
      simp (disch := omega) only [lt_z, cI_s, cJ_s, cV_s, bI_s, bI_e, bV_s, bV_e, zl, zi_neg, zi_add, zi_sub, zi_mul, ↓reduceIte, zb0, zb1, bb_and, bb_t, bb_f, zi_ltT, zi_ltF, zi_leT, zi_leF, zi_eqT, zi_eqF, zi_ixT, zi_nat, Int.toNat_natCast, Int.reduceToNat, ltNT, and_self]) (t5 C) 0 FUEL ⟨by omega, by omega⟩ (FUEL_gt (by omega))
  rw [Nat.zero_min] at h
  exact h
