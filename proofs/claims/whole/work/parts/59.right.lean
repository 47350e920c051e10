/-! how many are in a set; right -/
def pop (L : Nat) : Nat := fb_ct (fun k => L.testBit k) 12
theorem ones_s {M : PM} {L : Nat} (hL : L < 2147483648) : F_X11_ones M (zi L) = rI (zi (pop L)) M := by
  unfold F_X11_ones
  exact loopU 12 (fun f i => F_X11_ones_4 f M (zi L) (zi (fb_ct (fun k => L.testBit k) i : Nat)) (zi (i : Nat))) _ (fun f => by
      rw [F_X11_ones_4]
      simp (disch := omega) only [lt_z, cI_s, cJ_s, cV_s, bI_s, bI_e, bV_s, bV_e, zl, zi_neg, zi_add, zi_sub, zi_mul, ↓reduceIte, zb0, zb1, bb_and, bb_t, bb_f, zi_ltT, zi_ltF, zi_leT, zi_leF, zi_eqT, zi_eqF, zi_ixT, zi_nat, Int.toNat_natCast, Int.reduceToNat, ltNT, and_self]
      rfl) (fun f i hi => by
      rw [F_X11_ones_4, zc (show ((i + 1 : Nat) : Int) = i + 1 by omega)]
      cases hb : L.testBit i
      · rw [ctF (p := fun k => L.testBit k) hb]
        simp (disch := omega) only [lt_z, cI_s, cJ_s, cV_s, bI_s, bI_e, bV_s, bV_e, zl, zi_neg, zi_add, zi_sub, zi_mul, ↓reduceIte, zb0, zb1, bb_and, bb_t, bb_f, zi_ltT, zi_ltF, zi_leT, zi_leF, zi_eqT, zi_eqF, zi_ixT, zi_nat, Int.toNat_natCast, Int.reduceToNat, ltNT, and_self, zbit1, hb, Int.add_zero]
      · rw [ctT (p := fun k => L.testBit k) hb, zc (show ((fb_ct (fun k => L.testBit k) i + 1 : Nat) : Int) = (fb_ct (fun k => L.testBit k) i : Nat) + 1 by omega)]
        simp (disch := omega) only [lt_z, cI_s, cJ_s, cV_s, bI_s, bI_e, bV_s, bV_e, zl, zi_neg, zi_add, zi_sub, zi_mul, ↓reduceIte, zb0, zb1, bb_and, bb_t, bb_f, zi_ltT, zi_ltF, zi_leT, zi_leF, zi_eqT, zi_eqF, zi_ixT, zi_nat, Int.toNat_natCast, Int.reduceToNat, ltNT, and_self, zbit1, hb]) 0 FUEL (by omega) (FUEL_gt (by omega))
def bcE (a0 : Int32) : Int32 :=
  let y444 := a0 - (((a0.toUInt32 >>> ((1 : Int32).toUInt32 &&& Int32.toUInt32 31)).toInt32) &&& 1431655765)
  let y445 := (y444 &&& 858993459) + (((y444.toUInt32 >>> ((2 : Int32).toUInt32 &&& Int32.toUInt32 31)).toInt32) &&& 858993459)
  let y446 := (y445 + ((y445.toUInt32 >>> ((4 : Int32).toUInt32 &&& Int32.toUInt32 31)).toInt32)) &&& 252645135
  let y447 := y446 + ((y446.toUInt32 >>> ((8 : Int32).toUInt32 &&& Int32.toUInt32 31)).toInt32)
  let y448 := y447 + ((y447.toUInt32 >>> ((16 : Int32).toUInt32 &&& Int32.toUInt32 31)).toInt32)
  y448 &&& 63
theorem bc_all : ∀ a : Fin 64, ∀ b : Fin 64, bcE (zi ((64 * a.val + b.val : Nat))) = zi (pop (64 * a.val + b.val)) := by decide +kernel
theorem bitCount_s {M : PM} {L : Nat} (hL : L < 4096) : F_J6_bitCount_0f7a4 M (zi L) = rI (zi (pop L)) M := by
  show rI (bcE (zi L)) M = _
  have h := bc_all ⟨L / 64, by omega⟩ ⟨L % 64, by omega⟩
  simp only at h
  rw [show 64 * (L / 64) + L % 64 = L by omega] at h
  rw [h]
/-- houses whose wheels of the first n laws stand alike -/
def alk (S : Sta) (n h g : Nat) : Bool := decide (fb_ct (fun l => !decide (aS S h l = aS S g l)) n = 0)
theorem alk_t {S : Sta} {n h g : Nat} (e : ∀ l, l < n → aS S h l = aS S g l) : alk S n h g = true := decide_eq_true (fb_ct_zero.mpr (fun k hk => by rw [decide_eq_true (e k hk)]; rfl))
theorem alk_f {S : Sta} {n h g l : Nat} (hl : l < n) (e : aS S h l ≠ aS S g l) : alk S n h g = false := decide_eq_false (fun h2 => by
  have := fb_ct_zero.mp h2 l hl
  rw [decide_eq_false e] at this
  exact absurd this (by decide))
theorem alk_comm (S : Sta) (n h g : Nat) : alk S n h g = alk S n g h := by
  unfold alk
  rw [fb_ct_cong (q := fun l => !decide (aS S g l = aS S h l)) (fun k _ => by rw [decide_eq_decide.mpr (show aS S h k = aS S g k ↔ aS S g k = aS S h k from ⟨Eq.symm, Eq.symm⟩)])]
theorem alk_12 {C : Cal} {S : Sta} {h g : Nat} (hc : WFC C) (w : WFS C S) (hh : h < cH C) (hg : g < cH C) : alk S 12 h g = alk S (cN C) h g := by
  have hn := hc.1.1
  by_cases e : ∀ l, l < cN C → aS S h l = aS S g l
  · rw [alk_t e]
    refine alk_t (fun l hl => ?_)
    by_cases q : l < cN C
    · exact e l q
    · rw [w.2.1 h l hh (by omega), w.2.1 g l hg (by omega)]
  · obtain ⟨l, h1⟩ := Classical.not_forall.mp e
    obtain ⟨h2, h3⟩ := Classical.not_imp.mp h1
    rw [alk_f h2 h3, alk_f (by omega : l < 12) h3]
theorem areAlikeC {M : PM} {C : Cal} {S : Sta} {h g : Nat} (hc : WFC C) (w : WFS C S) (s : StaC M C S 16) (hh : h < cH C) (hg : g < cH C) : F_X3_areAlike_16 M (zi h) (zi g) = rI (bb (alk S (cN C) h g)) M := by
  have hH := hc.1.2.2.1
  rw [← alk_12 hc w hh hg]
  unfold F_X3_areAlike_16
  refine loopI 12 (fun f i => F_X3_areAlike_16_2 f M (zi h) (zi g) (zi (i : Nat))) (fun o => o = rI (bb (alk S 12 h g)) M) (fun i => ∀ l, l < i → aS S h l = aS S g l) (fun f hI => ?_) (fun f i hi hI => ?_) 0 FUEL (by omega) (fun l hl => by omega) (FUEL_gt (by omega))
  · rw [F_X3_areAlike_16_2, alk_t hI]
    simp (disch := omega) only [lt_z, cI_s, cJ_s, cV_s, bI_s, bI_e, bV_s, bV_e, zl, zi_neg, zi_add, zi_sub, zi_mul, ↓reduceIte, zb0, zb1, bb_and, bb_t, bb_f, zi_ltT, zi_ltF, zi_leT, zi_leF, zi_eqT, zi_eqF, zi_ixT, zi_nat, Int.toNat_natCast, Int.reduceToNat, ltNT, and_self]
  · show (F_X3_areAlike_16_2 (f + 1) M (zi h) (zi g) (zi i) = _) ∨ (_ ∧ F_X3_areAlike_16_2 (f + 1) M (zi h) (zi g) (zi i) = F_X3_areAlike_16_2 f M (zi h) (zi g) (zi ((i + 1 : Nat))))
    rw [F_X3_areAlike_16_2, zc (show ((i + 1 : Nat) : Int) = i + 1 by omega)]
    have b1 : aS S h i < 100 := by
      by_cases q : i < cN C
      · have := w.1 h i hh q; have := hc.2.1 i q; omega
      · rw [w.2.1 h i hh (by omega)]; omega
    have b2 : aS S g i < 100 := by
      by_cases q : i < cN C
      · have := w.1 g i hg q; have := hc.2.1 i q; omega
      · rw [w.2.1 g i hg (by omega)]; omega
    by_cases e : aS S h i = aS S g i
    · right
      refine ⟨fun l hl => ?_, ?_⟩
      · by_cases q : l = i
        · rw [q]; exact e
        · exact hI l (by omega)
      · simp (disch := omega) only [lt_z, cI_s, cJ_s, cV_s, bI_s, bI_e, bV_s, bV_e, zl, zi_neg, zi_add, zi_sub, zi_mul, ↓reduceIte, zb0, zb1, bb_and, bb_t, bb_f, zi_ltT, zi_ltF, zi_leT, zi_leF, zi_eqT, zi_eqF, zi_ixT, zi_nat, Int.toNat_natCast, Int.reduceToNat, ltNT, and_self, aheadOf_t s.1 hH, e]
    · left
      rw [alk_f hi e]
      simp (disch := omega) only [lt_z, cI_s, cJ_s, cV_s, bI_s, bI_e, bV_s, bV_e, zl, zi_neg, zi_add, zi_sub, zi_mul, ↓reduceIte, zb0, zb1, bb_and, bb_t, bb_f, zi_ltT, zi_ltF, zi_leT, zi_leF, zi_eqT, zi_eqF, zi_ixT, zi_nat, Int.toNat_natCast, Int.reduceToNat, ltNT, and_self, aheadOf_t s.1 hH]
theorem areAlikeM {M : PM} {C : Cal} {S : Sta} {h g : Nat} (hc : WFC C) (w : WFS C S) (c : CalM M C) (s : StaM M C S) (hh : h < cH C) (hg : g < cH C) : F_X11_areAlike_99 M (zi h) (zi g) = rI (bb (alk S (cN C) h g)) M := by
  have hH := hc.1.2.2.1
  have hn := hc.1.1
  have a1 := c.1.1
  unfold F_X11_areAlike_99
  refine loopI (cN C) (fun f i => F_X11_areAlike_99_2 f M (zi h) (zi g) (zi (i : Nat))) (fun o => o = rI (bb (alk S (cN C) h g)) M) (fun i => ∀ l, l < i → aS S h l = aS S g l) (fun f hI => ?_) (fun f i hi hI => ?_) 0 FUEL (by omega) (fun l hl => by omega) (FUEL_gt (by omega))
  · rw [F_X11_areAlike_99_2, alk_t hI]
    simp (disch := omega) only [lt_z, cI_s, cJ_s, cV_s, bI_s, bI_e, bV_s, bV_e, zl, zi_neg, zi_add, zi_sub, zi_mul, ↓reduceIte, zb0, zb1, bb_and, bb_t, bb_f, zi_ltT, zi_ltF, zi_leT, zi_leF, zi_eqT, zi_eqF, zi_ixT, zi_nat, Int.toNat_natCast, Int.reduceToNat, ltNT, and_self, a1]
  · show (F_X11_areAlike_99_2 (f + 1) M (zi h) (zi g) (zi i) = _) ∨ (_ ∧ F_X11_areAlike_99_2 (f + 1) M (zi h) (zi g) (zi i) = F_X11_areAlike_99_2 f M (zi h) (zi g) (zi ((i + 1 : Nat))))
    rw [F_X11_areAlike_99_2, zc (show ((i + 1 : Nat) : Int) = i + 1 by omega)]
    have b1 := w.1 h i hh hi
    have b2 := w.1 g i hg hi
    have b3 := hc.2.1 i hi
    by_cases e : aS S h i = aS S g i
    · right
      refine ⟨fun l hl => ?_, ?_⟩
      · by_cases q : l = i
        · rw [q]; exact e
        · exact hI l (by omega)
      · simp (disch := omega) only [lt_z, cI_s, cJ_s, cV_s, bI_s, bI_e, bV_s, bV_e, zl, zi_neg, zi_add, zi_sub, zi_mul, ↓reduceIte, zb0, zb1, bb_and, bb_t, bb_f, zi_ltT, zi_ltF, zi_leT, zi_leF, zi_eqT, zi_eqF, zi_ixT, zi_nat, Int.toNat_natCast, Int.reduceToNat, ltNT, and_self, a1, s.1, e]
    · left
      rw [alk_f hi e]
      simp (disch := omega) only [lt_z, cI_s, cJ_s, cV_s, bI_s, bI_e, bV_s, bV_e, zl, zi_neg, zi_add, zi_sub, zi_mul, ↓reduceIte, zb0, zb1, bb_and, bb_t, bb_f, zi_ltT, zi_ltF, zi_leT, zi_leF, zi_eqT, zi_eqF, zi_ixT, zi_nat, Int.toNat_natCast, Int.reduceToNat, ltNT, and_self, a1, s.1]
/-- the houses like house h -/
def alS (C : Cal) (S : Sta) (h : Nat) : Nat := obN (fun g => alk S (cN C) h g) (cH C)
def alB (C : Cal) (S : Sta) : Nat → Nat
  | 0 => 0
  | h + 1 => if pop (alS C S h) ≤ pop (alB C S h) then alB C S h else alS C S h
theorem alS_lt {C : Cal} (hc : WFC C) (S : Sta) (h : Nat) : alS C S h < 4096 := Nat.lt_of_lt_of_le (obN_lt _ _) (p2 (by have := hc.1.2.2.1; omega)).2
theorem alB_lt {C : Cal} (hc : WFC C) (S : Sta) : ∀ h, alB C S h < 4096
  | 0 => by show 0 < 4096; decide
  | h + 1 => by
    rw [alB]
    split
    · exact alB_lt hc S h
    · exact alS_lt hc S h
theorem pop_le (L : Nat) : pop L ≤ 12 := fb_ct_le _ _
theorem housesAlike_s {M : PM} {C : Cal} {S : Sta} {h : Nat} (hc : WFC C) (w : WFS C S) (c : CalC M C) (s : StaC M C S 16) (hh : h < cH C) : F_X10_housesAlike_0 M (zi h) = rI (zi (alS C S h)) M := by
  have hH := hc.1.2.2.1
  have a1 := c.2.2.2.1.1
  unfold F_X10_housesAlike_0 alS
  rw [← ob_zi _ _ (by omega)]
  exact loopU (cH C) (fun f i => F_X10_housesAlike_0_4 f M (zi h) (ob (fun g => alk S (cN C) h g) i) (zi (i : Nat))) _ (fun f => by
      rw [F_X10_housesAlike_0_4]
      simp (disch := omega) only [lt_z, cI_s, cJ_s, cV_s, bI_s, bI_e, bV_s, bV_e, zl, zi_neg, zi_add, zi_sub, zi_mul, ↓reduceIte, zb0, zb1, bb_and, bb_t, bb_f, zi_ltT, zi_ltF, zi_leT, zi_leF, zi_eqT, zi_eqF, zi_ixT, zi_nat, Int.toNat_natCast, Int.reduceToNat, ltNT, and_self, a1]) (fun f i hi => by
      rw [F_X10_housesAlike_0_4, zc (show ((i + 1 : Nat) : Int) = i + 1 by omega), ob]
      unfold F_X10_housesAlike_0_35
      have e := alk_comm S (cN C) i h
      cases hp : alk S (cN C) h i
      · rw [hp] at e
        simp (disch := omega) only [lt_z, cI_s, cJ_s, cV_s, bI_s, bI_e, bV_s, bV_e, zl, zi_neg, zi_add, zi_sub, zi_mul, ↓reduceIte, zb0, zb1, bb_and, bb_t, bb_f, zi_ltT, zi_ltF, zi_leT, zi_leF, zi_eqT, zi_eqF, zi_ixT, zi_nat, Int.toNat_natCast, Int.reduceToNat, ltNT, and_self, a1, areAlikeC hc w s, e, Bool.false_eq_true]
      · rw [hp] at e
        simp (disch := omega) only [lt_z, cI_s, cJ_s, cV_s, bI_s, bI_e, bV_s, bV_e, zl, zi_neg, zi_add, zi_sub, zi_mul, ↓reduceIte, zb0, zb1, bb_and, bb_t, bb_f, zi_ltT, zi_ltF, zi_leT, zi_leF, zi_eqT, zi_eqF, zi_ixT, zi_nat, Int.toNat_natCast, Int.reduceToNat, ltNT, and_self, a1, areAlikeC hc w s, e]) 0 FUEL (by omega) (FUEL_gt (by omega))
def rgt (C : Cal) (S : Sta) (x : Int) : Int := if x = 0 then (cH C : Int) - pop (alB C S (cH C)) else alB C S (cH C)
theorem rightC_e {M : PM} {C : Cal} {S : Sta} {x : Int} {f : Nat} (hc : WFC C) (c : CalC M C) (hx : x = 0 ∨ x = 1) : F_X10_right_0_9 (f + 1) M (zi x) (zi (alB C S (cH C) : Nat)) (zi (cH C : Nat)) = rI (zi (rgt C S x)) M := by
  have hH := hc.1.2.2.1
  have a1 := c.2.2.2.1.1
  have hl := alB_lt hc S (cH C)
  have b1 := bitCount_s (M := M) hl
  rw [F_X10_right_0_9]
  unfold rgt
  generalize pop (alB C S (cH C)) = p1 at *
  generalize alB C S (cH C) = B at *
  rw [b1, cI_s]
  rcases hx with rfl | rfl <;> simp (disch := omega) only [lt_z, cI_s, cJ_s, cV_s, bI_s, bI_e, bV_s, bV_e, zl, zi_neg, zi_add, zi_sub, zi_mul, ↓reduceIte, zb0, zb1, bb_and, bb_t, bb_f, zi_ltT, zi_ltF, zi_leT, zi_leF, zi_eqT, zi_eqF, zi_ixT, zi_nat, Int.toNat_natCast, Int.reduceToNat, ltNT, and_self, a1, Int.reduceEq]
theorem rightC_s {M : PM} {C : Cal} {S : Sta} {x : Int} {f i : Nat} (hc : WFC C) (w : WFS C S) (c : CalC M C) (s : StaC M C S 16) (hi : i < cH C) : F_X10_right_0_9 (f + 1) M (zi x) (zi (alB C S i : Nat)) (zi (i : Nat)) = F_X10_right_0_9 f M (zi x) (zi (alB C S (i + 1) : Nat)) (zi ((i + 1 : Nat))) := by
  have hH := hc.1.2.2.1
  have a1 := c.2.2.2.1.1
  have hl := alB_lt hc S i
  have hl2 := alS_lt hc S i
  have q1 := pop_le (alB C S i)
  have q2 := pop_le (alS C S i)
  have b1 := bitCount_s (M := M) hl
  have b2 := bitCount_s (M := M) hl2
  have b3 := housesAlike_s hc w c s hi
  rw [F_X10_right_0_9, zc (show ((i + 1 : Nat) : Int) = i + 1 by omega), alB]
  unfold F_X10_right_0_42
  generalize pop (alB C S i) = p1 at *
  generalize pop (alS C S i) = p2 at *
  generalize alB C S i = B at *
  generalize alS C S i = A at *
  rw [b3, cI_s, b2, cI_s, b1, cI_s]
  by_cases e : p2 ≤ p1
  · rw [if_pos e]
    simp (disch := omega) only [lt_z, cI_s, cJ_s, cV_s, bI_s, bI_e, bV_s, bV_e, zl, zi_neg, zi_add, zi_sub, zi_mul, ↓reduceIte, zb0, zb1, bb_and, bb_t, bb_f, zi_ltT, zi_ltF, zi_leT, zi_leF, zi_eqT, zi_eqF, zi_ixT, zi_nat, Int.toNat_natCast, Int.reduceToNat, ltNT, and_self, a1]
  · rw [if_neg e]
    simp (disch := omega) only [lt_z, cI_s, cJ_s, cV_s, bI_s, bI_e, bV_s, bV_e, zl, zi_neg, zi_add, zi_sub, zi_mul, ↓reduceIte, zb0, zb1, bb_and, bb_t, bb_f, zi_ltT, zi_ltF, zi_leT, zi_leF, zi_eqT, zi_eqF, zi_ixT, zi_nat, Int.toNat_natCast, Int.reduceToNat, ltNT, and_self, a1]
theorem rightC {M : PM} {C : Cal} {S : Sta} {x : Int} (hc : WFC C) (w : WFS C S) (c : CalC M C) (s : StaC M C S 16) (hx : x = 0 ∨ x = 1) : F_X10_right_0_9 FUEL M (zi x) (zi 0) (zi 0) = rI (zi (rgt C S x)) M := by
  have hH := hc.1.2.2.1
  have h := loopU (cH C) (fun f i => F_X10_right_0_9 f M (zi x) (zi (alB C S i : Nat)) (zi (i : Nat))) (rI (zi (rgt C S x)) M) (fun f => rightC_e hc c hx) (fun f i hi => rightC_s hc w c s hi) 0 FUEL (by omega) (FUEL_gt (by omega))
  have e1 : zi ((alB C S 0 : Nat) : Int) = zi 0 := rfl
  have e2 : zi ((0 : Nat) : Int) = zi 0 := rfl
  simp only [e1, e2] at h
  exact h
theorem right50 {M : PM} {C : Cal} {S : Sta} {x : Int} {h : Nat} {b : Nat} {k : PM → Int32 → Int32 → Int32 → Option PR} (hc : WFC C) (w : WFS C S) (c : CalM M C) (s : StaM M C S) (hh : h < cH C) (hb : b < 4096) : F_X11_right_99_50 k FUEL M (zi x) (zi b) (zi h) (zi 0) (zi 0) = k M (zi x) (zi ((if pop (alS C S h) ≤ pop b then b else alS C S h : Nat))) (zi (h + 1)) := by
  have hH := hc.1.2.2.1
  have a1 := c.1.2.2.1
  exact loopU (cH C) (fun f i => F_X11_right_99_50 k f M (zi x) (zi b) (zi h) (ob (fun g => alk S (cN C) h g) i) (zi (i : Nat))) _ (fun f => by
      have hl2 := alS_lt hc S h
      have q1 := pop_le b
      have q2 := pop_le (alS C S h)
      rw [F_X11_right_99_50, ob_zi _ _ (by omega)]
      show (if ixOK 2 6 = true then (if mA M 103 (2 : Int32).toNatClampNeg ≤ zi (cH C) then cI (F_X11_ones M (zi (alS C S h))) fun v1477 M1476 => cI (F_X11_ones M1476 (zi b)) fun v1479 M1478 => (if v1477 ≤ v1479 then F_X11_right_99_108 k M1478 (zi x) (zi h) (zi b) else F_X11_right_99_108 k M1478 (zi x) (zi h) (zi (alS C S h))) else _) else none) = _
      unfold F_X11_right_99_108
      by_cases e : pop (alS C S h) ≤ pop b
      · rw [if_pos e]
        simp (disch := omega) only [lt_z, cI_s, cJ_s, cV_s, bI_s, bI_e, bV_s, bV_e, zl, zi_neg, zi_add, zi_sub, zi_mul, ↓reduceIte, zb0, zb1, bb_and, bb_t, bb_f, zi_ltT, zi_ltF, zi_leT, zi_leF, zi_eqT, zi_eqF, zi_ixT, zi_nat, Int.toNat_natCast, Int.reduceToNat, ltNT, and_self, a1, ones_s]
      · rw [if_neg e]
        simp (disch := omega) only [lt_z, cI_s, cJ_s, cV_s, bI_s, bI_e, bV_s, bV_e, zl, zi_neg, zi_add, zi_sub, zi_mul, ↓reduceIte, zb0, zb1, bb_and, bb_t, bb_f, zi_ltT, zi_ltF, zi_leT, zi_leF, zi_eqT, zi_eqF, zi_ixT, zi_nat, Int.toNat_natCast, Int.reduceToNat, ltNT, and_self, a1, ones_s]) (fun f i hi => by
      rw [F_X11_right_99_50, zc (show ((i + 1 : Nat) : Int) = i + 1 by omega), ob]
      unfold F_X11_right_99_81
      cases hp : alk S (cN C) h i
      · simp (disch := omega) only [lt_z, cI_s, cJ_s, cV_s, bI_s, bI_e, bV_s, bV_e, zl, zi_neg, zi_add, zi_sub, zi_mul, ↓reduceIte, zb0, zb1, bb_and, bb_t, bb_f, zi_ltT, zi_ltF, zi_leT, zi_leF, zi_eqT, zi_eqF, zi_ixT, zi_nat, Int.toNat_natCast, Int.reduceToNat, ltNT, and_self, a1, areAlikeM hc w c s, hp, Bool.false_eq_true]
      · simp (disch := omega) only [lt_z, cI_s, cJ_s, cV_s, bI_s, bI_e, bV_s, bV_e, zl, zi_neg, zi_add, zi_sub, zi_mul, ↓reduceIte, zb0, zb1, bb_and, bb_t, bb_f, zi_ltT, zi_ltF, zi_leT, zi_leF, zi_eqT, zi_eqF, zi_ixT, zi_nat, Int.toNat_natCast, Int.reduceToNat, ltNT, and_self, a1, areAlikeM hc w c s, hp]) 0 FUEL (by omega) (FUEL_gt (by omega))
theorem rightM {M : PM} {C : Cal} {S : Sta} {x : Int} (hc : WFC C) (w : WFS C S) (c : CalM M C) (s : StaM M C S) (hx : x = 0 ∨ x = 1) : F_X11_right_99_34 FUEL M (zi x) (zi 0) (zi 0) = rI (zi (rgt C S x)) M := by
  have hH := hc.1.2.2.1
  have a1 := c.1.2.2.1
  exact loopU (cH C) (fun f i => F_X11_right_99_34 f M (zi x) (zi (alB C S i : Nat)) (zi (i : Nat))) _ (fun f => by
      have hl := alB_lt hc S (cH C)
      rw [F_X11_right_99_34]
      unfold rgt
      rcases hx with rfl | rfl <;> simp (disch := omega) only [lt_z, cI_s, cJ_s, cV_s, bI_s, bI_e, bV_s, bV_e, zl, zi_neg, zi_add, zi_sub, zi_mul, ↓reduceIte, zb0, zb1, bb_and, bb_t, bb_f, zi_ltT, zi_ltF, zi_leT, zi_leF, zi_eqT, zi_eqF, zi_ixT, zi_nat, Int.toNat_natCast, Int.reduceToNat, ltNT, and_self, a1, ones_s, Int.reduceEq]) (fun f i hi => by
      have hl := alB_lt hc S i
      rw [F_X11_right_99_34, zc (show ((i + 1 : Nat) : Int) = i + 1 by omega), alB]
      simp (disch := omega) only [lt_z, cI_s, cJ_s, cV_s, bI_s, bI_e, bV_s, bV_e, zl, zi_neg, zi_add, zi_sub, zi_mul, ↓reduceIte, zb0, zb1, bb_and, bb_t, bb_f, zi_ltT, zi_ltF, zi_leT, zi_leF, zi_eqT, zi_eqF, zi_ixT, zi_nat, Int.toNat_natCast, Int.reduceToNat, ltNT, and_self, a1]
      exact right50 hc w c s hi hl) 0 FUEL (by omega) (FUEL_gt (by omega))
theorem ok28 : OK_28 Rel := fun M a1 hR => by
  obtain ⟨z, rfl, hz⟩ := zi_rng a1
  have hR2 := hR
  obtain ⟨C, S, W, h1, h2, h3, h4, h5, h6, h7, h8, h9, h10, h11, h12⟩ := hR2
  unfold c_28 w_right
  by_cases h : z = 0 ∨ z = 1
  · refine okq1 (x := zi (rgt C S z)) (M1 := M) hR ?_ Sam0.rf (fun M' hs => ⟨sI M' 99 0 (zi 0), ?_, th0, Sam.th⟩)
    · unfold F_X10_right_0
      simp (disch := omega) only [lt_z, cI_s, cJ_s, cV_s, bI_s, bI_e, bV_s, bV_e, zl, zi_neg, zi_add, zi_sub, zi_mul, ↓reduceIte, zb0, zb1, bb_and, bb_t, bb_f, zi_ltT, zi_ltF, zi_leT, zi_leF, zi_eqT, zi_eqF, zi_ixT, zi_nat, Int.toNat_natCast, Int.reduceToNat, ltNT, and_self, needEither_t, rightC h1 h4 h2 h5 h]
    · have c : CalM (sI M' 99 0 (zi 0)) C := h3.sm (hs.tr Sam.th.1)
      have s : StaM (sI M' 99 0 (zi 0)) C S := h6.sm (hs.tr Sam.th.1)
      unfold F_X11_right_99 F_X11_right_99_20
      simp (disch := omega) only [lt_z, cI_s, cJ_s, cV_s, bI_s, bI_e, bV_s, bV_e, zl, zi_neg, zi_add, zi_sub, zi_mul, ↓reduceIte, zb0, zb1, bb_and, bb_t, bb_f, zi_ltT, zi_ltF, zi_leT, zi_leF, zi_eqT, zi_eqF, zi_ixT, zi_nat, Int.toNat_natCast, Int.reduceToNat, ltNT, and_self, in_t, bad_f th0, rightM h1 h4 c s h]
  · refine okr1 (y := zi 0) 2 hR (by decide) ?_ ?_
    · unfold F_X10_right_0
      simp (disch := omega) only [lt_z, cI_s, cJ_s, cV_s, bI_s, bI_e, bV_s, bV_e, zl, zi_neg, zi_add, zi_sub, zi_mul, ↓reduceIte, zb0, zb1, bb_and, bb_t, bb_f, zi_ltT, zi_ltF, zi_leT, zi_leF, zi_eqT, zi_eqF, zi_ixT, zi_nat, Int.toNat_natCast, Int.reduceToNat, ltNT, and_self, needEither_f]
    · unfold F_X11_right_99 F_X11_right_99_20
      simp (disch := omega) only [lt_z, cI_s, cJ_s, cV_s, bI_s, bI_e, bV_s, bV_e, zl, zi_neg, zi_add, zi_sub, zi_mul, ↓reduceIte, zb0, zb1, bb_and, bb_t, bb_f, zi_ltT, zi_ltF, zi_leT, zi_leF, zi_eqT, zi_eqF, zi_ixT, zi_nat, Int.toNat_natCast, Int.reduceToNat, ltNT, and_self, in_f, bad_t th0]
      rfl
