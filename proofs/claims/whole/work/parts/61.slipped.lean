/-! slipped -/
def noB (p : Nat → Bool) (n : Nat) : Bool := decide (fb_ct p n = 0)
theorem noB_t {p : Nat → Bool} {n : Nat} (h : ∀ k, k < n → p k = false) : noB p n = true := decide_eq_true (fb_ct_zero.mpr h)
theorem noB_f {p : Nat → Bool} {n k : Nat} (hk : k < n) (h : p k = true) : noB p n = false := decide_eq_false (fun e => by
  have := fb_ct_zero.mp e k hk
  rw [h] at this
  exact absurd this (by decide))
def setS (S : Sta) (h l s : Nat) : Sta := (fun a b => if a = h ∧ b = l then s else aS S a b, S.2)
theorem setS_wf {C : Cal} {S : Sta} {h l s : Nat} (w : WFS C S) (hl : l < cN C) (hs : s < cW C l) : WFS C (setS S h l s) := by
  refine ⟨fun a b ha hb2 => ?_, fun a b ha hb2 => ?_, w.2.2⟩
  · show (if a = h ∧ b = l then s else aS S a b) < cW C b
    split
    · rename_i e; rw [e.2]; omega
    · exact w.1 a b ha hb2
  · show (if a = h ∧ b = l then s else aS S a b) = 0
    rw [if_neg (by omega)]
    exact w.2.1 a b ha hb2
theorem setS_m {M : PM} {C : Cal} {S : Sta} {h l s : Nat} (m : StaM M C S) : StaM (sG M 115 h l (zi s)) C (setS S h l s) := by
  have eG : ∀ q j, q ≠ 115 → mG (sG M 115 h l (zi s)) q j = mG M q j := fun q j hq => rG_ne hq
  refine ⟨fun a b ha hb2 => ?_, m.2.1, fun i hi => by rw [eG 119 i (by decide)]; exact m.2.2.1 i hi, fun i hi => by rw [eG 120 i (by decide)]; exact m.2.2.2.1 i hi, fun i hi => by rw [eG 121 i (by decide)]; exact m.2.2.2.2 i hi⟩
  show (sG M 115 h l (zi s)).2.2.2.2 115 a b = zi ((if a = h ∧ b = l then s else aS S a b : Nat))
  by_cases e : a = h ∧ b = l
  · rw [if_pos e, e.1, e.2, rG_at]
  · rw [if_neg e]
    by_cases e2 : a = h
    · subst e2
      rw [rG_nk (fun e3 => e ⟨rfl, e3⟩)]
      exact m.1 a b ha hb2
    · rw [rG_nr e2]
      exact m.1 a b ha hb2
/-- a deed of house h that is otherwise than its wheels say -/
def exP (C : Cal) (S : Sta) (h i : Nat) : Bool := decide (dH S i = h) && !(decide (hb (cW C (dL S i)) (cD C (dL S i)) (tO C (dD S i) + aS S h (dL S i)) = dB S i))
def exF (C : Cal) (S : Sta) (h : Nat) : Bool := noB (exP C S h) (dN S)
theorem bb_eq (a b : Bool) : (bb a = bb b) = (a = b) := by cases a <;> cases b <;> decide
theorem explainsC {M : PM} {C : Cal} {S : Sta} {h l s : Nat} (hc : WFC C) (w : WFS C S) (c : CalC M C) (st : StaC M C S 16) (hh : h < cH C) (hl : l < cN C) (hs : s < cW C l) : F_X10_explains_0 M (zi h) (zi l) (zi s) = rI (bb (exF C (setS S h l s) h)) M := by
  have hn := hc.1.1
  have hH := hc.1.2.2.1
  have hd := w.2.2.1.2.1
  have hwl := hc.2.1 l hl
  have a1 := st.2.1.2.1
  unfold F_X10_explains_0 exF
  refine loopI (dN S) (fun f i => F_X10_explains_0_3 f M (zi h) (zi l) (zi s) (zi (i : Nat))) (fun o => o = rI (bb (noB (exP C (setS S h l s) h) (dN S))) M) (fun i => ∀ k, k < i → exP C (setS S h l s) h k = false) (fun f hI => ?_) (fun f i hi hI => ?_) 0 FUEL (by omega) (fun k hk => by omega) (FUEL_gt (by omega))
  · rw [F_X10_explains_0_3, noB_t hI]
    simp (disch := omega) only [lt_z, cI_s, cJ_s, cV_s, bI_s, bI_e, bV_s, bV_e, zl, zi_neg, zi_add, zi_sub, zi_mul, ↓reduceIte, zb0, zb1, bb_and, bb_t, bb_f, zi_ltT, zi_ltF, zi_leT, zi_leF, zi_eqT, zi_eqF, zi_ixT, zi_nat, Int.toNat_natCast, Int.reduceToNat, ltNT, and_self, a1]
  · show (F_X10_explains_0_3 (f + 1) M (zi h) (zi l) (zi s) (zi i) = _) ∨ (_ ∧ F_X10_explains_0_3 (f + 1) M (zi h) (zi l) (zi s) (zi i) = F_X10_explains_0_3 f M (zi h) (zi l) (zi s) (zi ((i + 1 : Nat))))
    rw [F_X10_explains_0_3, zc (show ((i + 1 : Nat) : Int) = i + 1 by omega)]
    obtain ⟨d1, d2, d3, d4⟩ := st.2.2.2.1 i hi
    obtain ⟨w1, w2, w3⟩ := w.2.2.2.2.1 i hi
    have t1 := tO_nn hc (d := (dD S i : Int)) (by omega)
    have go : exP C (setS S h l s) h i = false → ∀ k, k < i + 1 → exP C (setS S h l s) h k = false := fun e k hk => by
      by_cases q : k = i
      · rw [q]; exact e
      · exact hI k (by omega)
    by_cases e1 : dH S i = h
    · have key : ∀ a : Nat, a = (if dL S i = l then s else aS S h (dL S i)) → a < 100 → (F_X10_explains_0_61 (F_X10_explains_0_3 f) M (zi h) (zi l) (zi s) (zi i) (zi (dL S i)) (zi a) = rI (bb (noB (exP C (setS S h l s) h) (dN S))) M) ∨ ((∀ k, k < i + 1 → exP C (setS S h l s) h k = false) ∧ F_X10_explains_0_61 (F_X10_explains_0_3 f) M (zi h) (zi l) (zi s) (zi i) (zi (dL S i)) (zi a) = F_X10_explains_0_3 f M (zi h) (zi l) (zi s) (zi (i + 1))) := by
        intro a ha ha2
        have ee : exP C (setS S h l s) h i = !(decide (hb (cW C (dL S i)) (cD C (dL S i)) (tO C (dD S i) + a) = dB S i)) := by
          show (decide (dH S i = h) && !(decide (hb (cW C (dL S i)) (cD C (dL S i)) (tO C (dD S i) + ((if h = h ∧ dL S i = l then s else aS S h (dL S i) : Nat) : Int)) = dB S i))) = _
          rw [decide_eq_true e1, Bool.true_and, ha]
          by_cases q : dL S i = l
          · rw [if_pos ⟨rfl, q⟩, if_pos q]
          · rw [if_neg (fun x => q x.2), if_neg q]
        have hH2 := isHeld_s c.1.1 hn c.1.2.1 c.1.2.2.1 hc.2.1 w2 (t := tO C (dD S i) + a) (by omega)
        unfold F_X10_explains_0_61 F_X10_explains_0_103
        by_cases q : hb (cW C (dL S i)) (cD C (dL S i)) (tO C (dD S i) + a) = dB S i
        · right
          rw [decide_eq_true q] at ee
          refine ⟨go ee, ?_⟩
          rw [q] at hH2
          simp (disch := omega) only [lt_z, cI_s, cJ_s, cV_s, bI_s, bI_e, bV_s, bV_e, zl, zi_neg, zi_add, zi_sub, zi_mul, ↓reduceIte, zb0, zb1, bb_and, bb_t, bb_f, zi_ltT, zi_ltF, zi_leT, zi_leF, zi_eqT, zi_eqF, zi_ixT, zi_nat, Int.toNat_natCast, Int.reduceToNat, ltNT, and_self, d3, d4, hH2]
        · left
          rw [decide_eq_false q] at ee
          rw [noB_f hi ee]
          simp (disch := omega) only [lt_z, cI_s, cJ_s, cV_s, bI_s, bI_e, bV_s, bV_e, zl, zi_neg, zi_add, zi_sub, zi_mul, ↓reduceIte, zb0, zb1, bb_and, bb_t, bb_f, zi_ltT, zi_ltF, zi_leT, zi_leF, zi_eqT, zi_eqF, zi_ixT, zi_nat, Int.toNat_natCast, Int.reduceToNat, ltNT, and_self, d3, d4, hH2, bb_eq, q]
      by_cases e2 : dL S i = l
      · have := key s (by rw [if_pos e2]) (by omega)
        simp (disch := omega) only [lt_z, cI_s, cJ_s, cV_s, bI_s, bI_e, bV_s, bV_e, zl, zi_neg, zi_add, zi_sub, zi_mul, ↓reduceIte, zb0, zb1, bb_and, bb_t, bb_f, zi_ltT, zi_ltF, zi_leT, zi_leF, zi_eqT, zi_eqF, zi_ixT, zi_nat, Int.toNat_natCast, Int.reduceToNat, ltNT, and_self, a1, d1, d2]
        exact this
      · have := key (aS S h (dL S i)) (by rw [if_neg e2]) (by have := w.1 h _ hh w2; have := hc.2.1 _ w2; omega)
        simp (disch := omega) only [lt_z, cI_s, cJ_s, cV_s, bI_s, bI_e, bV_s, bV_e, zl, zi_neg, zi_add, zi_sub, zi_mul, ↓reduceIte, zb0, zb1, bb_and, bb_t, bb_f, zi_ltT, zi_ltF, zi_leT, zi_leF, zi_eqT, zi_eqF, zi_ixT, zi_nat, Int.toNat_natCast, Int.reduceToNat, ltNT, and_self, a1, d1, d2, aheadOf_t st.1 hH]
        exact this
    · right
      refine ⟨go (by unfold exP; rw [show dH (setS S h l s) i = dH S i from rfl, decide_eq_false e1, Bool.false_and]), ?_⟩
      unfold F_X10_explains_0_103
      simp (disch := omega) only [lt_z, cI_s, cJ_s, cV_s, bI_s, bI_e, bV_s, bV_e, zl, zi_neg, zi_add, zi_sub, zi_mul, ↓reduceIte, zb0, zb1, bb_and, bb_t, bb_f, zi_ltT, zi_ltF, zi_leT, zi_leF, zi_eqT, zi_eqF, zi_ixT, zi_nat, Int.toNat_natCast, Int.reduceToNat, ltNT, and_self, a1, d1]
theorem explainsM {M : PM} {C : Cal} {S : Sta} {h : Nat} (hc : WFC C) (w : WFS C S) (c : CalM M C) (st : StaM M C S) (hh : h < cH C) : F_X11_explains_99 M (zi h) = rI (bb (exF C S h)) M := by
  have hn := hc.1.1
  have hH := hc.1.2.2.1
  have hd := w.2.2.1.2.1
  have a1 := st.2.1.2.1
  unfold F_X11_explains_99 exF
  refine loopI (dN S) (fun f i => F_X11_explains_99_2 f M (zi h) (zi (i : Nat))) (fun o => o = rI (bb (noB (exP C S h) (dN S))) M) (fun i => ∀ k, k < i → exP C S h k = false) (fun f hI => ?_) (fun f i hi hI => ?_) 0 FUEL (by omega) (fun k hk => by omega) (FUEL_gt (by omega))
  · rw [F_X11_explains_99_2, noB_t hI]
    simp (disch := omega) only [lt_z, cI_s, cJ_s, cV_s, bI_s, bI_e, bV_s, bV_e, zl, zi_neg, zi_add, zi_sub, zi_mul, ↓reduceIte, zb0, zb1, bb_and, bb_t, bb_f, zi_ltT, zi_ltF, zi_leT, zi_leF, zi_eqT, zi_eqF, zi_ixT, zi_nat, Int.toNat_natCast, Int.reduceToNat, ltNT, and_self, a1]
  · show (F_X11_explains_99_2 (f + 1) M (zi h) (zi i) = _) ∨ (_ ∧ F_X11_explains_99_2 (f + 1) M (zi h) (zi i) = F_X11_explains_99_2 f M (zi h) (zi ((i + 1 : Nat))))
    rw [F_X11_explains_99_2, zc (show ((i + 1 : Nat) : Int) = i + 1 by omega)]
    unfold F_X11_explains_99_64 F_X11_explains_99_69
    obtain ⟨d1, d2, d3, d4⟩ := st.2.2.2.1 i hi
    obtain ⟨w1, w2, w3⟩ := w.2.2.2.2.1 i hi
    have t1 := tO_nn hc (d := (dD S i : Int)) (by omega)
    have t2 := turnedOn_s hc c.1.2.2.2.1 c.2.2.2.2.2 (d := (dD S i : Int)) (by omega)
    have t3 := inHouseAt_s hc w c st hh w2 (t := tO C (dD S i)) (by omega)
    have go : exP C S h i = false → ∀ k, k < i + 1 → exP C S h k = false := fun e k hk => by
      by_cases q : k = i
      · rw [q]; exact e
      · exact hI k (by omega)
    by_cases e1 : dH S i = h
    · have ee : exP C S h i = !(decide (hb (cW C (dL S i)) (cD C (dL S i)) (tO C (dD S i) + aS S h (dL S i)) = dB S i)) := by
        unfold exP
        rw [decide_eq_true e1, Bool.true_and]
      generalize hb (cW C (dL S i)) (cD C (dL S i)) (tO C (dD S i) + aS S h (dL S i)) = v at ee t3
      cases hv : v <;> cases hq : dB S i <;> rw [hv] at ee t3 <;> rw [hq] at ee d4
      · right
        refine ⟨go ee, ?_⟩
        simp (disch := omega) only [lt_z, cI_s, cJ_s, cV_s, bI_s, bI_e, bV_s, bV_e, zl, zi_neg, zi_add, zi_sub, zi_mul, ↓reduceIte, zb0, zb1, bb_and, bb_t, bb_f, zi_ltT, zi_ltF, zi_leT, zi_leF, zi_eqT, zi_eqF, zi_ixT, zi_nat, Int.toNat_natCast, Int.reduceToNat, ltNT, and_self, a1, d1, d2, d3, d4, t2, t3]
      · left
        rw [noB_f hi ee]
        simp (disch := omega) only [lt_z, cI_s, cJ_s, cV_s, bI_s, bI_e, bV_s, bV_e, zl, zi_neg, zi_add, zi_sub, zi_mul, ↓reduceIte, zb0, zb1, bb_and, bb_t, bb_f, zi_ltT, zi_ltF, zi_leT, zi_leF, zi_eqT, zi_eqF, zi_ixT, zi_nat, Int.toNat_natCast, Int.reduceToNat, ltNT, and_self, a1, d1, d2, d3, d4, t2, t3]
      · left
        rw [noB_f hi ee]
        simp (disch := omega) only [lt_z, cI_s, cJ_s, cV_s, bI_s, bI_e, bV_s, bV_e, zl, zi_neg, zi_add, zi_sub, zi_mul, ↓reduceIte, zb0, zb1, bb_and, bb_t, bb_f, zi_ltT, zi_ltF, zi_leT, zi_leF, zi_eqT, zi_eqF, zi_ixT, zi_nat, Int.toNat_natCast, Int.reduceToNat, ltNT, and_self, a1, d1, d2, d3, d4, t2, t3]
      · right
        refine ⟨go ee, ?_⟩
        simp (disch := omega) only [lt_z, cI_s, cJ_s, cV_s, bI_s, bI_e, bV_s, bV_e, zl, zi_neg, zi_add, zi_sub, zi_mul, ↓reduceIte, zb0, zb1, bb_and, bb_t, bb_f, zi_ltT, zi_ltF, zi_leT, zi_leF, zi_eqT, zi_eqF, zi_ixT, zi_nat, Int.toNat_natCast, Int.reduceToNat, ltNT, and_self, a1, d1, d2, d3, d4, t2, t3]
    · right
      refine ⟨go (by unfold exP; rw [decide_eq_false e1, Bool.false_and]), ?_⟩
      simp (disch := omega) only [lt_z, cI_s, cJ_s, cV_s, bI_s, bI_e, bV_s, bV_e, zl, zi_neg, zi_add, zi_sub, zi_mul, ↓reduceIte, zb0, zb1, bb_and, bb_t, bb_f, zi_ltT, zi_ltF, zi_leT, zi_leF, zi_eqT, zi_eqF, zi_ixT, zi_nat, Int.toNat_natCast, Int.reduceToNat, ltNT, and_self, a1, d1]
/-- how many explanations, the first, the likeliest, its weight -/
def wgh (w s : Nat) : Int := 24 - (if (w : Int) - s < s then (w : Int) - s else s)
def stp (l s w : Nat) (a : Int × Int × Int × Int) : Int × Int × Int × Int := (a.1 + 1, if a.2.1 = -1 then 100 * (l : Int) + s else a.2.1, if wgh w s ≤ a.2.2.2 then a.2.2.1 else 100 * (l : Int) + s, if wgh w s ≤ a.2.2.2 then a.2.2.2 else wgh w s)
def slI (C : Cal) (S : Sta) (h l : Nat) : Nat → Int × Int × Int × Int → Int × Int × Int × Int
  | 0, a => a
  | s + 1, a => if exF C (setS S h l s) h = true then stp l s (cW C l) (slI C S h l s a) else slI C S h l s a
def slO (C : Cal) (S : Sta) (h : Nat) : Nat → Int × Int × Int × Int
  | 0 => (0, -1, -1, 0)
  | l + 1 => slI C S h l (cW C l) (slO C S h l)
def tok (a : Int × Int × Int × Int) : Prop := (-1 ≤ a.2.1 ∧ a.2.1 < 3000) ∧ 0 ≤ a.2.2.2 ∧ a.2.2.2 ≤ 24
theorem slI_ok {C : Cal} {S : Sta} {h l : Nat} {a : Int × Int × Int × Int} (hc : WFC C) (hl : l < cN C) (ha : tok a) : ∀ s, s ≤ cW C l → tok (slI C S h l s a)
  | 0, _ => ha
  | s + 1, hs => by
    have ih := slI_ok (S := S) (h := h) hc hl ha s (by omega)
    have hw := hc.2.1 l hl
    have hn := hc.1.1
    rw [slI]
    split
    · unfold tok stp wgh at *
      simp only
      refine ⟨?_, ?_⟩
      · split <;> omega
      · split <;> (try split) <;> omega
    · exact ih
theorem slO_ok {C : Cal} {S : Sta} {h : Nat} (hc : WFC C) : ∀ l, l ≤ cN C → tok (slO C S h l)
  | 0, _ => by unfold tok slO; simp only; omega
  | l + 1, hl => slI_ok hc (by omega) (slO_ok hc l (by omega)) _ (Nat.le_refl _)
