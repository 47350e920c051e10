theorem slipC69 {M : PM} {C : Cal} {S : Sta} {h l : Nat} {x : Int} {a : Int × Int × Int × Int} {k : PM → Int32 → Int32 → Int32 → Int32 → Int32 → Int32 → Int32 → Option PR} (hc : WFC C) (w : WFS C S) (c : CalC M C) (st : StaC M C S 16) (hh : h < cH C) (hl : l < cN C) (ha : tok a) : F_X10_slipped_0_69 k FUEL M (zi h) (zi x) (zi a.1) (zi a.2.1) (zi a.2.2.1) (zi a.2.2.2) (zi l) (zi (cW C l)) (zi 0) = k M (zi h) (zi x) (zi (slI C S h l (cW C l) a).1) (zi (slI C S h l (cW C l) a).2.1) (zi (slI C S h l (cW C l) a).2.2.1) (zi (slI C S h l (cW C l) a).2.2.2) (zi (l + 1)) := by
  have hw := hc.2.1 l hl
  have hn := hc.1.1
  exact loopU (cW C l) (fun f s => F_X10_slipped_0_69 k f M (zi h) (zi x) (zi (slI C S h l s a).1) (zi (slI C S h l s a).2.1) (zi (slI C S h l s a).2.2.1) (zi (slI C S h l s a).2.2.2) (zi l) (zi (cW C l)) (zi (s : Nat))) _ (fun f => by
      rw [F_X10_slipped_0_69]
      simp (disch := omega) only [lt_z, cI_s, cJ_s, cV_s, bI_s, bI_e, bV_s, bV_e, zl, zi_neg, zi_add, zi_sub, zi_mul, ↓reduceIte, zb0, zb1, bb_and, bb_t, bb_f, zi_ltT, zi_ltF, zi_leT, zi_leF, zi_eqT, zi_eqF, zi_ixT, zi_nat, Int.toNat_natCast, Int.reduceToNat, ltNT, and_self]) (fun f s hs => by
      have hk := slI_ok (S := S) (h := h) hc hl ha s (by omega)
      have he := explainsC hc w c st hh hl hs
      have hg : wgh (cW C l) s = 24 - (if (cW C l : Int) - s < s then (cW C l : Int) - s else s) := rfl
      rw [F_X10_slipped_0_69, he, cI_s, zc (show ((s + 1 : Nat) : Int) = s + 1 by omega), slI]
      unfold tok at hk
      cases exF C (setS S h l s) h
      · rw [if_neg (by decide : ¬ false = true)]
        unfold F_X10_slipped_0_158
        simp (disch := omega) only [lt_z, cI_s, cJ_s, cV_s, bI_s, bI_e, bV_s, bV_e, zl, zi_neg, zi_add, zi_sub, zi_mul, ↓reduceIte, zb0, zb1, bb_and, bb_t, bb_f, zi_ltT, zi_ltF, zi_leT, zi_leF, zi_eqT, zi_eqF, zi_ixT, zi_nat, Int.toNat_natCast, Int.reduceToNat, ltNT, and_self]
      · rw [if_pos rfl]
        unfold stp
        generalize slI C S h l s a = b at *
        obtain ⟨b1, b2, b3, b4⟩ := b
        simp only at hk ⊢
        unfold F_X10_slipped_0_110 F_X10_slipped_0_147 F_X10_slipped_0_158 F_J9_min_7cf53 F_J9_max_7cf53
        by_cases q1 : (cW C l : Int) - s < s
        · rw [if_pos q1] at hg
          by_cases q2 : wgh (cW C l) s ≤ b4
          · rw [if_pos q2, if_pos q2]
            rw [hg] at q2
            by_cases q3 : b2 = -1
            · rw [if_pos q3]; simp (disch := omega) only [lt_z, cI_s, cJ_s, cV_s, bI_s, bI_e, bV_s, bV_e, zl, zi_neg, zi_add, zi_sub, zi_mul, ↓reduceIte, zb0, zb1, bb_and, bb_t, bb_f, zi_ltT, zi_ltF, zi_leT, zi_leF, zi_eqT, zi_eqF, zi_ixT, zi_nat, Int.toNat_natCast, Int.reduceToNat, ltNT, and_self]
            · rw [if_neg q3]; simp (disch := omega) only [lt_z, cI_s, cJ_s, cV_s, bI_s, bI_e, bV_s, bV_e, zl, zi_neg, zi_add, zi_sub, zi_mul, ↓reduceIte, zb0, zb1, bb_and, bb_t, bb_f, zi_ltT, zi_ltF, zi_leT, zi_leF, zi_eqT, zi_eqF, zi_ixT, zi_nat, Int.toNat_natCast, Int.reduceToNat, ltNT, and_self]
          · rw [if_neg q2, if_neg q2, hg]
            rw [hg] at q2
            by_cases q3 : b2 = -1
            · rw [if_pos q3]; simp (disch := omega) only [lt_z, cI_s, cJ_s, cV_s, bI_s, bI_e, bV_s, bV_e, zl, zi_neg, zi_add, zi_sub, zi_mul, ↓reduceIte, zb0, zb1, bb_and, bb_t, bb_f, zi_ltT, zi_ltF, zi_leT, zi_leF, zi_eqT, zi_eqF, zi_ixT, zi_nat, Int.toNat_natCast, Int.reduceToNat, ltNT, and_self]
            · rw [if_neg q3]; simp (disch := omega) only [lt_z, cI_s, cJ_s, cV_s, bI_s, bI_e, bV_s, bV_e, zl, zi_neg, zi_add, zi_sub, zi_mul, ↓reduceIte, zb0, zb1, bb_and, bb_t, bb_f, zi_ltT, zi_ltF, zi_leT, zi_leF, zi_eqT, zi_eqF, zi_ixT, zi_nat, Int.toNat_natCast, Int.reduceToNat, ltNT, and_self]
        · rw [if_neg q1] at hg
          by_cases q2 : wgh (cW C l) s ≤ b4
          · rw [if_pos q2, if_pos q2]
            rw [hg] at q2
            by_cases q3 : b2 = -1
            · rw [if_pos q3]; simp (disch := omega) only [lt_z, cI_s, cJ_s, cV_s, bI_s, bI_e, bV_s, bV_e, zl, zi_neg, zi_add, zi_sub, zi_mul, ↓reduceIte, zb0, zb1, bb_and, bb_t, bb_f, zi_ltT, zi_ltF, zi_leT, zi_leF, zi_eqT, zi_eqF, zi_ixT, zi_nat, Int.toNat_natCast, Int.reduceToNat, ltNT, and_self]
            · rw [if_neg q3]; simp (disch := omega) only [lt_z, cI_s, cJ_s, cV_s, bI_s, bI_e, bV_s, bV_e, zl, zi_neg, zi_add, zi_sub, zi_mul, ↓reduceIte, zb0, zb1, bb_and, bb_t, bb_f, zi_ltT, zi_ltF, zi_leT, zi_leF, zi_eqT, zi_eqF, zi_ixT, zi_nat, Int.toNat_natCast, Int.reduceToNat, ltNT, and_self]
          · rw [if_neg q2, if_neg q2, hg]
            rw [hg] at q2
            by_cases q3 : b2 = -1
            · rw [if_pos q3]; simp (disch := omega) only [lt_z, cI_s, cJ_s, cV_s, bI_s, bI_e, bV_s, bV_e, zl, zi_neg, zi_add, zi_sub, zi_mul, ↓reduceIte, zb0, zb1, bb_and, bb_t, bb_f, zi_ltT, zi_ltF, zi_leT, zi_leF, zi_eqT, zi_eqF, zi_ixT, zi_nat, Int.toNat_natCast, Int.reduceToNat, ltNT, and_self]
            · rw [if_neg q3]; simp (disch := omega) only [lt_z, cI_s, cJ_s, cV_s, bI_s, bI_e, bV_s, bV_e, zl, zi_neg, zi_add, zi_sub, zi_mul, ↓reduceIte, zb0, zb1, bb_and, bb_t, bb_f, zi_ltT, zi_ltF, zi_leT, zi_leF, zi_eqT, zi_eqF, zi_ixT, zi_nat, Int.toNat_natCast, Int.reduceToNat, ltNT, and_self]) 0 FUEL (by omega) (FUEL_gt (by omega))
def slV (C : Cal) (S : Sta) (h : Nat) (x : Int) : Int := if x = 0 then (slO C S h (cN C)).1 else if x = 1 then (slO C S h (cN C)).2.1 else (slO C S h (cN C)).2.2.1
theorem slipC37 {M : PM} {C : Cal} {S : Sta} {h : Nat} {x : Int} (hc : WFC C) (w : WFS C S) (c : CalC M C) (st : StaC M C S 16) (hh : h < cH C) (hx : x = 0 ∨ x = 1 ∨ x = 2) : F_X10_slipped_0_37 FUEL M (zi h) (zi x) (zi 0) (zi (-1)) (zi (-1)) (zi 0) (zi 0) = rI (zi (slV C S h x)) M := by
  have hn := hc.1.1
  exact loopU (cN C) (fun f l => F_X10_slipped_0_37 f M (zi h) (zi x) (zi (slO C S h l).1) (zi (slO C S h l).2.1) (zi (slO C S h l).2.2.1) (zi (slO C S h l).2.2.2) (zi (l : Nat))) _ (fun f => by
      rw [F_X10_slipped_0_37]
      unfold slV
      rcases hx with rfl | rfl | rfl <;> simp (disch := omega) only [lt_z, cI_s, cJ_s, cV_s, bI_s, bI_e, bV_s, bV_e, zl, zi_neg, zi_add, zi_sub, zi_mul, ↓reduceIte, zb0, zb1, bb_and, bb_t, bb_f, zi_ltT, zi_ltF, zi_leT, zi_leF, zi_eqT, zi_eqF, zi_ixT, zi_nat, Int.toNat_natCast, Int.reduceToNat, ltNT, and_self, c.1.1, Int.reduceEq]) (fun f l hl => by
      rw [F_X10_slipped_0_37, zc (show ((l + 1 : Nat) : Int) = l + 1 by omega), weekOf_t c.1.1 hn c.1.2.1 hl, cI_s, slO, if_neg (by rw [c.1.1, zi_le (by omega) (by omega)]; omega)]
      exact slipC69 hc w c st hh hl (slO_ok hc l (by omega))) 0 FUEL (by omega) (FUEL_gt (by omega))
theorem sG_twice {M : PM} {g i k : Nat} {x y : Int32} : sG (sG M g i k x) g i k y = sG M g i k y := by
  refine Prod.ext rfl (Prod.ext rfl (Prod.ext rfl (Prod.ext rfl ?_)))
  funext a b
  funext e
  rw [rG_sG, rG_sG, rG_sG, rG_sG]
  by_cases q1 : b = i
  · by_cases q2 : a = g
    · by_cases q3 : e = k
      · simp [q1, q2, q3]
      · simp [q1, q2, q3]
    · simp [q1, q2]
  · simp [q1]
theorem sG_same {M : PM} {g i k : Nat} {x : Int32} (h : mG M g i k = x) : sG M g i k x = M := by
  refine Prod.ext rfl (Prod.ext rfl (Prod.ext rfl (Prod.ext rfl ?_)))
  funext a b
  funext e
  rw [rG_sG]
  by_cases q1 : b = i
  · by_cases q2 : a = g
    · by_cases q3 : e = k
      · simp only [q1, q2, q3, if_true]; exact h.symm
      · simp [q1, q2, q3]
    · simp [q1, q2]
  · simp [q1]
theorem slipM91 {M : PM} {C : Cal} {S : Sta} {h l : Nat} {x : Int} {a : Int × Int × Int × Int} {k : PM → Int32 → Int32 → Int32 → Int32 → Int32 → Int32 → Int32 → Option PR} (hc : WFC C) (w : WFS C S) (c : CalM M C) (st : StaM M C S) (hh : h < cH C) (hl : l < cN C) (ha : tok a) : F_X11_slipped_99_91 k FUEL M (zi h) (zi x) (zi a.1) (zi a.2.1) (zi a.2.2.1) (zi a.2.2.2) (zi l) (zi (aS S h l)) (zi 0) = k M (zi h) (zi x) (zi (slI C S h l (cW C l) a).1) (zi (slI C S h l (cW C l) a).2.1) (zi (slI C S h l (cW C l) a).2.2.1) (zi (slI C S h l (cW C l) a).2.2.2) (zi (l + 1)) := by
  have hw := hc.2.1 l hl
  have hn := hc.1.1
  have hH := hc.1.2.2.1
  have hsame := sG_same (st.1 h l hh (by omega))
  have h := loopU (cW C l) (fun f s => F_X11_slipped_99_91 k f (sG M 115 h l (zi ((if s = 0 then aS S h l else s - 1 : Nat)))) (zi h) (zi x) (zi (slI C S h l s a).1) (zi (slI C S h l s a).2.1) (zi (slI C S h l s a).2.2.1) (zi (slI C S h l s a).2.2.2) (zi l) (zi (aS S h l)) (zi (s : Nat))) (k M (zi h) (zi x) (zi (slI C S h l (cW C l) a).1) (zi (slI C S h l (cW C l) a).2.1) (zi (slI C S h l (cW C l) a).2.2.1) (zi (slI C S h l (cW C l) a).2.2.2) (zi (l + 1))) (fun f => by
      generalize hv : (if cW C l = 0 then aS S h l else cW C l - 1 : Nat) = v
      have a2 : mA (sG M 115 h l (zi v)) 107 l = zi (cW C l) := c.2.1 l hl
      rw [F_X11_slipped_99_91]
      simp (disch := omega) only [lt_z, cI_s, cJ_s, cV_s, bI_s, bI_e, bV_s, bV_e, zl, zi_neg, zi_add, zi_sub, zi_mul, ↓reduceIte, zb0, zb1, bb_and, bb_t, bb_f, zi_ltT, zi_ltF, zi_leT, zi_leF, zi_eqT, zi_eqF, zi_ixT, zi_nat, Int.toNat_natCast, Int.reduceToNat, ltNT, and_self, a2, sG_twice, hsame]) (fun f s hs => by
      have hk := slI_ok (S := S) (h := h) hc hl ha s (by omega)
      generalize (if s = 0 then aS S h l else s - 1 : Nat) = v
      have a2 : mA (sG M 115 h l (zi v)) 107 l = zi (cW C l) := c.2.1 l hl
      have a3 : mA (sG M 115 h l (zi s)) 107 l = zi (cW C l) := c.2.1 l hl
      have he := explainsM hc (setS_wf (h := h) w hl hs) (show CalM (sG M 115 h l (zi s)) C from c) (setS_m (h := h) (l := l) (s := s) st) hh
      have hg : wgh (cW C l) s = 24 - (if (cW C l : Int) - s < s then (cW C l : Int) - s else s) := rfl
      rw [if_neg (by omega : ¬ s + 1 = 0), Nat.add_sub_cancel, F_X11_slipped_99_91, zc (show ((s + 1 : Nat) : Int) = s + 1 by omega), slI]
      unfold tok at hk
      cases hx : exF C (setS S h l s) h
      · rw [hx] at he
        rw [if_neg (by decide : ¬ false = true)]
        unfold F_X11_slipped_99_222
        simp (disch := omega) only [lt_z, cI_s, cJ_s, cV_s, bI_s, bI_e, bV_s, bV_e, zl, zi_neg, zi_add, zi_sub, zi_mul, ↓reduceIte, zb0, zb1, bb_and, bb_t, bb_f, zi_ltT, zi_ltF, zi_leT, zi_leF, zi_eqT, zi_eqF, zi_ixT, zi_nat, Int.toNat_natCast, Int.reduceToNat, ltNT, and_self, a2, sG_twice, he]
      · rw [hx] at he
        rw [if_pos rfl]
        unfold stp
        generalize slI C S h l s a = b at *
        obtain ⟨b1, b2, b3, b4⟩ := b
        simp only at hk ⊢
        by_cases q1 : (cW C l : Int) - s ≤ s
        · have hg2 : wgh (cW C l) s = 24 - ((cW C l : Int) - s) := by rw [hg]; split <;> omega
          simp (disch := omega) only [lt_z, cI_s, cJ_s, cV_s, bI_s, bI_e, bV_s, bV_e, zl, zi_neg, zi_add, zi_sub, zi_mul, ↓reduceIte, zb0, zb1, bb_and, bb_t, bb_f, zi_ltT, zi_ltF, zi_leT, zi_leF, zi_eqT, zi_eqF, zi_ixT, zi_nat, Int.toNat_natCast, Int.reduceToNat, ltNT, and_self, a2, sG_twice, he, a3]
          unfold F_X11_slipped_99_157 F_X11_slipped_99_182 F_X11_slipped_99_204 F_X11_slipped_99_220 F_X11_slipped_99_222
          by_cases q2 : wgh (cW C l) s ≤ b4
          · rw [if_pos q2, if_pos q2]
            rw [hg2] at q2
            by_cases q3 : b2 = -1
            · rw [if_pos q3]; simp (disch := omega) only [lt_z, cI_s, cJ_s, cV_s, bI_s, bI_e, bV_s, bV_e, zl, zi_neg, zi_add, zi_sub, zi_mul, ↓reduceIte, zb0, zb1, bb_and, bb_t, bb_f, zi_ltT, zi_ltF, zi_leT, zi_leF, zi_eqT, zi_eqF, zi_ixT, zi_nat, Int.toNat_natCast, Int.reduceToNat, ltNT, and_self]
            · rw [if_neg q3]; simp (disch := omega) only [lt_z, cI_s, cJ_s, cV_s, bI_s, bI_e, bV_s, bV_e, zl, zi_neg, zi_add, zi_sub, zi_mul, ↓reduceIte, zb0, zb1, bb_and, bb_t, bb_f, zi_ltT, zi_ltF, zi_leT, zi_leF, zi_eqT, zi_eqF, zi_ixT, zi_nat, Int.toNat_natCast, Int.reduceToNat, ltNT, and_self]
          · rw [if_neg q2, if_neg q2, hg2]
            rw [hg2] at q2
            by_cases q3 : b2 = -1
            · rw [if_pos q3]; simp (disch := omega) only [lt_z, cI_s, cJ_s, cV_s, bI_s, bI_e, bV_s, bV_e, zl, zi_neg, zi_add, zi_sub, zi_mul, ↓reduceIte, zb0, zb1, bb_and, bb_t, bb_f, zi_ltT, zi_ltF, zi_leT, zi_leF, zi_eqT, zi_eqF, zi_ixT, zi_nat, Int.toNat_natCast, Int.reduceToNat, ltNT, and_self]
            · rw [if_neg q3]; simp (disch := omega) only [lt_z, cI_s, cJ_s, cV_s, bI_s, bI_e, bV_s, bV_e, zl, zi_neg, zi_add, zi_sub, zi_mul, ↓reduceIte, zb0, zb1, bb_and, bb_t, bb_f, zi_ltT, zi_ltF, zi_leT, zi_leF, zi_eqT, zi_eqF, zi_ixT, zi_nat, Int.toNat_natCast, Int.reduceToNat, ltNT, and_self]
        · have hg2 : wgh (cW C l) s = 24 - (s : Int) := by rw [hg]; split <;> omega
          simp (disch := omega) only [lt_z, cI_s, cJ_s, cV_s, bI_s, bI_e, bV_s, bV_e, zl, zi_neg, zi_add, zi_sub, zi_mul, ↓reduceIte, zb0, zb1, bb_and, bb_t, bb_f, zi_ltT, zi_ltF, zi_leT, zi_leF, zi_eqT, zi_eqF, zi_ixT, zi_nat, Int.toNat_natCast, Int.reduceToNat, ltNT, and_self, a2, sG_twice, he, a3]
          unfold F_X11_slipped_99_157 F_X11_slipped_99_182 F_X11_slipped_99_204 F_X11_slipped_99_220 F_X11_slipped_99_222
          by_cases q2 : wgh (cW C l) s ≤ b4
          · rw [if_pos q2, if_pos q2]
            rw [hg2] at q2
            by_cases q3 : b2 = -1
            · rw [if_pos q3]; simp (disch := omega) only [lt_z, cI_s, cJ_s, cV_s, bI_s, bI_e, bV_s, bV_e, zl, zi_neg, zi_add, zi_sub, zi_mul, ↓reduceIte, zb0, zb1, bb_and, bb_t, bb_f, zi_ltT, zi_ltF, zi_leT, zi_leF, zi_eqT, zi_eqF, zi_ixT, zi_nat, Int.toNat_natCast, Int.reduceToNat, ltNT, and_self]
            · rw [if_neg q3]; simp (disch := omega) only [lt_z, cI_s, cJ_s, cV_s, bI_s, bI_e, bV_s, bV_e, zl, zi_neg, zi_add, zi_sub, zi_mul, ↓reduceIte, zb0, zb1, bb_and, bb_t, bb_f, zi_ltT, zi_ltF, zi_leT, zi_leF, zi_eqT, zi_eqF, zi_ixT, zi_nat, Int.toNat_natCast, Int.reduceToNat, ltNT, and_self]
          · rw [if_neg q2, if_neg q2, hg2]
            rw [hg2] at q2
            by_cases q3 : b2 = -1
            · rw [if_pos q3]; simp (disch := omega) only [lt_z, cI_s, cJ_s, cV_s, bI_s, bI_e, bV_s, bV_e, zl, zi_neg, zi_add, zi_sub, zi_mul, ↓reduceIte, zb0, zb1, bb_and, bb_t, bb_f, zi_ltT, zi_ltF, zi_leT, zi_leF, zi_eqT, zi_eqF, zi_ixT, zi_nat, Int.toNat_natCast, Int.reduceToNat, ltNT, and_self]
            · rw [if_neg q3]; simp (disch := omega) only [lt_z, cI_s, cJ_s, cV_s, bI_s, bI_e, bV_s, bV_e, zl, zi_neg, zi_add, zi_sub, zi_mul, ↓reduceIte, zb0, zb1, bb_and, bb_t, bb_f, zi_ltT, zi_ltF, zi_leT, zi_leF, zi_eqT, zi_eqF, zi_ixT, zi_nat, Int.toNat_natCast, Int.reduceToNat, ltNT, and_self]) 0 FUEL (by omega) (FUEL_gt (by omega))
  simp only [if_true] at h
  rw [hsame] at h
  exact h
theorem slipM66 {M : PM} {C : Cal} {S : Sta} {h : Nat} {x : Int} (hc : WFC C) (w : WFS C S) (c : CalM M C) (st : StaM M C S) (hh : h < cH C) (hx : x = 0 ∨ x = 1 ∨ x = 2) : F_X11_slipped_99_66 FUEL M (zi h) (zi x) (zi 0) (zi (-1)) (zi (-1)) (zi 0) (zi 0) = rI (zi (slV C S h x)) M := by
  have hn := hc.1.1
  have hH := hc.1.2.2.1
  exact loopU (cN C) (fun f l => F_X11_slipped_99_66 f M (zi h) (zi x) (zi (slO C S h l).1) (zi (slO C S h l).2.1) (zi (slO C S h l).2.2.1) (zi (slO C S h l).2.2.2) (zi (l : Nat))) _ (fun f => by
      rw [F_X11_slipped_99_66]
      unfold slV
      rcases hx with rfl | rfl | rfl <;> simp (disch := omega) only [lt_z, cI_s, cJ_s, cV_s, bI_s, bI_e, bV_s, bV_e, zl, zi_neg, zi_add, zi_sub, zi_mul, ↓reduceIte, zb0, zb1, bb_and, bb_t, bb_f, zi_ltT, zi_ltF, zi_leT, zi_leF, zi_eqT, zi_eqF, zi_ixT, zi_nat, Int.toNat_natCast, Int.reduceToNat, ltNT, and_self, c.1.1, Int.reduceEq]) (fun f l hl => by
      rw [F_X11_slipped_99_66, zc (show ((l + 1 : Nat) : Int) = l + 1 by omega), slO]
      have h9 := slipM91 (x := x) (k := F_X11_slipped_99_66 f) hc w c st hh hl (slO_ok (S := S) (h := h) hc l (by omega))
      simp (disch := omega) only [lt_z, cI_s, cJ_s, cV_s, bI_s, bI_e, bV_s, bV_e, zl, zi_neg, zi_add, zi_sub, zi_mul, ↓reduceIte, zb0, zb1, bb_and, bb_t, bb_f, zi_ltT, zi_ltF, zi_leT, zi_leF, zi_eqT, zi_eqF, zi_ixT, zi_nat, Int.toNat_natCast, Int.reduceToNat, ltNT, and_self, c.1.1, st.1]
      exact h9) 0 FUEL (by omega) (FUEL_gt (by omega))
theorem ok26 : OK_26 Rel := fun M a1 a2 hR => by
  obtain ⟨x, rfl, hx⟩ := zi_rng a1
  obtain ⟨z, rfl, hz⟩ := zi_rng a2
  have hR2 := hR
  obtain ⟨C, S, W, h1, h2, h3, h4, h5, h6, h7, h8, h9, h10, h11, h12⟩ := hR2
  have hH := h1.1.2.2.1
  unfold c_26 w_slipped
  by_cases hh : 0 ≤ x ∧ x < cH C
  · obtain ⟨h, rfl, hh2⟩ := natOf hh
    by_cases hw : z = 0 ∨ z = 1 ∨ z = 2
    · refine okq2 (x := zi (slV C S h z)) (M1 := M) hR ?_ Sam0.rf (fun M' hs => ⟨sI M' 99 0 (zi 0), ?_, th0, Sam.th⟩)
      · unfold F_X10_slipped_0 F_X10_slipped_0_20
        simp (disch := omega) only [lt_z, cI_s, cJ_s, cV_s, bI_s, bI_e, bV_s, bV_e, zl, zi_neg, zi_add, zi_sub, zi_mul, ↓reduceIte, zb0, zb1, bb_and, bb_t, bb_f, zi_ltT, zi_ltF, zi_leT, zi_leF, zi_eqT, zi_eqF, zi_ixT, zi_nat, Int.toNat_natCast, Int.reduceToNat, ltNT, and_self, needHouse_t h2.2.2.2.1.1, need_t, slipC37 h1 h4 h2 h5 hh2 hw]
      · have c : CalM (sI M' 99 0 (zi 0)) C := h3.sm (hs.tr Sam.th.1)
        have s : StaM (sI M' 99 0 (zi 0)) C S := h6.sm (hs.tr Sam.th.1)
        unfold F_X11_slipped_99
        simp (disch := omega) only [lt_z, cI_s, cJ_s, cV_s, bI_s, bI_e, bV_s, bV_e, zl, zi_neg, zi_add, zi_sub, zi_mul, ↓reduceIte, zb0, zb1, bb_and, bb_t, bb_f, zi_ltT, zi_ltF, zi_leT, zi_leF, zi_eqT, zi_eqF, zi_ixT, zi_nat, Int.toNat_natCast, Int.reduceToNat, ltNT, and_self, isHouseM_t c.1.2.2.1]
        unfold F_X11_slipped_99_19
        simp (disch := omega) only [lt_z, cI_s, cJ_s, cV_s, bI_s, bI_e, bV_s, bV_e, zl, zi_neg, zi_add, zi_sub, zi_mul, ↓reduceIte, zb0, zb1, bb_and, bb_t, bb_f, zi_ltT, zi_ltF, zi_leT, zi_leF, zi_eqT, zi_eqF, zi_ixT, zi_nat, Int.toNat_natCast, Int.reduceToNat, ltNT, and_self, in_t, bad_f th0]
        unfold F_X11_slipped_99_42
        simp (disch := omega) only [lt_z, cI_s, cJ_s, cV_s, bI_s, bI_e, bV_s, bV_e, zl, zi_neg, zi_add, zi_sub, zi_mul, ↓reduceIte, zb0, zb1, bb_and, bb_t, bb_f, zi_ltT, zi_ltF, zi_leT, zi_leF, zi_eqT, zi_eqF, zi_ixT, zi_nat, Int.toNat_natCast, Int.reduceToNat, ltNT, and_self, bad_f th0, slipM66 h1 h4 c s hh2 hw]
    · refine okr3 (y := zi 0) 2 hR (by decide) (by decide) ?_ ?_
      · unfold F_X10_slipped_0 F_X10_slipped_0_19 F_X10_slipped_0_20
        by_cases q : z < 0
        · simp (disch := omega) only [lt_z, cI_s, cJ_s, cV_s, bI_s, bI_e, bV_s, bV_e, zl, zi_neg, zi_add, zi_sub, zi_mul, ↓reduceIte, zb0, zb1, bb_and, bb_t, bb_f, zi_ltT, zi_ltF, zi_leT, zi_leF, zi_eqT, zi_eqF, zi_ixT, zi_nat, Int.toNat_natCast, Int.reduceToNat, ltNT, and_self, needHouse_t h2.2.2.2.1.1, need_f]
        · simp (disch := omega) only [lt_z, cI_s, cJ_s, cV_s, bI_s, bI_e, bV_s, bV_e, zl, zi_neg, zi_add, zi_sub, zi_mul, ↓reduceIte, zb0, zb1, bb_and, bb_t, bb_f, zi_ltT, zi_ltF, zi_leT, zi_leF, zi_eqT, zi_eqF, zi_ixT, zi_nat, Int.toNat_natCast, Int.reduceToNat, ltNT, and_self, needHouse_t h2.2.2.2.1.1, need_f]
      · have a2 : mA (sI (rf M 2) 99 0 (zi 0)) 103 2 = zi (cH C) := h3.1.2.2.1
        unfold F_X11_slipped_99
        simp (disch := omega) only [lt_z, cI_s, cJ_s, cV_s, bI_s, bI_e, bV_s, bV_e, zl, zi_neg, zi_add, zi_sub, zi_mul, ↓reduceIte, zb0, zb1, bb_and, bb_t, bb_f, zi_ltT, zi_ltF, zi_leT, zi_leF, zi_eqT, zi_eqF, zi_ixT, zi_nat, Int.toNat_natCast, Int.reduceToNat, ltNT, and_self, isHouseM_t a2]
        unfold F_X11_slipped_99_19
        simp (disch := omega) only [lt_z, cI_s, cJ_s, cV_s, bI_s, bI_e, bV_s, bV_e, zl, zi_neg, zi_add, zi_sub, zi_mul, ↓reduceIte, zb0, zb1, bb_and, bb_t, bb_f, zi_ltT, zi_ltF, zi_leT, zi_leF, zi_eqT, zi_eqF, zi_ixT, zi_nat, Int.toNat_natCast, Int.reduceToNat, ltNT, and_self, in_f, bad_f th0]
        unfold F_X11_slipped_99_42
        simp (disch := omega) only [lt_z, cI_s, cJ_s, cV_s, bI_s, bI_e, bV_s, bV_e, zl, zi_neg, zi_add, zi_sub, zi_mul, ↓reduceIte, zb0, zb1, bb_and, bb_t, bb_f, zi_ltT, zi_ltF, zi_leT, zi_leF, zi_eqT, zi_eqF, zi_ixT, zi_nat, Int.toNat_natCast, Int.reduceToNat, ltNT, and_self, bad_t th0]
        rfl
  · refine okr2 (y := zi 0) 1 hR (by decide) ?_ ?_
    · unfold F_X10_slipped_0
      simp (disch := omega) only [lt_z, cI_s, cJ_s, cV_s, bI_s, bI_e, bV_s, bV_e, zl, zi_neg, zi_add, zi_sub, zi_mul, ↓reduceIte, zb0, zb1, bb_and, bb_t, bb_f, zi_ltT, zi_ltF, zi_leT, zi_leF, zi_eqT, zi_eqF, zi_ixT, zi_nat, Int.toNat_natCast, Int.reduceToNat, ltNT, and_self, needHouse_f h2.2.2.2.1.1]
    · have a2 : mA (sI (rf M 1) 99 0 (zi 0)) 103 2 = zi (cH C) := h3.1.2.2.1
      unfold F_X11_slipped_99
      simp (disch := omega) only [lt_z, cI_s, cJ_s, cV_s, bI_s, bI_e, bV_s, bV_e, zl, zi_neg, zi_add, zi_sub, zi_mul, ↓reduceIte, zb0, zb1, bb_and, bb_t, bb_f, zi_ltT, zi_ltF, zi_leT, zi_leF, zi_eqT, zi_eqF, zi_ixT, zi_nat, Int.toNat_natCast, Int.reduceToNat, ltNT, and_self, isHouseM_f a2]
      unfold F_X11_slipped_99_19
      simp (disch := omega) only [lt_z, cI_s, cJ_s, cV_s, bI_s, bI_e, bV_s, bV_e, zl, zi_neg, zi_add, zi_sub, zi_mul, ↓reduceIte, zb0, zb1, bb_and, bb_t, bb_f, zi_ltT, zi_ltF, zi_leT, zi_leF, zi_eqT, zi_eqF, zi_ixT, zi_nat, Int.toNat_natCast, Int.reduceToNat, ltNT, and_self, bad_t th0]
      rfl
