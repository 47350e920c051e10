/-! counting laws on 64 days at once -/
def tl (M : PM) (a b c d : Int64) : PM := sJ (sJ (sJ (sJ M 4 5 a) 4 6 b) 4 7 c) 4 8 d
theorem u2_same {α : Type} (f : Nat → Nat → α) (q k : Nat) (x y : α) : u2 (u2 f q k x) q k y = u2 f q k y := by
  funext a b
  unfold u2
  by_cases h1 : b = k
  · by_cases h2 : a = q
    · simp [h1, h2]
    · simp [h1, h2]
  · simp [h1]
theorem u2_self {α : Type} (f : Nat → Nat → α) (q k : Nat) : u2 f q k (f q k) = f := by
  funext a b
  unfold u2
  by_cases h1 : b = k
  · by_cases h2 : a = q
    · simp [h1, h2]
    · simp [h1, h2]
  · simp [h1]
theorem u2_swap {α : Type} (f : Nat → Nat → α) {q k j : Nat} (x y : α) (h : k ≠ j) : u2 (u2 f q k x) q j y = u2 (u2 f q j y) q k x := by
  funext a b
  unfold u2
  by_cases h1 : b = k
  · by_cases h2 : a = q
    · simp [h1, h2, h]
    · simp [h1, h2, h]
  · by_cases h3 : b = j
    · simp [h1, h3, Ne.symm h]
    · simp [h1, h3]
theorem tl_tl (M : PM) (a b c d a' b' c' d' : Int64) : sJ (sJ (sJ (sJ (tl M a b c d) 4 5 a') 4 6 b') 4 7 c') 4 8 d' = tl M a' b' c' d' := by
  refine Prod.ext rfl (Prod.ext ?_ rfl)
  show u2 (u2 (u2 (u2 (u2 (u2 (u2 (u2 M.2.1 4 5 a) 4 6 b) 4 7 c) 4 8 d) 4 5 a') 4 6 b') 4 7 c') 4 8 d' = u2 (u2 (u2 (u2 M.2.1 4 5 a') 4 6 b') 4 7 c') 4 8 d'
  rw [u2_swap _ d a' (by decide), u2_swap _ c a' (by decide), u2_swap _ b a' (by decide), u2_same, u2_swap _ d b' (by decide), u2_swap _ c b' (by decide), u2_same, u2_swap _ d c' (by decide), u2_same, u2_same]
theorem tl_self (M : PM) : tl M (mJ M 4 5) (mJ M 4 6) (mJ M 4 7) (mJ M 4 8) = M := by
  refine Prod.ext rfl (Prod.ext ?_ rfl)
  show u2 (u2 (u2 (u2 M.2.1 4 5 (M.2.1 4 5)) 4 6 (M.2.1 4 6)) 4 7 (M.2.1 4 7)) 4 8 (M.2.1 4 8) = M.2.1
  rw [u2_self, u2_self, u2_self, u2_self]
theorem tl_sam {M : PM} {a b c d : Int64} : Sam M (tl M a b c d) := Sam.rf
/-- how many of the first n laws hold -/
def hcN (w d : Nat → Nat) (n : Nat) (t : Int) : Nat := fb_ct (fun l => hb (w l) (d l) t) n
def Tal (w d : Nat → Nat) (n : Nat) (t : Int) (a b c e : Int64) : Prop := ∀ i, i < 64 → lb a i = (hcN w d n (t + i)).testBit 0 ∧ lb b i = (hcN w d n (t + i)).testBit 1 ∧ lb c i = (hcN w d n (t + i)).testBit 2 ∧ lb e i = (hcN w d n (t + i)).testBit 3
theorem inc4 : ∀ c : Fin 15, (c.val + 1).testBit 0 = (c.val.testBit 0 ^^ true) ∧ (c.val + 1).testBit 1 = (c.val.testBit 1 ^^ (c.val.testBit 0 && true)) ∧ (c.val + 1).testBit 2 = (c.val.testBit 2 ^^ (c.val.testBit 1 && (c.val.testBit 0 && true))) ∧ (c.val + 1).testBit 3 = (c.val.testBit 3 ^^ (c.val.testBit 2 && (c.val.testBit 1 && (c.val.testBit 0 && true)))) := by decide +kernel
theorem Tal0 (w d : Nat → Nat) (t : Int) : Tal w d 0 t 0 0 0 0 := fun i _ => by
  show lb 0 i = (0 : Nat).testBit 0 ∧ lb 0 i = (0 : Nat).testBit 1 ∧ lb 0 i = (0 : Nat).testBit 2 ∧ lb 0 i = (0 : Nat).testBit 3
  rw [lb_0]
  decide
theorem tally_s {M : PM} {C : Cal} {t : Int} {a0 b0 c0 d0 : Int64} (hc : WFC C) (c : LawC M 4 (cN C) (cW C) (cD C)) (ht : -2000000000 ≤ t ∧ t ≤ 2000000000) : ∃ a b g e, F_X2_tally_4 (tl M a0 b0 c0 d0) (zi t) = rV (tl M a b g e) ∧ Tal (cW C) (cD C) (cN C) t a b g e := by
  have hn := hc.1.1
  unfold F_X2_tally_4
  rw [tl_tl]
  refine loopS (σ := Nat × Int64 × Int64 × Int64 × Int64) (fun f s => F_X2_tally_4_22 f (tl M s.2.1 s.2.2.1 s.2.2.2.1 s.2.2.2.2) (zi t) (zi (s.1 : Nat))) (fun o => ∃ a b g e, o = rV (tl M a b g e) ∧ Tal (cW C) (cD C) (cN C) t a b g e) (fun r s => s.1 ≤ cN C ∧ r = cN C - s.1 ∧ Tal (cW C) (cD C) s.1 t s.2.1 s.2.2.1 s.2.2.2.1 s.2.2.2.2) ?_ (cN C) (0, 0, 0, 0, 0) FUEL ⟨Nat.zero_le _, rfl, Tal0 _ _ _⟩ (FUEL_gt (by omega))
  rintro f r ⟨l, a, b, g, e⟩ ⟨h1, h2, h3⟩
  simp only at h1 h2 h3
  have a1 : mI (tl M a b g e) 4 4 = zi (cN C) := c.1
  by_cases hl : l = cN C
  · left
    subst hl
    refine ⟨a, b, g, e, ?_, h3⟩
    show F_X2_tally_4_22 (f + 1) (tl M a b g e) (zi t) (zi (cN C)) = _
    rw [F_X2_tally_4_22]
    simp (disch := omega) only [lt_z, cI_s, cJ_s, cV_s, bI_s, bI_e, bV_s, bV_e, zl, zi_neg, zi_add, zi_sub, zi_mul, ↓reduceIte, zb0, zb1, bb_and, bb_t, bb_f, zi_ltT, zi_ltF, zi_leT, zi_leF, zi_eqT, zi_eqF, zi_ixT, zi_nat, Int.toNat_natCast, Int.reduceToNat, ltNT, and_self, a1]
  · right
    have hln : l < cN C := by omega
    obtain ⟨y, y1, y2⟩ := heldFrom_s (M := tl M a b g e) (l := l) (t := t) hc c hln ht
    refine ⟨cN C - (l + 1), (l + 1, a ^^^ y, b ^^^ (a &&& y), g ^^^ (b &&& (a &&& y)), e ^^^ (g &&& (b &&& (a &&& y)))), by omega, ⟨by show l + 1 ≤ cN C; omega, rfl, fun i hi => ?_⟩, ?_⟩
    · obtain ⟨k1, k2, k3, k4⟩ := h3 i hi
      show lb (a ^^^ y) i = (hcN (cW C) (cD C) (l + 1) (t + i)).testBit 0 ∧ lb (b ^^^ (a &&& y)) i = (hcN (cW C) (cD C) (l + 1) (t + i)).testBit 1 ∧ lb (g ^^^ (b &&& (a &&& y))) i = (hcN (cW C) (cD C) (l + 1) (t + i)).testBit 2 ∧ lb (e ^^^ (g &&& (b &&& (a &&& y)))) i = (hcN (cW C) (cD C) (l + 1) (t + i)).testBit 3
      have hle : hcN (cW C) (cD C) l (t + i) ≤ l := fb_ct_le _ _
      simp only [lb_xor, lb_and, k1, k2, k3, k4, y2 i hi]
      cases hb1 : hb (cW C l) (cD C l) (t + i) with
      | false =>
        have e9 : hcN (cW C) (cD C) (l + 1) (t + i) = hcN (cW C) (cD C) l (t + i) := ctF (p := fun l => hb (cW C l) (cD C l) (t + i)) hb1
        rw [e9]
        refine ⟨?_, ?_, ?_, ?_⟩ <;> simp only [Bool.and_false, Bool.xor_false]
      | true =>
        have e9 : hcN (cW C) (cD C) (l + 1) (t + i) = hcN (cW C) (cD C) l (t + i) + 1 := ctT (p := fun l => hb (cW C l) (cD C l) (t + i)) hb1
        rw [e9]
        obtain ⟨i1, i2, i3, i4⟩ := inc4 ⟨hcN (cW C) (cD C) l (t + i), by omega⟩
        simp only at i1 i2 i3 i4
        rw [i1, i2, i3, i4]
        exact ⟨rfl, rfl, rfl, rfl⟩
    · show F_X2_tally_4_22 (f + 1) (tl M a b g e) (zi t) (zi l) = F_X2_tally_4_22 f (tl M (a ^^^ y) (b ^^^ (a &&& y)) (g ^^^ (b &&& (a &&& y))) (e ^^^ (g &&& (b &&& (a &&& y))))) (zi t) (zi ((l + 1 : Nat)))
      rw [F_X2_tally_4_22, y1, cJ_s, zc (show ((l + 1 : Nat) : Int) = l + 1 by omega), if_neg (by rw [a1, zi_le (by omega) (by omega)]; omega)]
      rw [← tl_tl M a b g e (a ^^^ y) (b ^^^ (a &&& y)) (g ^^^ (b &&& (a &&& y))) (e ^^^ (g &&& (b &&& (a &&& y))))]
      rw [lt_z, lt_z, lt_z, lt_z, lt_z, show (1 : Int32) = zi 1 from rfl, zi_add]
      rfl
def selB (b : Bool) (x : Int64) : Int64 := if b then x else x ^^^ (-1)
theorem lb_sel (b : Bool) (x : Int64) {i : Nat} (hi : i < 64) : lb (selB b x) i = (lb x i == b) := by
  cases b
  · show lb (x ^^^ (-1)) i = _
    rw [lb_not x hi]
    cases lb x i <;> rfl
  · show lb x i = _
    cases lb x i <;> rfl
theorem jsm {M : PM} {a b g e : Int64} {k : Nat} (hk : k ≤ 12) : F_X2_justSoMany_4 (tl M a b g e) (zi k) = rJ (((selB (k.testBit 0) a &&& selB (k.testBit 1) b) &&& selB (k.testBit 2) g) &&& selB (k.testBit 3) e) (tl M a b g e) := by
  have h : k = 0 ∨ k = 1 ∨ k = 2 ∨ k = 3 ∨ k = 4 ∨ k = 5 ∨ k = 6 ∨ k = 7 ∨ k = 8 ∨ k = 9 ∨ k = 10 ∨ k = 11 ∨ k = 12 := by omega
  rcases h with rfl | rfl | rfl | rfl | rfl | rfl | rfl | rfl | rfl | rfl | rfl | rfl | rfl <;> rfl
theorem eq4 : ∀ c k : Fin 16, (((c.val.testBit 0 == k.val.testBit 0) && (c.val.testBit 1 == k.val.testBit 1)) && (c.val.testBit 2 == k.val.testBit 2) && (c.val.testBit 3 == k.val.testBit 3)) = decide (c.val = k.val) := by decide +kernel
theorem justSo_s {M : PM} {C : Cal} {t : Int} {a b g e : Int64} {k : Nat} (hc : WFC C) (h : Tal (cW C) (cD C) (cN C) t a b g e) (hk : k ≤ 12) : ∃ y, F_X2_justSoMany_4 (tl M a b g e) (zi k) = rJ y (tl M a b g e) ∧ ∀ i, i < 64 → lb y i = decide (hcN (cW C) (cD C) (cN C) (t + i) = k) := by
  refine ⟨_, jsm hk, fun i hi => ?_⟩
  obtain ⟨k1, k2, k3, k4⟩ := h i hi
  have hn := hc.1.1
  have hle : hcN (cW C) (cD C) (cN C) (t + i) ≤ cN C := fb_ct_le _ _
  rw [lb_and, lb_and, lb_and, lb_sel _ _ hi, lb_sel _ _ hi, lb_sel _ _ hi, lb_sel _ _ hi, k1, k2, k3, k4]
  exact eq4 ⟨hcN (cW C) (cD C) (cN C) (t + i), by omega⟩ ⟨k, by omega⟩
