/-! soonest: the reference -/
theorem doneE {M : PM} {C : Cal} {S : Sta} {w a : Nat} (hc : WFC C) (hw : WFS C S) (c : CalM M C) (st : StaM M C S) (hk : w < kN S) (ha : a ≤ 1000000000) : F_X11_doneOf_99 M (zi w) (zi a) = rI (zi (Ef C S w a)) M := by
  obtain ⟨r, r1, r2⟩ := doneOf_s hc hw c st hk ha
  rw [r1, Ef_s ((hw.2.2.2.2.2 w hk).1.1) r2]
theorem lateE {M : PM} {C : Cal} {S : Sta} {w b : Nat} (hc : WFC C) (hw : WFS C S) (c : CalM M C) (st : StaM M C S) (hk : w < kN S) (hb : b ≤ 1000000000) : F_X11_latestOf_99 M (zi w) (zi ((b : Int) - 1)) = rI (zi (Bf C S w b)) M := by
  obtain ⟨r, r1, r2⟩ := latestOf_s hc hw c st hk hb
  rw [r1, Bf_0 r2]
theorem clr_eq {s w : Nat} (hb : s.testBit w = true) : clr s w ≠ s := by
  rw [clr_t hb]
  have := bit_lt hb
  omega
def inE (E : Nat → Nat → Int) (A : Nat → Int) (a k w : Nat) : Int := if k = 0 then (a : Int) else eF E A k w
theorem inE_N {E : Nat → Nat → Int} {A : Nat → Int} {a k w : Nat} (h : ¬ (k.testBit w = true ∧ A (k - 2 ^ w) ≠ -1 ∧ E w (A (k - 2 ^ w)).toNat ≠ -1 ∧ (eF E A k w = -1 ∨ E w (A (k - 2 ^ w)).toNat + 1 < eF E A k w))) : inE E A a k (w + 1) = inE E A a k w := by
  unfold inE
  rw [eF, if_neg h]
theorem early29 {M : PM} {C : Cal} {S : Sta} {A : Nat → Int} {a k : Nat} {x1 : Int32} {K : PM → Int32 → Int32 → Option PR} (hc : WFC C) (hw : WFS C S) (c : CalM M C) (st : StaM M C S) (hk : k < 2 ^ kN S) (ha : a ≤ 1000000000) (hA : ∀ t, t < k → mA M 127 t = zi (A t)) (hr : ∀ t, t < k → -1 ≤ A t ∧ A t ≤ 1000000000) (hk0 : mA M 127 k = zi (inE (Ef C S) A a k 0)) : ∃ M', F_X11_laysEarly_99_29 K FUEL M x1 (zi k) (zi ((0 : Nat) : Int)) = K M' x1 (zi ((k + 1 : Nat))) ∧ M'.1 = M.1 ∧ Sam M M' ∧ (∀ t, t < k → mA M' 127 t = zi (A t)) ∧ mA M' 127 k = zi (inE (Ef C S) A a k (kN S)) := by
  have h8 := hw.2.2.1.2.2
  have h256 := p256 h8
  have hEB := EB_s hw
  refine loopS (σ := PM × Nat) (fun f q => F_X11_laysEarly_99_29 K f q.1 x1 (zi k) (zi (q.2 : Nat))) (fun o => ∃ M', o = K M' x1 (zi ((k + 1 : Nat))) ∧ M'.1 = M.1 ∧ Sam M M' ∧ (∀ t, t < k → mA M' 127 t = zi (A t)) ∧ mA M' 127 k = zi (inE (Ef C S) A a k (kN S))) (fun r q => r = kN S - q.2 ∧ q.2 ≤ kN S ∧ q.1.1 = M.1 ∧ Sam M q.1 ∧ (∀ t, t < k → mA q.1 127 t = zi (A t)) ∧ mA q.1 127 k = zi (inE (Ef C S) A a k q.2)) ?_ (kN S) (M, 0) FUEL ⟨rfl, Nat.zero_le _, rfl, Sam.rf, hA, hk0⟩ (FUEL_gt (by omega))
  rintro f q ⟨M1, w⟩ ⟨i1, i2, i3, i4, i5, i6⟩
  simp only at i1 i2 i3 i4 i5 i6
  have st1 := st.sm i4.1
  have c1 := c.sm i4.1
  show (∃ M', F_X11_laysEarly_99_29 K (f + 1) M1 x1 (zi k) (zi (w : Nat)) = _ ∧ _) ∨ _
  rw [F_X11_laysEarly_99_29, st1.2.1.2.2]
  by_cases q1 : w = kN S
  · left
    refine ⟨M1, ?_, i3, i4, i5, q1 ▸ i6⟩
    rw [if_pos (by rw [zi_le (by omega) (by omega)]; omega), show (1 : Int32) = zi 1 from rfl, zi_add, lt_z, zc (show (k : Int) + 1 = ((k + 1 : Nat) : Int) by omega)]
  right
  have hw1 : w < kN S := by omega
  have hcl := clr_le k w
  have goS : ∀ M2 : PM, M2.1 = M.1 → Sam M M2 → (∀ t, t < k → mA M2 127 t = zi (A t)) → mA M2 127 k = zi (inE (Ef C S) A a k (w + 1)) → ∃ q' t', q' < q ∧ (fun r (q : PM × Nat) => r = kN S - q.2 ∧ q.2 ≤ kN S ∧ q.1.1 = M.1 ∧ Sam M q.1 ∧ (∀ t, t < k → mA q.1 127 t = zi (A t)) ∧ mA q.1 127 k = zi (inE (Ef C S) A a k q.2)) q' t' ∧ F_X11_laysEarly_99_119 K (F_X11_laysEarly_99_29 K f) M2 x1 (zi k) (zi (w : Nat)) = (fun f (q : PM × Nat) => F_X11_laysEarly_99_29 K f q.1 x1 (zi k) (zi (q.2 : Nat))) f t' := fun M2 m0 m1 m2 m3 => by
    refine ⟨kN S - (w + 1), (M2, w + 1), by omega, ⟨rfl, by show w + 1 ≤ kN S; omega, m0, m1, m2, m3⟩, ?_⟩
    unfold F_X11_laysEarly_99_119
    rw [show (1 : Int32) = zi 1 from rfl, zi_add, lt_z, zc (show (w : Int) + 1 = ((w + 1 : Nat) : Int) by omega)]
  rw [if_neg (by rw [zi_le (by omega) (by omega)]; omega), clr_z (by omega) (by omega), lt_z]
  cases hb : k.testBit w with
  | false =>
    rw [clr_f hb, if_pos rfl]
    exact goS M1 i3 i4 i5 (by rw [inE_N (fun u => by rw [hb] at u; exact absurd u.1 (by decide))]; exact i6)
  | true =>
    have hlt := bit_lt hb
    have hv : mA M1 127 (k - 2 ^ w) = zi (A (k - 2 ^ w)) := i5 _ hlt
    have hrg := hr _ hlt
    have hkp : k ≠ 0 := by omega
    have hin : ∀ w, inE (Ef C S) A a k w = eF (Ef C S) A k w := fun w => by unfold inE; rw [if_neg hkp]
    rw [if_neg (by rw [zi_eq (by omega) (by omega)]; have := clr_eq hb; omega), clr_t hb, if_pos (zi_ixT (by omega) (by omega)), zi_natN (by omega), hv]
    by_cases q2 : A (k - 2 ^ w) = -1
    · rw [if_pos (by rw [q2]; rfl)]
      exact goS M1 i3 i4 i5 (by rw [inE_N (fun u => u.2.1 q2)]; exact i6)
    · have he := hEB.e w (A (k - 2 ^ w)).toNat hw1 (by omega)
      have hfr := eF_rng hEB hr w (by omega)
      have hde := doneE (w := w) (a := (A (k - 2 ^ w)).toNat) hc hw c1 st1 hw1 (by omega)
      rw [if_neg (by rw [show (-1 : Int32) = zi (-1) from rfl, zi_eq (by omega) (by omega)]; exact q2), if_pos (zi_ixT (by omega) (by omega)), zc (show A (k - 2 ^ w) = ((A (k - 2 ^ w)).toNat : Int) by omega), hde, cI_s, zi_natN (by omega), i6]
      have hN := @inE_N (Ef C S) A a k w
      have hT : (k.testBit w = true ∧ A (k - 2 ^ w) ≠ -1 ∧ Ef C S w (A (k - 2 ^ w)).toNat ≠ -1 ∧ (eF (Ef C S) A k w = -1 ∨ Ef C S w (A (k - 2 ^ w)).toNat + 1 < eF (Ef C S) A k w)) → inE (Ef C S) A a k (w + 1) = Ef C S w (A (k - 2 ^ w)).toNat + 1 := fun h => by rw [hin, eF, if_pos h]
      rw [hin w] at i6 ⊢
      rw [hin w] at hN
      have wr : ∀ v : Int, inE (Ef C S) A a k (w + 1) = v → ∃ q' t', q' < q ∧ (fun r (q : PM × Nat) => r = kN S - q.2 ∧ q.2 ≤ kN S ∧ q.1.1 = M.1 ∧ Sam M q.1 ∧ (∀ t, t < k → mA q.1 127 t = zi (A t)) ∧ mA q.1 127 k = zi (inE (Ef C S) A a k q.2)) q' t' ∧ F_X11_laysEarly_99_119 K (F_X11_laysEarly_99_29 K f) (sA M1 127 k (zi v)) x1 (zi k) (zi (w : Nat)) = (fun f (q : PM × Nat) => F_X11_laysEarly_99_29 K f q.1 x1 (zi k) (zi (q.2 : Nat))) f t' := fun v hv => goS (sA M1 127 k (zi v)) i3 (Sam.a 127 k _ (by decide) i4) (fun t ht => (rA_nk (by omega)).trans (i5 t ht)) (by rw [hv]; exact rA_at)
      unfold F_X11_laysEarly_99_109
      generalize Ef C S w (A (k - 2 ^ w)).toNat = e at *
      generalize eF (Ef C S) A k w = b at *
      by_cases q3 : e = -1
      · rw [if_pos (by rw [q3]; rfl)]
        exact goS M1 i3 i4 i5 (by rw [hN (fun u => u.2.2.1 q3)]; exact i6)
      · rw [if_neg (by rw [show (-1 : Int32) = zi (-1) from rfl, zi_eq (by omega) (by omega)]; exact q3), if_pos (zi_ixT (by omega) (by omega)), show (-1 : Int32) = zi (-1) from rfl, show (1 : Int32) = zi 1 from rfl, zi_add]
        by_cases q4 : b = -1
        · rw [if_pos (by rw [q4]), if_pos (zi_ixT (by omega) (by omega)), zi_natN (by omega)]
          exact wr (e + 1) (hT ⟨hb, q2, q3, Or.inl q4⟩)
        · rw [if_neg (by rw [zi_eq (by omega) (by omega)]; exact q4), if_pos (zi_ixT (by omega) (by omega))]
          by_cases q5 : b ≤ e + 1
          · rw [if_pos (by rw [zi_le (by omega) (by omega)]; omega)]
            exact goS M1 i3 i4 i5 (by rw [hN (fun u => by rcases u.2.2.2 with v | v <;> omega)]; exact i6)
          · rw [if_neg (by rw [zi_le (by omega) (by omega)]; omega), if_pos (zi_ixT (by omega) (by omega)), zi_natN (by omega)]
            exact wr (e + 1) (hT ⟨hb, q2, q3, Or.inr (by omega)⟩)
theorem early_s {M : PM} {C : Cal} {S : Sta} {a : Nat} (hc : WFC C) (hw : WFS C S) (c : CalM M C) (st : StaM M C S) (ha : a ≤ 1000000000) : ∃ (A : Nat → Int) (M' : PM), F_X11_laysEarly_99 M (zi a) = rV M' ∧ M'.1 = M.1 ∧ Sam M M' ∧ ET (Ef C S) (kN S) a (2 ^ kN S) A ∧ ∀ t, t < 2 ^ kN S → mA M' 127 t = zi (A t) := by
  have h8 := hw.2.2.1.2.2
  have h256 := p256 h8
  have hEB := EB_s hw
  unfold F_X11_laysEarly_99
  refine loopS (σ := PM × (Nat → Int) × Nat) (fun f q => F_X11_laysEarly_99_2 f q.1 (zi a) (zi (q.2.2 : Nat))) (fun o => ∃ (A : Nat → Int) (M' : PM), o = rV M' ∧ M'.1 = M.1 ∧ Sam M M' ∧ ET (Ef C S) (kN S) a (2 ^ kN S) A ∧ ∀ t, t < 2 ^ kN S → mA M' 127 t = zi (A t)) (fun r q => r = 256 - q.2.2 ∧ q.2.2 ≤ 2 ^ kN S ∧ q.1.1 = M.1 ∧ Sam M q.1 ∧ ET (Ef C S) (kN S) a q.2.2 q.2.1 ∧ ∀ t, t < q.2.2 → mA q.1 127 t = zi (q.2.1 t)) ?_ 256 (M, (fun _ => (a : Int)), 0) FUEL ⟨rfl, Nat.zero_le _, rfl, Sam.rf, ⟨rfl, fun s s1 s2 => absurd (show s < 0 from s2) (Nat.not_lt_zero s)⟩, fun t ht => absurd (show t < 0 from ht) (Nat.not_lt_zero t)⟩ (FUEL_gt (by omega))
  rintro f q ⟨M1, A, k⟩ ⟨i1, i2, i3, i4, i5, i6⟩
  simp only at i1 i2 i3 i4 i5 i6
  show (∃ (A : Nat → Int) (M' : PM), F_X11_laysEarly_99_2 (f + 1) M1 (zi a) (zi (k : Nat)) = rV M' ∧ _) ∨ _
  have st1 := st.sm i4.1
  rw [F_X11_laysEarly_99_2, st1.2.1.2.2, one_z h8]
  by_cases q1 : k = 2 ^ kN S
  · left
    exact ⟨A, M1, by rw [if_pos (by rw [zi_le (by omega) (by omega)]; omega)], i3, i4, q1 ▸ i5, q1 ▸ i6⟩
  right
  have hrA := fun t (ht : t < k) => ET_rng hEB ha i5 _ t (Nat.lt_succ_self _) ht
  have i40 : Sam M (sA M1 127 k (zi (inE (Ef C S) A a k 0))) := Sam.a 127 k _ (by decide) i4
  obtain ⟨M2, e1, e2, e3, e4, e5⟩ := early29 (M := sA M1 127 k (zi (inE (Ef C S) A a k 0))) (A := A) (a := a) (k := k) (x1 := zi a) (K := F_X11_laysEarly_99_2 f) hc hw (c.sm i40.1) (st.sm i40.1) (by omega) ha (fun t ht => (rA_nk (by omega)).trans (i6 t ht)) hrA rA_at
  refine ⟨256 - (k + 1), (M2, (fun t => if t = k then inE (Ef C S) A a k (kN S) else A t), k + 1), by omega, ⟨rfl, by show k + 1 ≤ 2 ^ kN S; omega, e2.trans i3, i40.tr e3, ?_, fun t ht => ?_⟩, ?_⟩
  · show ET (Ef C S) (kN S) a (k + 1) (fun t => if t = k then inE (Ef C S) A a k (kN S) else A t)
    by_cases q2 : k = 0
    · subst q2
      exact ⟨rfl, fun s s1 s2 => by omega⟩
    · unfold inE
      rw [if_neg q2]
      exact ET_ext i5 (by omega)
  · show mA M2 127 t = zi (if t = k then inE (Ef C S) A a k (kN S) else A t)
    have ht' : t < k + 1 := ht
    by_cases q2 : t = k
    · rw [if_pos q2, q2]; exact e5
    · rw [if_neg q2]; exact e4 t (by omega)
  · rw [if_neg (by rw [zi_le (by omega) (by omega)]; omega)]
    unfold F_X11_laysEarly_99_26
    rw [if_pos (zi_ixT (by omega) (by omega)), if_pos (zi_ixT (by omega) (by omega)), zi_natN (by omega)]
    by_cases q2 : k = 0
    · rw [if_pos (by rw [q2]; rfl)]
      have : inE (Ef C S) A a k 0 = (a : Int) := if_pos q2
      rw [this] at e1
      exact e1
    · rw [if_neg (by rw [show (0 : Int32) = zi 0 from rfl, zi_eq (by omega) (by omega)]; omega)]
      have : inE (Ef C S) A a k 0 = -1 := if_neg q2
      rw [this] at e1
      exact e1
def inL (B : Nat → Nat → Int) (A : Nat → Int) (a k w : Nat) : Int := if k = 0 then (a : Int) else lF B A k w
theorem inL_N {B : Nat → Nat → Int} {A : Nat → Int} {a k w : Nat} (h : ¬ (k.testBit w = true ∧ A (k - 2 ^ w) ≠ -1)) : inL B A a k (w + 1) = inL B A a k w := by
  unfold inL
  rw [lF, if_neg h]
theorem late29 {M : PM} {C : Cal} {S : Sta} {A : Nat → Int} {a k : Nat} {x1 : Int32} {K : PM → Int32 → Int32 → Option PR} (hc : WFC C) (hw : WFS C S) (c : CalM M C) (st : StaM M C S) (hk : k < 2 ^ kN S) (ha : a ≤ 1000000000) (hA : ∀ t, t < k → mA M 128 t = zi (A t)) (hr : ∀ t, t < k → -1 ≤ A t ∧ A t ≤ 1000000000) (hk0 : mA M 128 k = zi (inL (Bf C S) A a k 0)) : ∃ M', F_X11_laysLate_99_29 K FUEL M x1 (zi k) (zi ((0 : Nat) : Int)) = K M' x1 (zi ((k + 1 : Nat))) ∧ M'.1 = M.1 ∧ Sam M M' ∧ (∀ t, t < k → mA M' 128 t = zi (A t)) ∧ mA M' 128 k = zi (inL (Bf C S) A a k (kN S)) := by
  have h8 := hw.2.2.1.2.2
  have h256 := p256 h8
  have hEB := EB_s hw
  refine loopS (σ := PM × Nat) (fun f q => F_X11_laysLate_99_29 K f q.1 x1 (zi k) (zi (q.2 : Nat))) (fun o => ∃ M', o = K M' x1 (zi ((k + 1 : Nat))) ∧ M'.1 = M.1 ∧ Sam M M' ∧ (∀ t, t < k → mA M' 128 t = zi (A t)) ∧ mA M' 128 k = zi (inL (Bf C S) A a k (kN S))) (fun r q => r = kN S - q.2 ∧ q.2 ≤ kN S ∧ q.1.1 = M.1 ∧ Sam M q.1 ∧ (∀ t, t < k → mA q.1 128 t = zi (A t)) ∧ mA q.1 128 k = zi (inL (Bf C S) A a k q.2)) ?_ (kN S) (M, 0) FUEL ⟨rfl, Nat.zero_le _, rfl, Sam.rf, hA, hk0⟩ (FUEL_gt (by omega))
  rintro f q ⟨M1, w⟩ ⟨i1, i2, i3, i4, i5, i6⟩
  simp only at i1 i2 i3 i4 i5 i6
  have st1 := st.sm i4.1
  have c1 := c.sm i4.1
  show (∃ M', F_X11_laysLate_99_29 K (f + 1) M1 x1 (zi k) (zi (w : Nat)) = _ ∧ _) ∨ _
  rw [F_X11_laysLate_99_29, st1.2.1.2.2]
  by_cases q1 : w = kN S
  · left
    refine ⟨M1, ?_, i3, i4, i5, q1 ▸ i6⟩
    rw [if_pos (by rw [zi_le (by omega) (by omega)]; omega), show (1 : Int32) = zi 1 from rfl, zi_add, lt_z, zc (show (k : Int) + 1 = ((k + 1 : Nat) : Int) by omega)]
  right
  have hw1 : w < kN S := by omega
  have hcl := clr_le k w
  have goS : ∀ M2 : PM, M2.1 = M.1 → Sam M M2 → (∀ t, t < k → mA M2 128 t = zi (A t)) → mA M2 128 k = zi (inL (Bf C S) A a k (w + 1)) → ∃ q' t', q' < q ∧ (fun r (q : PM × Nat) => r = kN S - q.2 ∧ q.2 ≤ kN S ∧ q.1.1 = M.1 ∧ Sam M q.1 ∧ (∀ t, t < k → mA q.1 128 t = zi (A t)) ∧ mA q.1 128 k = zi (inL (Bf C S) A a k q.2)) q' t' ∧ F_X11_laysLate_99_110 K (F_X11_laysLate_99_29 K f) M2 x1 (zi k) (zi (w : Nat)) = (fun f (q : PM × Nat) => F_X11_laysLate_99_29 K f q.1 x1 (zi k) (zi (q.2 : Nat))) f t' := fun M2 m0 m1 m2 m3 => by
    refine ⟨kN S - (w + 1), (M2, w + 1), by omega, ⟨rfl, by show w + 1 ≤ kN S; omega, m0, m1, m2, m3⟩, ?_⟩
    unfold F_X11_laysLate_99_110
    rw [show (1 : Int32) = zi 1 from rfl, zi_add, lt_z, zc (show (w : Int) + 1 = ((w + 1 : Nat) : Int) by omega)]
  rw [if_neg (by rw [zi_le (by omega) (by omega)]; omega), clr_z (by omega) (by omega), lt_z]
  cases hb : k.testBit w with
  | false =>
    rw [clr_f hb, if_pos rfl]
    exact goS M1 i3 i4 i5 (by rw [inL_N (fun u => by rw [hb] at u; exact absurd u.1 (by decide))]; exact i6)
  | true =>
    have hlt := bit_lt hb
    have hv : mA M1 128 (k - 2 ^ w) = zi (A (k - 2 ^ w)) := i5 _ hlt
    have hrg := hr _ hlt
    have hkp : k ≠ 0 := by omega
    have hin : ∀ w, inL (Bf C S) A a k w = lF (Bf C S) A k w := fun w => by unfold inL; rw [if_neg hkp]
    rw [if_neg (by rw [zi_eq (by omega) (by omega)]; have := clr_eq hb; omega), clr_t hb, if_pos (zi_ixT (by omega) (by omega)), zi_natN (by omega), hv]
    by_cases q2 : A (k - 2 ^ w) = -1
    · rw [if_pos (by rw [q2]; rfl)]
      exact goS M1 i3 i4 i5 (by rw [inL_N (fun u => u.2 q2)]; exact i6)
    · have he := hEB.b w (A (k - 2 ^ w)).toNat hw1 (by omega)
      have hfr := lF_rng hEB hr w (by omega)
      have hde := lateE (w := w) (b := (A (k - 2 ^ w)).toNat) hc hw c1 st1 hw1 (by omega)
      rw [if_neg (by rw [show (-1 : Int32) = zi (-1) from rfl, zi_eq (by omega) (by omega)]; exact q2), if_pos (zi_ixT (by omega) (by omega)), show (1 : Int32) = zi 1 from rfl, zi_sub, zc (show A (k - 2 ^ w) - 1 = ((A (k - 2 ^ w)).toNat : Int) - 1 by omega), hde, cI_s, zi_natN (by omega), i6, if_pos (zi_ixT (by omega) (by omega)), hin w]
      have hT : inL (Bf C S) A a k (w + 1) = max (lF (Bf C S) A k w) (Bf C S w (A (k - 2 ^ w)).toNat) := by rw [hin, lF_T hb q2]
      have wr : ∀ v : Int, inL (Bf C S) A a k (w + 1) = v → ∃ q' t', q' < q ∧ (fun r (q : PM × Nat) => r = kN S - q.2 ∧ q.2 ≤ kN S ∧ q.1.1 = M.1 ∧ Sam M q.1 ∧ (∀ t, t < k → mA q.1 128 t = zi (A t)) ∧ mA q.1 128 k = zi (inL (Bf C S) A a k q.2)) q' t' ∧ F_X11_laysLate_99_109 K (F_X11_laysLate_99_29 K f) M1 x1 (zi k) (zi (w : Nat)) (zi k) (zi v) = (fun f (q : PM × Nat) => F_X11_laysLate_99_29 K f q.1 x1 (zi k) (zi (q.2 : Nat))) f t' := fun v hv => by
        have := goS (sA M1 128 k (zi v)) i3 (Sam.a 128 k _ (by decide) i4) (fun t ht => (rA_nk (by omega)).trans (i5 t ht)) (by rw [hv]; exact rA_at)
        unfold F_X11_laysLate_99_109
        rw [if_pos (zi_ixT (by omega) (by omega)), zi_natN (by omega)]
        exact this
      generalize Bf C S w (A (k - 2 ^ w)).toNat = e at *
      generalize lF (Bf C S) A k w = b at *
      by_cases q5 : e ≤ b
      · rw [if_pos (by rw [zi_le (by omega) (by omega)]; omega), if_pos (zi_ixT (by omega) (by omega))]
        exact wr b (by rw [hT]; omega)
      · rw [if_neg (by rw [zi_le (by omega) (by omega)]; omega)]
        exact wr e (by rw [hT]; omega)
theorem late_s {M : PM} {C : Cal} {S : Sta} {a : Nat} (hc : WFC C) (hw : WFS C S) (c : CalM M C) (st : StaM M C S) (ha : a ≤ 1000000000) : ∃ (A : Nat → Int) (M' : PM), F_X11_laysLate_99 M (zi a) = rV M' ∧ M'.1 = M.1 ∧ Sam M M' ∧ LT' (Bf C S) (kN S) a (2 ^ kN S) A ∧ ∀ t, t < 2 ^ kN S → mA M' 128 t = zi (A t) := by
  have h8 := hw.2.2.1.2.2
  have h256 := p256 h8
  have hEB := EB_s hw
  unfold F_X11_laysLate_99
  refine loopS (σ := PM × (Nat → Int) × Nat) (fun f q => F_X11_laysLate_99_2 f q.1 (zi a) (zi (q.2.2 : Nat))) (fun o => ∃ (A : Nat → Int) (M' : PM), o = rV M' ∧ M'.1 = M.1 ∧ Sam M M' ∧ LT' (Bf C S) (kN S) a (2 ^ kN S) A ∧ ∀ t, t < 2 ^ kN S → mA M' 128 t = zi (A t)) (fun r q => r = 256 - q.2.2 ∧ q.2.2 ≤ 2 ^ kN S ∧ q.1.1 = M.1 ∧ Sam M q.1 ∧ LT' (Bf C S) (kN S) a q.2.2 q.2.1 ∧ ∀ t, t < q.2.2 → mA q.1 128 t = zi (q.2.1 t)) ?_ 256 (M, (fun _ => (a : Int)), 0) FUEL ⟨rfl, Nat.zero_le _, rfl, Sam.rf, ⟨rfl, fun s s1 s2 => absurd (show s < 0 from s2) (Nat.not_lt_zero s)⟩, fun t ht => absurd (show t < 0 from ht) (Nat.not_lt_zero t)⟩ (FUEL_gt (by omega))
  rintro f q ⟨M1, A, k⟩ ⟨i1, i2, i3, i4, i5, i6⟩
  simp only at i1 i2 i3 i4 i5 i6
  show (∃ (A : Nat → Int) (M' : PM), F_X11_laysLate_99_2 (f + 1) M1 (zi a) (zi (k : Nat)) = rV M' ∧ _) ∨ _
  have st1 := st.sm i4.1
  rw [F_X11_laysLate_99_2, st1.2.1.2.2, one_z h8]
  by_cases q1 : k = 2 ^ kN S
  · left
    exact ⟨A, M1, by rw [if_pos (by rw [zi_le (by omega) (by omega)]; omega)], i3, i4, q1 ▸ i5, q1 ▸ i6⟩
  right
  have hrA := fun t (ht : t < k) => LT_rng hEB ha i5 _ t (Nat.lt_succ_self _) ht
  have i40 : Sam M (sA M1 128 k (zi (inL (Bf C S) A a k 0))) := Sam.a 128 k _ (by decide) i4
  obtain ⟨M2, e1, e2, e3, e4, e5⟩ := late29 (M := sA M1 128 k (zi (inL (Bf C S) A a k 0))) (A := A) (a := a) (k := k) (x1 := zi a) (K := F_X11_laysLate_99_2 f) hc hw (c.sm i40.1) (st.sm i40.1) (by omega) ha (fun t ht => (rA_nk (by omega)).trans (i6 t ht)) hrA rA_at
  refine ⟨256 - (k + 1), (M2, (fun t => if t = k then inL (Bf C S) A a k (kN S) else A t), k + 1), by omega, ⟨rfl, by show k + 1 ≤ 2 ^ kN S; omega, e2.trans i3, i40.tr e3, ?_, fun t ht => ?_⟩, ?_⟩
  · show LT' (Bf C S) (kN S) a (k + 1) (fun t => if t = k then inL (Bf C S) A a k (kN S) else A t)
    by_cases q2 : k = 0
    · subst q2
      exact ⟨rfl, fun s s1 s2 => by omega⟩
    · unfold inL
      rw [if_neg q2]
      exact LT_ext i5 (by omega)
  · show mA M2 128 t = zi (if t = k then inL (Bf C S) A a k (kN S) else A t)
    have ht' : t < k + 1 := ht
    by_cases q2 : t = k
    · rw [if_pos q2, q2]; exact e5
    · rw [if_neg q2]; exact e4 t (by omega)
  · rw [if_neg (by rw [zi_le (by omega) (by omega)]; omega)]
    unfold F_X11_laysLate_99_26
    rw [if_pos (zi_ixT (by omega) (by omega)), if_pos (zi_ixT (by omega) (by omega)), zi_natN (by omega)]
    by_cases q2 : k = 0
    · rw [if_pos (by rw [q2]; rfl)]
      have : inL (Bf C S) A a k 0 = (a : Int) := if_pos q2
      rw [this] at e1
      exact e1
    · rw [if_neg (by rw [show (0 : Int32) = zi 0 from rfl, zi_eq (by omega) (by omega)]; omega)]
      have : inL (Bf C S) A a k 0 = -1 := if_neg q2
      rw [this] at e1
      exact e1
