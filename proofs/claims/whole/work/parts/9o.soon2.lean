/-! soonest: the class -/
def clr (s w : Nat) : Nat := if s.testBit w = true then s - 2 ^ w else s
theorem clr_dec : ∀ s : Fin 256, ∀ w : Fin 8, (zi (s.val : Int) &&& ((1 <<< (zi (w.val : Int) &&& 31)) ^^^ (-1))) = zi ((clr s.val w.val : Nat) : Int) := by decide +kernel
theorem clr_z {s w : Nat} (hs : s < 256) (hw : w < 8) : (zi (s : Int) &&& ((1 <<< (zi (w : Int) &&& 31)) ^^^ (-1))) = zi ((clr s w : Nat) : Int) := clr_dec ⟨s, hs⟩ ⟨w, hw⟩
theorem a255_dec : ∀ s : Fin 256, (zi (s.val : Int) &&& 255) = zi (s.val : Int) := by decide +kernel
theorem a255 {s : Nat} (hs : s < 256) : (zi (s : Int) &&& 255) = zi (s : Int) := a255_dec ⟨s, hs⟩
theorem all_dec : ∀ n : Fin 9, (1 <<< (zi (n.val : Int) &&& 31)) - 1 = zi ((2 ^ n.val - 1 : Nat) : Int) := by decide +kernel
theorem all_z {n : Nat} (hn : n ≤ 8) : (1 <<< (zi (n : Int) &&& 31)) - 1 = zi ((2 ^ n - 1 : Nat) : Int) := all_dec ⟨n, by omega⟩
theorem one_dec : ∀ n : Fin 9, (1 <<< (zi (n.val : Int) &&& 31)) = zi ((2 ^ n.val : Nat) : Int) := by decide +kernel
theorem one_z {n : Nat} (hn : n ≤ 8) : (1 <<< (zi (n : Int) &&& 31)) = zi ((2 ^ n : Nat) : Int) := one_dec ⟨n, by omega⟩
theorem clr_t {s w : Nat} (h : s.testBit w = true) : clr s w = s - 2 ^ w := if_pos h
theorem clr_f {s w : Nat} (h : s.testBit w = false) : clr s w = s := if_neg (by rw [h]; decide)
theorem clr_le (s w : Nat) : clr s w ≤ s := by
  unfold clr
  split
  · exact Nat.sub_le _ _
  · exact Nat.le_refl _
theorem p256 {n : Nat} (hn : n ≤ 8) : 1 ≤ 2 ^ n ∧ 2 ^ n ≤ 256 := ⟨Nat.two_pow_pos n, Nat.pow_le_pow_right (by decide) hn⟩
theorem ET_ext {E : Nat → Nat → Int} {n a k : Nat} {A : Nat → Int} (h : ET E n a k A) (hk : 0 < k) : ET E n a (k + 1) (fun t => if t = k then eF E A k n else A t) := by
  refine ⟨?_, fun s s1 s2 => ?_⟩
  · show (if 0 = k then _ else A 0) = _
    rw [if_neg (by omega)]
    exact h.1
  · have cg : ∀ t, t < s → A t = (fun t => if t = k then eF E A k n else A t) t := fun t ht => by
      show A t = if t = k then _ else A t
      rw [if_neg (by omega)]
    rw [← eF_cong cg n]
    show (if s = k then _ else A s) = _
    by_cases q : s = k
    · rw [if_pos q, q]
    · rw [if_neg q]
      exact h.2 s s1 (by omega)
theorem LT_ext {B : Nat → Nat → Int} {n a k : Nat} {A : Nat → Int} (h : LT' B n a k A) (hk : 0 < k) : LT' B n a (k + 1) (fun t => if t = k then lF B A k n else A t) := by
  refine ⟨?_, fun s s1 s2 => ?_⟩
  · show (if 0 = k then _ else A 0) = _
    rw [if_neg (by omega)]
    exact h.1
  · have cg : ∀ t, t < s → A t = (fun t => if t = k then lF B A k n else A t) t := fun t ht => by
      show A t = if t = k then _ else A t
      rw [if_neg (by omega)]
    rw [← lF_cong cg n]
    show (if s = k then _ else A s) = _
    by_cases q : s = k
    · rw [if_pos q, q]
    · rw [if_neg q]
      exact h.2 s s1 (by omega)
theorem arr_ext {M : PM} {q k : Nat} {A : Nat → Int} {v : Int} (h : ∀ t, t < k → mA M q t = zi (A t)) : ∀ t, t < k + 1 → mA (sA M q k (zi v)) q t = zi ((fun t => if t = k then v else A t) t) := fun t ht => by
  show (sA M q k (zi v)).2.2.1 q t = zi (if t = k then v else A t)
  by_cases e : t = k
  · rw [e, if_pos rfl, rA_at]
  · rw [if_neg e, rA_nk e]
    exact h t (by omega)
theorem endE {M : PM} {C : Cal} {S : Sta} {w a : Nat} (hc : WFC C) (hw : WFS C S) (c : CalC M C) (st : StaC M C S 16) (hk : w < kN S) (ha : a ≤ 1000000000) : F_X9_endOf_89 M (zi w) (zi a) = rI (zi (Ef C S w a)) (brM M (kL S w) 0 (tB C (kL S w) 0)) := by
  obtain ⟨r, r1, r2⟩ := endOf_s hc hw c st hk ha
  rw [r1, Ef_s ((hw.2.2.2.2.2 w hk).1.1) r2]
theorem earl_s {M : PM} {C : Cal} {S : Sta} {A : Nat → Int} {s : Nat} (hc : WFC C) (hw : WFS C S) (c : CalC M C) (st : StaC M C S 16) (hs : s < 2 ^ kN S) (hA : ∀ t, t < s → mA M 90 t = zi (A t)) (hr : ∀ t, t < s → -1 ≤ A t ∧ A t ≤ 1000000000) : ∃ M', F_X9_earliestBehind_89 M (zi s) = rI (zi (eF (Ef C S) A s (kN S))) M' ∧ Sam0 M M' ∧ M'.2.2.1 = M.2.2.1 := by
  have h8 := hw.2.2.1.2.2
  have h256 := p256 h8
  have hEB := EB_s hw
  unfold F_X9_earliestBehind_89
  refine loopS (σ := PM × Nat) (fun f q => F_X9_earliestBehind_89_4 f q.1 (zi s) (zi (eF (Ef C S) A s q.2)) (zi (q.2 : Nat))) (fun o => ∃ M', o = rI (zi (eF (Ef C S) A s (kN S))) M' ∧ Sam0 M M' ∧ M'.2.2.1 = M.2.2.1) (fun r q => r = kN S - q.2 ∧ q.2 ≤ kN S ∧ Sam0 M q.1 ∧ q.1.2.2.1 = M.2.2.1) ?_ (kN S) (M, 0) FUEL ⟨rfl, Nat.zero_le _, Sam0.rf, rfl⟩ (FUEL_gt (by omega))
  rintro f q ⟨M1, w⟩ ⟨i1, i2, i3, i4⟩
  simp only at i1 i2 i3 i4
  have st1 := st.sm i3 (Or.inl rfl)
  have c1 := c.sm i3
  show (∃ M', F_X9_earliestBehind_89_4 (f + 1) M1 (zi s) (zi (eF (Ef C S) A s w)) (zi (w : Nat)) = _ ∧ _) ∨ _
  rw [F_X9_earliestBehind_89_4, st1.2.1.2.2]
  by_cases q1 : w = kN S
  · left
    exact ⟨M1, by rw [if_pos (by rw [zi_le (by omega) (by omega)]; omega), q1], i3, i4⟩
  right
  have hw1 : w < kN S := by omega
  have hcl := clr_le s w
  have goS : ∀ M2 : PM, Sam0 M M2 → M2.2.2.1 = M.2.2.1 → ∃ q' t', q' < q ∧ (fun r (q : PM × Nat) => r = kN S - q.2 ∧ q.2 ≤ kN S ∧ Sam0 M q.1 ∧ q.1.2.2.1 = M.2.2.1) q' t' ∧ F_X9_earliestBehind_89_84 (F_X9_earliestBehind_89_4 f) M2 (zi s) (zi (eF (Ef C S) A s (w + 1))) (zi (w : Nat)) = (fun f (q : PM × Nat) => F_X9_earliestBehind_89_4 f q.1 (zi s) (zi (eF (Ef C S) A s q.2)) (zi (q.2 : Nat))) f t' := fun M2 m1 m2 => by
    refine ⟨kN S - (w + 1), (M2, w + 1), by omega, ⟨rfl, by show w + 1 ≤ kN S; omega, m1, m2⟩, ?_⟩
    unfold F_X9_earliestBehind_89_84
    rw [show (1 : Int32) = zi 1 from rfl, zi_add, lt_z, zc (show (w : Int) + 1 = ((w + 1 : Nat) : Int) by omega)]
  rw [if_neg (by rw [zi_le (by omega) (by omega)]; omega), clr_z (by omega) (by omega), a255 (by omega), if_pos (zi_ixT (by omega) (by omega)), zi_natN (by omega), lt_z, isIn_s (by omega) (by omega), cI_s]
  cases hb : s.testBit w with
  | false =>
    rw [if_pos (by decide)]
    have := goS M1 i3 i4
    rw [eF, if_neg (fun u => by rw [hb] at u; exact absurd u.1 (by decide))] at this
    exact this
  | true =>
    have hlt := bit_lt hb
    have hv : mA M1 90 (s - 2 ^ w) = zi (A (s - 2 ^ w)) := by rw [mA, i4]; exact hA _ hlt
    have hrg := hr _ hlt
    rw [if_neg (by decide), clr_t hb, hv]
    by_cases q2 : A (s - 2 ^ w) = -1
    · rw [if_pos (by rw [q2]; rfl)]
      have := goS M1 i3 i4
      rw [eF, if_neg (fun u => u.2.1 q2)] at this
      exact this
    · have he := hEB.e w (A (s - 2 ^ w)).toNat hw1 (by omega)
      have hfr := eF_rng hEB hr w (by omega)
      rw [if_neg (by rw [show (-1 : Int32) = zi (-1) from rfl, zi_eq (by omega) (by omega)]; exact q2), zc (show A (s - 2 ^ w) = ((A (s - 2 ^ w)).toNat : Int) by omega), endE hc hw c1 st1 hw1 (by omega), cI_s]
      have b1 : Sam0 M (brM M1 (kL S w) 0 (tB C (kL S w) 0)) := i3.tr brM_sam.1
      have := goS (brM M1 (kL S w) 0 (tB C (kL S w) 0)) b1 i4
      unfold F_X9_earliestBehind_89_82 F_X9_earliestBehind_89_75 F_X9_earliestBehind_89_83
      rw [eF] at this
      generalize Ef C S w (A (s - 2 ^ w)).toNat = e at *
      generalize eF (Ef C S) A s w = b at *
      by_cases q3 : e = -1
      · rw [if_pos (by rw [q3]; rfl)]
        rw [if_neg (fun u => u.2.2.1 q3)] at this
        exact this
      · rw [if_neg (by rw [show (-1 : Int32) = zi (-1) from rfl, zi_eq (by omega) (by omega)]; exact q3), show (-1 : Int32) = zi (-1) from rfl, show (1 : Int32) = zi 1 from rfl, zi_add]
        by_cases q4 : b = -1
        · rw [if_pos (by rw [q4])]
          rw [if_pos ⟨hb, q2, q3, Or.inl q4⟩] at this
          exact this
        · rw [if_neg (by rw [zi_eq (by omega) (by omega)]; exact q4)]
          by_cases q5 : b ≤ e + 1
          · rw [if_pos (by rw [zi_le (by omega) (by omega)]; omega)]
            rw [if_neg (fun u => by rcases u.2.2.2 with v | v <;> omega)] at this
            exact this
          · rw [if_neg (by rw [zi_le (by omega) (by omega)]; omega)]
            rw [if_pos ⟨hb, q2, q3, Or.inr (by omega)⟩] at this
            exact this
theorem plan_s {M : PM} {C : Cal} {S : Sta} {a : Nat} (hc : WFC C) (hw : WFS C S) (c : CalC M C) (st : StaC M C S 16) (ha : a ≤ 1000000000) : ∃ (A : Nat → Int) (M' : PM), F_X9_plan_89 M (zi a) = rV M' ∧ Sam0 M M' ∧ ET (Ef C S) (kN S) a (2 ^ kN S) A ∧ ∀ t, t < 2 ^ kN S → mA M' 90 t = zi (A t) := by
  have h8 := hw.2.2.1.2.2
  have h256 := p256 h8
  have hEB := EB_s hw
  have sm90 : ∀ {M M1 : PM} {k : Nat} {x : Int32}, Sam0 M M1 → Sam0 M (sA M1 90 k x) := fun {M M1 k x} h =>
    h.tr ⟨fun _ _ => rfl, fun q hq => rA_ne (fun e => by rw [e] at hq; exact absurd hq (by decide)), fun _ _ => rfl, fun _ _ _ => rfl⟩
  unfold F_X9_plan_89
  rw [if_pos (by decide), show (0 : Int32).toNatClampNeg = 0 from by decide]
  refine loopS (σ := PM × (Nat → Int) × Nat) (fun f q => F_X9_plan_89_9 f q.1 (zi (q.2.2 : Nat))) (fun o => ∃ (A : Nat → Int) (M' : PM), o = rV M' ∧ Sam0 M M' ∧ ET (Ef C S) (kN S) a (2 ^ kN S) A ∧ ∀ t, t < 2 ^ kN S → mA M' 90 t = zi (A t)) (fun r q => r = 256 - q.2.2 ∧ 0 < q.2.2 ∧ q.2.2 ≤ 2 ^ kN S ∧ Sam0 M q.1 ∧ ET (Ef C S) (kN S) a q.2.2 q.2.1 ∧ ∀ t, t < q.2.2 → mA q.1 90 t = zi (q.2.1 t)) ?_ 255 (sA M 90 0 (zi a), (fun _ => (a : Int)), 1) FUEL ⟨rfl, Nat.one_pos, h256.1, sm90 Sam0.rf, ⟨rfl, fun s s1 s2 => by have s2' : s < 1 := s2; omega⟩, fun t ht => by
    have ht' : t < 1 := ht
    show (sA M 90 0 (zi a)).2.2.1 90 t = zi a
    rw [show t = 0 by omega]
    exact rA_at⟩ (FUEL_gt (by omega))
  rintro f q ⟨M1, A, k⟩ ⟨i1, i2, i3, i4, i5, i6⟩
  simp only at i1 i2 i3 i4 i5 i6
  have st1 := st.sm i4 (Or.inl rfl)
  have c1 := c.sm i4
  show (∃ (A : Nat → Int) (M' : PM), F_X9_plan_89_9 (f + 1) M1 (zi (k : Nat)) = rV M' ∧ _) ∨ _
  rw [F_X9_plan_89_9, st1.2.1.2.2]
  unfold F_X10_all
  rw [cI_s, all_z h8]
  by_cases q1 : k = 2 ^ kN S
  · left
    refine ⟨A, M1, by rw [if_pos (by rw [zi_lt (by omega) (by omega)]; omega)], i4, q1 ▸ i5, q1 ▸ i6⟩
  right
  have hrA := fun t (ht : t < k) => ET_rng hEB ha i5 _ t (Nat.lt_succ_self _) ht
  obtain ⟨M2, e1, e2, e3⟩ := earl_s (A := A) (s := k) hc hw c1 st1 (by omega) i6 hrA
  refine ⟨256 - (k + 1), (sA M2 90 k (zi (eF (Ef C S) A k (kN S))), (fun t => if t = k then eF (Ef C S) A k (kN S) else A t), k + 1), by omega, ⟨rfl, by show 0 < k + 1; omega, by show k + 1 ≤ 2 ^ kN S; omega, sm90 (i4.tr e2), ET_ext i5 i2, arr_ext (fun t ht => by rw [mA, e3]; exact i6 t ht)⟩, ?_⟩
  rw [if_neg (by rw [zi_lt (by omega) (by omega)]; omega), if_neg (by rw [show (256 : Int32) = zi 256 from rfl, zi_le (by omega) (by omega)]; omega), e1, cI_s, if_pos (zi_ixT (by omega) (by omega)), zi_natN (by omega), show (1 : Int32) = zi 1 from rfl, zi_add, lt_z, zc (show (k : Int) + 1 = ((k + 1 : Nat) : Int) by omega)]
theorem latB {M : PM} {C : Cal} {S : Sta} {w b a : Nat} (hc : WFC C) (hw : WFS C S) (c : CalC M C) (st : StaC M C S 16) (hk : w < kN S) (hb : b ≤ 1000000000) (ha : a ≤ 1000000000) : F_X9_latestBegin_89 M (zi w) (zi ((b : Int) - 1)) (zi a) = rI (zi (clipB (Bf C S) a w b)) (brM M (kL S w) 0 (tB C (kL S w) 0)) := by
  have hp2 := p2 hc.1.1
  have h8 := hw.2.2.1.2.2
  obtain ⟨w1, w2⟩ := hw.2.2.2.2.2 w hk
  obtain ⟨s1, s2⟩ := st.2.2.2.2 w hk
  obtain ⟨r, r1, r2⟩ := nthBack_s (M := brM M (kL S w) 0 (tB C (kL S w) 0)) (L := kL S w) (b := b) (n := kD S w) (bound := a) hc (c.sm brM_sam.1) (by omega) rfl rfl hb ha w1
  have s2' : mA M 26 (zi (w : Int)).toNatClampNeg = zi (kL S w) := by rw [zi_natN (by omega)]; exact s2
  have s1' : mA (brM M (kL S w) 0 (tB C (kL S w) 0)) 25 (zi (w : Int)).toNatClampNeg = zi (kD S w) := by rw [zi_natN (by omega)]; exact s1
  have hbr := bar_s (L := kL S w) (O := 0) hc c (by omega) (by omega)
  unfold F_X9_latestBegin_89
  rw [isWorkC_t st.2.1.2.2 h8 hk, cI_s, if_neg (by decide), if_pos (zi_ixT (by omega) (by omega)), s2', show (0 : Int32) = zi ((0 : Nat) : Int) from rfl, hbr, cV_s, if_pos (zi_ixT (by omega) (by omega)), s1', r1, cI_s, Bf_s r2]
theorem clip_rng {E B : Nat → Nat → Int} {n a : Nat} (h : EB E B n) {w x : Nat} (hw : w < n) (hx : x ≤ 1000000000) : clipB B a w x = -1 ∨ (0 ≤ clipB B a w x ∧ clipB B a w x < x) := by
  unfold clipB
  split
  · exact h.b w x hw hx
  · exact Or.inl rfl
theorem lFc_rng {E B : Nat → Nat → Int} {n a : Nat} (h : EB E B n) {A : Nat → Int} {s : Nat} (hA : ∀ t, t < s → -1 ≤ A t ∧ A t ≤ 1000000000) : ∀ w, w ≤ n → -1 ≤ lF (clipB B a) A s w ∧ lF (clipB B a) A s w ≤ 1000000000
  | 0, _ => by rw [lF]; omega
  | w + 1, hw => by
    have ih := lFc_rng (a := a) h hA w (by omega)
    rw [lF]
    split
    · rename_i u
      have := hA _ (bit_lt u.1)
      have := clip_rng (a := a) h (w := w) (x := (A (s - 2 ^ w)).toNat) (by omega) (by omega)
      omega
    · exact ih
theorem LTc_rng {E B : Nat → Nat → Int} {n a e k : Nat} (h : EB E B n) {A : Nat → Int} (ha : e ≤ 1000000000) (hA : LT' (clipB B a) n e k A) : ∀ m s, s < m → s < k → -1 ≤ A s ∧ A s ≤ 1000000000
  | 0, s, hs, _ => absurd hs (Nat.not_lt_zero s)
  | m + 1, s, hs, hk => by
    rcases Nat.eq_zero_or_pos s with e | e
    · rw [e, hA.1]; omega
    · rw [hA.2 s e hk]
      exact lFc_rng h (fun t ht => LTc_rng h ha hA m t (by omega) (by omega)) n (Nat.le_refl _)
theorem ahead_s {M : PM} {C : Cal} {S : Sta} {A : Nat → Int} {s a : Nat} (hc : WFC C) (hw : WFS C S) (c : CalC M C) (st : StaC M C S 16) (hs : s < 2 ^ kN S) (ha : a ≤ 1000000000) (hA : ∀ t, t < s → mA M 91 t = zi (A t)) (hr : ∀ t, t < s → -1 ≤ A t ∧ A t ≤ 1000000000) : ∃ M', F_X9_latestAheadOf_89 M (zi s) (zi a) = rI (zi (lF (clipB (Bf C S) a) A s (kN S))) M' ∧ Sam0 M M' ∧ M'.2.2.1 = M.2.2.1 := by
  have h8 := hw.2.2.1.2.2
  have h256 := p256 h8
  have hEB := EB_s hw
  unfold F_X9_latestAheadOf_89
  refine loopS (σ := PM × Nat) (fun f q => F_X9_latestAheadOf_89_5 f q.1 (zi s) (zi a) (zi (lF (clipB (Bf C S) a) A s q.2)) (zi (q.2 : Nat))) (fun o => ∃ M', o = rI (zi (lF (clipB (Bf C S) a) A s (kN S))) M' ∧ Sam0 M M' ∧ M'.2.2.1 = M.2.2.1) (fun r q => r = kN S - q.2 ∧ q.2 ≤ kN S ∧ Sam0 M q.1 ∧ q.1.2.2.1 = M.2.2.1) ?_ (kN S) (M, 0) FUEL ⟨rfl, Nat.zero_le _, Sam0.rf, rfl⟩ (FUEL_gt (by omega))
  rintro f q ⟨M1, w⟩ ⟨i1, i2, i3, i4⟩
  simp only at i1 i2 i3 i4
  have st1 := st.sm i3 (Or.inl rfl)
  have c1 := c.sm i3
  show (∃ M', F_X9_latestAheadOf_89_5 (f + 1) M1 (zi s) (zi a) (zi (lF (clipB (Bf C S) a) A s w)) (zi (w : Nat)) = _ ∧ _) ∨ _
  rw [F_X9_latestAheadOf_89_5, st1.2.1.2.2]
  by_cases q1 : w = kN S
  · left
    exact ⟨M1, by rw [if_pos (by rw [zi_le (by omega) (by omega)]; omega), q1], i3, i4⟩
  right
  have hw1 : w < kN S := by omega
  have hcl := clr_le s w
  have goS : ∀ M2 : PM, Sam0 M M2 → M2.2.2.1 = M.2.2.1 → ∃ q' t', q' < q ∧ (fun r (q : PM × Nat) => r = kN S - q.2 ∧ q.2 ≤ kN S ∧ Sam0 M q.1 ∧ q.1.2.2.1 = M.2.2.1) q' t' ∧ F_X9_latestAheadOf_89_67 (F_X9_latestAheadOf_89_5 f) M2 (zi s) (zi a) (zi (lF (clipB (Bf C S) a) A s (w + 1))) (zi (w : Nat)) = (fun f (q : PM × Nat) => F_X9_latestAheadOf_89_5 f q.1 (zi s) (zi a) (zi (lF (clipB (Bf C S) a) A s q.2)) (zi (q.2 : Nat))) f t' := fun M2 m1 m2 => by
    refine ⟨kN S - (w + 1), (M2, w + 1), by omega, ⟨rfl, by show w + 1 ≤ kN S; omega, m1, m2⟩, ?_⟩
    unfold F_X9_latestAheadOf_89_67
    rw [show (1 : Int32) = zi 1 from rfl, zi_add, lt_z, zc (show (w : Int) + 1 = ((w + 1 : Nat) : Int) by omega)]
  rw [if_neg (by rw [zi_le (by omega) (by omega)]; omega), clr_z (by omega) (by omega), a255 (by omega), if_pos (zi_ixT (by omega) (by omega)), zi_natN (by omega), lt_z, isIn_s (by omega) (by omega), cI_s]
  cases hb : s.testBit w with
  | false =>
    rw [if_pos (by decide)]
    have := goS M1 i3 i4
    rw [lF, if_neg (fun u => by rw [hb] at u; exact absurd u.1 (by decide))] at this
    exact this
  | true =>
    have hlt := bit_lt hb
    have hv : mA M1 91 (s - 2 ^ w) = zi (A (s - 2 ^ w)) := by rw [mA, i4]; exact hA _ hlt
    have hrg := hr _ hlt
    rw [if_neg (by decide), clr_t hb, hv]
    by_cases q2 : A (s - 2 ^ w) = -1
    · rw [if_pos (by rw [q2]; rfl)]
      have := goS M1 i3 i4
      rw [lF, if_neg (fun u => u.2 q2)] at this
      exact this
    · have he := clip_rng (a := a) hEB (w := w) (x := (A (s - 2 ^ w)).toNat) hw1 (by omega)
      have hfr := lFc_rng (a := a) hEB hr w (by omega)
      have hlb := latB (w := w) (b := (A (s - 2 ^ w)).toNat) (a := a) hc hw c1 st1 hw1 (by omega) ha
      rw [if_neg (by rw [show (-1 : Int32) = zi (-1) from rfl, zi_eq (by omega) (by omega)]; exact q2), show (1 : Int32) = zi 1 from rfl, zi_sub, zc (show A (s - 2 ^ w) - 1 = ((A (s - 2 ^ w)).toNat : Int) - 1 by omega), hlb, cI_s, maxZ (by omega) (by omega), cI_s]
      have b1 : Sam0 M (brM M1 (kL S w) 0 (tB C (kL S w) 0)) := i3.tr brM_sam.1
      have := goS (brM M1 (kL S w) 0 (tB C (kL S w) 0)) b1 i4
      rw [lF, if_pos ⟨hb, q2⟩] at this
      exact this
