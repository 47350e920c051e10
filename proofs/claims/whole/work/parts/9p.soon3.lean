/-! soonest: the class's order -/
theorem LT_ex (B : Nat → Nat → Int) (n e : Nat) : ∀ k, ∃ L, LT' B n e (k + 1) L
  | 0 => ⟨fun _ => (e : Int), rfl, fun s s1 s2 => by omega⟩
  | k + 1 => by
    obtain ⟨L, h⟩ := LT_ex B n e k
    exact ⟨_, LT_ext h (Nat.succ_pos k)⟩
theorem fit_s {M : PM} {C : Cal} {S : Sta} {A L : Nat → Int} {s x a : Nat} (hc : WFC C) (hw : WFS C S) (c : CalC M C) (st : StaC M C S 16) (hs : s < 2 ^ kN S) (hx : x ≤ 1000000000) (hax : a ≤ x) (hA : ∀ t, t < 2 ^ kN S → mA M 91 t = zi (A t)) (hcl : ∀ t, t < 2 ^ kN S → A t = if (a : Int) ≤ L t then L t else -1) (hr : ∀ t, t < 2 ^ kN S → -1 ≤ L t ∧ L t ≤ 1000000000) (hex : fa_first (opk (Ef C S) L s x) (kN S) < kN S) : ∃ M', F_X9_firstInTime_89 M (zi s) (zi x) = rI (zi ((fa_first (opk (Ef C S) L s x) (kN S) : Nat))) M' ∧ Sam0 M M' ∧ M'.2.2.1 = M.2.2.1 := by
  have h8 := hw.2.2.1.2.2
  have h256 := p256 h8
  have hEB := EB_s hw
  have hno := fa_first_no (opk (Ef C S) L s x) (kN S)
  have hyes := fa_first_yes (opk (Ef C S) L s x) (kN S) hex
  generalize fa_first (opk (Ef C S) L s x) (kN S) = v at *
  unfold F_X9_firstInTime_89
  refine loopS (σ := PM × Nat) (fun f q => F_X9_firstInTime_89_2 f q.1 (zi s) (zi x) (zi (q.2 : Nat))) (fun o => ∃ M', o = rI (zi (v : Nat)) M' ∧ Sam0 M M' ∧ M'.2.2.1 = M.2.2.1) (fun r q => r = v - q.2 ∧ q.2 ≤ v ∧ Sam0 M q.1 ∧ q.1.2.2.1 = M.2.2.1) ?_ v (M, 0) FUEL ⟨rfl, Nat.zero_le _, Sam0.rf, rfl⟩ (FUEL_gt (by omega))
  rintro f q ⟨M1, w⟩ ⟨i1, i2, i3, i4⟩
  simp only at i1 i2 i3 i4
  have st1 := st.sm i3 (Or.inl rfl)
  have c1 := c.sm i3
  show (∃ M', F_X9_firstInTime_89_2 (f + 1) M1 (zi s) (zi x) (zi (w : Nat)) = _ ∧ _) ∨ _
  rw [F_X9_firstInTime_89_2, st1.2.1.2.2]
  have hw1 : w < kN S := by omega
  have hcl2 := clr_le s w
  have goS : opk (Ef C S) L s x w = false → ∀ M2 : PM, Sam0 M M2 → M2.2.2.1 = M.2.2.1 → ∃ q' t', q' < q ∧ (fun r (q : PM × Nat) => r = v - q.2 ∧ q.2 ≤ v ∧ Sam0 M q.1 ∧ q.1.2.2.1 = M.2.2.1) q' t' ∧ F_X9_firstInTime_89_68 (F_X9_firstInTime_89_2 f) M2 (zi s) (zi x) (zi (w : Nat)) = (fun f (q : PM × Nat) => F_X9_firstInTime_89_2 f q.1 (zi s) (zi x) (zi (q.2 : Nat))) f t' := fun h M2 m1 m2 => by
    have hne : w ≠ v := fun e => by rw [e, hyes] at h; exact absurd h (by decide)
    refine ⟨v - (w + 1), (M2, w + 1), by omega, ⟨rfl, by show w + 1 ≤ v; omega, m1, m2⟩, ?_⟩
    unfold F_X9_firstInTime_89_68
    rw [show (1 : Int32) = zi 1 from rfl, zi_add, lt_z, zc (show (w : Int) + 1 = ((w + 1 : Nat) : Int) by omega)]
  have stop : opk (Ef C S) L s x w = true → w = v := fun h => by
    rcases Nat.lt_or_ge w v with u | u
    · rw [hno w u] at h; exact absurd h (by decide)
    · omega
  rw [if_neg (by rw [zi_le (by omega) (by omega)]; omega), clr_z (by omega) (by omega), a255 (by omega), if_pos (zi_ixT (by omega) (by omega)), zi_natN (by omega), lt_z, isIn_s (by omega) (by omega), cI_s]
  cases hb : s.testBit w with
  | false =>
    right
    rw [if_pos (by decide)]
    exact goS (decide_eq_false (fun u => by rw [hb] at u; exact absurd u.1 (by decide))) M1 i3 i4
  | true =>
    have hlt := bit_lt hb
    have hv : mA M1 91 (s - 2 ^ w) = zi (A (s - 2 ^ w)) := by rw [mA, i4]; exact hA _ (by omega)
    have hcc := hcl (s - 2 ^ w) (by omega)
    have hrr := hr (s - 2 ^ w) (by omega)
    have he := hEB.e w x hw1 hx
    have b1 : Sam0 M (brM M1 (kL S w) 0 (tB C (kL S w) 0)) := i3.tr brM_sam.1
    rw [if_neg (by decide), clr_t hb, hv, hcc]
    by_cases q2 : (a : Int) ≤ L (s - 2 ^ w)
    · rw [if_pos q2, if_neg (by rw [show (-1 : Int32) = zi (-1) from rfl, zi_eq (by omega) (by omega)]; omega), endE hc hw c1 st1 hw1 hx, cI_s]
      by_cases q3 : Ef C S w x = -1
      · right
        rw [if_pos (by rw [q3]; rfl)]
        exact goS (decide_eq_false (fun u => u.2.1 q3)) _ b1 i4
      · rw [if_neg (by rw [show (-1 : Int32) = zi (-1) from rfl, zi_eq (by omega) (by omega)]; exact q3)]
        by_cases q4 : L (s - 2 ^ w) ≤ Ef C S w x
        · right
          rw [if_pos (by rw [zi_le (by omega) (by omega)]; exact q4)]
          exact goS (decide_eq_false (fun u => by have := u.2.2; omega)) _ b1 i4
        · left
          refine ⟨_, ?_, b1, i4⟩
          rw [if_neg (by rw [zi_le (by omega) (by omega)]; exact q4), stop (decide_eq_true ⟨hb, q3, by omega⟩)]
    · right
      rw [if_neg q2, if_pos (by decide)]
      exact goS (decide_eq_false (fun u => by have := u.2; omega)) M1 i3 i4
theorem order_s {M : PM} {C : Cal} {S : Sta} {L : Nat → Int} {a e : Nat} (hc : WFC C) (hw : WFS C S) (c : CalC M C) (st : StaC M C S 16) (ha : a ≤ 1000000000) (he : e ≤ 1000000000) (hae : a ≤ e) (h90 : mA M 90 (2 ^ kN S - 1) = zi e) (hL : LT' (Bf C S) (kN S) e (2 ^ kN S) L) (h0 : (a : Int) ≤ L (2 ^ kN S - 1)) : ∃ M', F_X9_firstOrder_89 M (zi a) = rI (zi ((ordr (Ef C S) L (kN S) a (kN S)).2.2 : Nat)) M' ∧ Sam0 M M' := by
  have h8 := hw.2.2.1.2.2
  have h256 := p256 h8
  have hEB := EB_s hw
  have sm91 : ∀ {M M1 : PM} {k : Nat} {x : Int32}, Sam0 M M1 → Sam0 M (sA M1 91 k x) := fun {M M1 k x} h =>
    h.tr ⟨fun _ _ => rfl, fun q hq => rA_ne (fun e => by rw [e] at hq; exact absurd hq (by decide)), fun _ _ => rfl, fun _ _ _ => rfl⟩
  unfold F_X9_firstOrder_89
  rw [st.2.1.2.2]
  unfold F_X10_all
  rw [cI_s, all_z h8, a255 (by omega), if_pos (zi_ixT (by omega) (by omega)), if_pos (by decide), if_pos (by decide), zi_natN (by omega), show (0 : Int32).toNatClampNeg = 0 from by decide, h90]
  have e0 : mA (sA M 91 0 (zi e)) 91 0 = zi e := rA_at
  rw [e0, if_neg (by rw [show (-1 : Int32) = zi (-1) from rfl, zi_eq (by omega) (by omega)]; omega)]
  have t41 : ∃ (A : Nat → Int) (M' : PM), F_X9_firstOrder_89_41 FUEL (sA M 91 0 (zi e)) (zi a) (zi ((2 ^ kN S - 1 : Nat))) (zi ((1 : Nat) : Int)) = F_X9_firstOrder_89_71 M' (zi a) (zi ((2 ^ kN S - 1 : Nat))) ∧ Sam0 M M' ∧ LT' (clipB (Bf C S) a) (kN S) e (2 ^ kN S) A ∧ ∀ t, t < 2 ^ kN S → mA M' 91 t = zi (A t) := by
    refine loopS (σ := PM × (Nat → Int) × Nat) (fun f q => F_X9_firstOrder_89_41 f q.1 (zi a) (zi ((2 ^ kN S - 1 : Nat))) (zi (q.2.2 : Nat))) (fun o => ∃ (A : Nat → Int) (M' : PM), o = F_X9_firstOrder_89_71 M' (zi a) (zi ((2 ^ kN S - 1 : Nat))) ∧ Sam0 M M' ∧ LT' (clipB (Bf C S) a) (kN S) e (2 ^ kN S) A ∧ ∀ t, t < 2 ^ kN S → mA M' 91 t = zi (A t)) (fun r q => r = 256 - q.2.2 ∧ 0 < q.2.2 ∧ q.2.2 ≤ 2 ^ kN S ∧ Sam0 M q.1 ∧ LT' (clipB (Bf C S) a) (kN S) e q.2.2 q.2.1 ∧ ∀ t, t < q.2.2 → mA q.1 91 t = zi (q.2.1 t)) ?_ 255 (sA M 91 0 (zi e), (fun _ => (e : Int)), 1) FUEL ⟨rfl, Nat.one_pos, h256.1, sm91 Sam0.rf, ⟨rfl, fun s s1 s2 => by have s2' : s < 1 := s2; omega⟩, fun t ht => by
      have ht' : t < 1 := ht
      show (sA M 91 0 (zi e)).2.2.1 91 t = zi e
      rw [show t = 0 by omega]
      exact rA_at⟩ (FUEL_gt (by omega))
    rintro f q ⟨M1, A, k⟩ ⟨i1, i2, i3, i4, i5, i6⟩
    simp only at i1 i2 i3 i4 i5 i6
    have st1 := st.sm i4 (Or.inl rfl)
    have c1 := c.sm i4
    show (∃ (A : Nat → Int) (M' : PM), F_X9_firstOrder_89_41 (f + 1) M1 (zi a) (zi ((2 ^ kN S - 1 : Nat))) (zi (k : Nat)) = _ ∧ _) ∨ _
    rw [F_X9_firstOrder_89_41]
    by_cases q1 : k = 2 ^ kN S
    · left
      refine ⟨A, M1, by rw [if_pos (by rw [zi_lt (by omega) (by omega)]; omega)], i4, q1 ▸ i5, q1 ▸ i6⟩
    right
    have hrA := fun t (ht : t < k) => LTc_rng hEB he i5 _ t (Nat.lt_succ_self _) ht
    obtain ⟨M2, e1, e2, e3⟩ := ahead_s (A := A) (s := k) (a := a) hc hw c1 st1 (by omega) ha i6 hrA
    refine ⟨256 - (k + 1), (sA M2 91 k (zi (lF (clipB (Bf C S) a) A k (kN S))), (fun t => if t = k then lF (clipB (Bf C S) a) A k (kN S) else A t), k + 1), by omega, ⟨rfl, by show 0 < k + 1; omega, by show k + 1 ≤ 2 ^ kN S; omega, sm91 (i4.tr e2), LT_ext i5 i2, arr_ext (fun t ht => by rw [mA, e3]; exact i6 t ht)⟩, ?_⟩
    rw [if_neg (by rw [zi_lt (by omega) (by omega)]; omega), if_neg (by rw [show (256 : Int32) = zi 256 from rfl, zi_le (by omega) (by omega)]; omega), e1, cI_s, if_pos (zi_ixT (by omega) (by omega)), zi_natN (by omega), show (1 : Int32) = zi 1 from rfl, zi_add, lt_z, zc (show (k : Int) + 1 = ((k + 1 : Nat) : Int) by omega)]
  obtain ⟨A, M1, t1, t2, t3, t4⟩ := t41
  show ∃ M', F_X9_firstOrder_89_41 FUEL (sA M 91 0 (zi e)) (zi a) (zi ((2 ^ kN S - 1 : Nat))) (zi ((1 : Nat) : Int)) = _ ∧ _
  rw [t1]
  unfold F_X9_firstOrder_89_71
  have hclip := fun t (ht : t < 2 ^ kN S) => LT_clip hEB he hae hL t3 _ t (Nat.lt_succ_self _) ht
  have hrL := fun t (ht : t < 2 ^ kN S) => LT_rng hEB he hL _ t (Nat.lt_succ_self _) ht
  refine loopS (σ := PM × Nat) (fun f q => F_X9_firstOrder_89_79 f q.1 (zi ((ordr (Ef C S) L (kN S) a q.2).1 : Nat)) (zi ((ordr (Ef C S) L (kN S) a q.2).2.2 : Nat)) (zi ((ordr (Ef C S) L (kN S) a q.2).2.1 : Nat)) (zi (q.2 : Nat))) (fun o => ∃ M', o = rI (zi ((ordr (Ef C S) L (kN S) a (kN S)).2.2 : Nat)) M' ∧ Sam0 M M') (fun r q => r = kN S - q.2 ∧ q.2 ≤ kN S ∧ Sam0 M q.1 ∧ q.1.2.2.1 = M1.2.2.1) ?_ (kN S) (M1, 0) FUEL ⟨rfl, Nat.zero_le _, t2, rfl⟩ (FUEL_gt (by omega))
  rintro f q ⟨M2, k⟩ ⟨i1, i2, i3, i4⟩
  simp only at i1 i2 i3 i4
  have st1 := st.sm i3 (Or.inl rfl)
  have c1 := c.sm i3
  show (∃ M', F_X9_firstOrder_89_79 (f + 1) M2 (zi ((ordr (Ef C S) L (kN S) a k).1 : Nat)) (zi ((ordr (Ef C S) L (kN S) a k).2.2 : Nat)) (zi ((ordr (Ef C S) L (kN S) a k).2.1 : Nat)) (zi (k : Nat)) = _ ∧ _) ∨ _
  rw [F_X9_firstOrder_89_79, st1.2.1.2.2]
  by_cases q1 : k = kN S
  · left
    exact ⟨M2, by rw [if_pos (by rw [zi_le (by omega) (by omega)]; omega), q1], i3⟩
  right
  obtain ⟨o1, o2, o3, o4, o5, o6⟩ := ordr_inv h8 hEB ha he hL h0 k (by omega)
  have hs0 : 0 < (ordr (Ef C S) L (kN S) a k).1 := by
    rcases Nat.eq_zero_or_pos (ordr (Ef C S) L (kN S) a k).1 with q | q
    · rw [q, fb_ct_zero.mpr (fun i _ => Nat.zero_testBit i)] at o2
      omega
    · exact q
  obtain ⟨w, w1, w2, w3, w4⟩ := soon_pick hEB he hL hs0 o1 o3
  have hlt : fa_first (opk (Ef C S) L (ordr (Ef C S) L (kN S) a k).1 (ordr (Ef C S) L (kN S) a k).2.1) (kN S) < kN S := by
    rcases Nat.lt_or_ge (fa_first (opk (Ef C S) L (ordr (Ef C S) L (kN S) a k).1 (ordr (Ef C S) L (kN S) a k).2.1) (kN S)) (kN S) with q | q
    · exact q
    · have := fa_first_no (opk (Ef C S) L (ordr (Ef C S) L (kN S) a k).1 (ordr (Ef C S) L (kN S) a k).2.1) (kN S) w (by omega)
      unfold opk at this
      rw [decide_eq_true ⟨w2, w3, w4⟩] at this
      exact absurd this (by decide)
  obtain ⟨M3, m1, m2, m3⟩ := fit_s (M := M2) (A := A) (L := L) (a := a) hc hw c1 st1 o1 o5 o4 (fun t ht => by rw [mA, i4]; exact t4 t ht) hclip hrL hlt
  have hy := of_decide_eq_true (fa_first_yes _ _ hlt)
  rw [if_neg (by rw [zi_le (by omega) (by omega)]; omega), m1, cI_s]
  have hst : ordr (Ef C S) L (kN S) a (k + 1) = ((ordr (Ef C S) L (kN S) a k).1 - 2 ^ (fa_first (opk (Ef C S) L (ordr (Ef C S) L (kN S) a k).1 (ordr (Ef C S) L (kN S) a k).2.1) (kN S)), (Ef C S (fa_first (opk (Ef C S) L (ordr (Ef C S) L (kN S) a k).1 (ordr (Ef C S) L (kN S) a k).2.1) (kN S)) (ordr (Ef C S) L (kN S) a k).2.1 + 1).toNat, 10 * (ordr (Ef C S) L (kN S) a k).2.2 + fa_first (opk (Ef C S) L (ordr (Ef C S) L (kN S) a k).1 (ordr (Ef C S) L (kN S) a k).2.1) (kN S)) := rfl
  generalize fa_first (opk (Ef C S) L (ordr (Ef C S) L (kN S) a k).1 (ordr (Ef C S) L (kN S) a k).2.1) (kN S) = v at *
  have i5 := i3.tr m2
  have hee := hEB.e v (ordr (Ef C S) L (kN S) a k).2.1 hlt o5
  refine ⟨kN S - (k + 1), (brM M3 (kL S v) 0 (tB C (kL S v) 0), k + 1), by omega, ⟨rfl, by show k + 1 ≤ kN S; omega, i5.tr brM_sam.1, m3.trans i4⟩, ?_⟩
  show _ = F_X9_firstOrder_89_79 f (brM M3 (kL S v) 0 (tB C (kL S v) 0)) (zi ((ordr (Ef C S) L (kN S) a (k + 1)).1 : Nat)) (zi ((ordr (Ef C S) L (kN S) a (k + 1)).2.2 : Nat)) (zi ((ordr (Ef C S) L (kN S) a (k + 1)).2.1 : Nat)) (zi ((k + 1 : Nat)))
  rw [hst]
  dsimp only
  generalize ordr (Ef C S) L (kN S) a k = o at *
  rw [endE hc hw (c.sm i5) (st.sm i5 (Or.inl rfl)) hlt o5, clr_z (by omega) (by omega), clr_t hy.1, lt_z, cI_s, lt_z, lt_z, lt_z, show (1 : Int32) = zi 1 from rfl, show (10 : Int32) = zi 10 from rfl, zi_mul, zi_add, zi_add, zi_add, zc (show (k : Int) + 1 = ((k + 1 : Nat) : Int) by omega), zc (show Ef C S v o.2.1 + 1 = ((Ef C S v o.2.1 + 1).toNat : Int) by omega), zc (show (10 : Int) * (o.2.2 : Int) + (v : Int) = ((10 * o.2.2 + v : Nat) : Int) by omega)]
