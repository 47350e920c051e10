/-! soonest: the reference's order, and the case -/
theorem find32 {M : PM} {C : Cal} {S : Sta} {L : Nat → Int} {s x : Nat} {x4 x5 : Int32} {K : PM → Int32 → Int32 → Int32 → Int32 → Option PR} (hc : WFC C) (hw : WFS C S) (c : CalM M C) (st : StaM M C S) (hs : s < 2 ^ kN S) (hx : x ≤ 1000000000) (hA : ∀ t, t < 2 ^ kN S → mA M 128 t = zi (L t)) (hr : ∀ t, t < 2 ^ kN S → -1 ≤ L t ∧ L t ≤ 1000000000) (hex : fa_first (opk (Ef C S) L s x) (kN S) < kN S) : F_X11_orderOf_99_32 K FUEL M (zi s) (zi x) x4 x5 (zi 0) (zi (-1)) = F_X11_orderOf_99_98 K M (zi s) x4 x5 (zi ((fa_first (opk (Ef C S) L s x) (kN S) : Nat))) (zi (Ef C S (fa_first (opk (Ef C S) L s x) (kN S)) x)) := by
  have h8 := hw.2.2.1.2.2
  have h256 := p256 h8
  have hEB := EB_s hw
  have hno := fa_first_no (opk (Ef C S) L s x) (kN S)
  have hyes := fa_first_yes (opk (Ef C S) L s x) (kN S) hex
  generalize fa_first (opk (Ef C S) L s x) (kN S) = v at *
  refine loopS (σ := Nat × Int) (fun f q => F_X11_orderOf_99_32 K f M (zi s) (zi x) x4 x5 (zi (q.1 : Nat)) (zi q.2)) (fun o => o = F_X11_orderOf_99_98 K M (zi s) x4 x5 (zi (v : Nat)) (zi (Ef C S v x))) (fun r q => r = v - q.1 ∧ q.1 ≤ v) ?_ v (0, -1) FUEL ⟨rfl, Nat.zero_le _⟩ (FUEL_gt (by omega))
  rintro f q ⟨w, y⟩ ⟨i1, i2⟩
  simp only at i1 i2
  show (F_X11_orderOf_99_32 K (f + 1) M (zi s) (zi x) x4 x5 (zi (w : Nat)) (zi y) = _) ∨ _
  rw [F_X11_orderOf_99_32, st.2.1.2.2]
  have hw1 : w < kN S := by omega
  have hcl2 := clr_le s w
  have goS : opk (Ef C S) L s x w = false → ∀ y : Int, ∃ q' t', q' < q ∧ (fun r (q : Nat × Int) => r = v - q.1 ∧ q.1 ≤ v) q' t' ∧ F_X11_orderOf_99_92 K (F_X11_orderOf_99_32 K f) M (zi s) (zi x) x4 x5 (zi (w : Nat)) (zi y) = (fun f (q : Nat × Int) => F_X11_orderOf_99_32 K f M (zi s) (zi x) x4 x5 (zi (q.1 : Nat)) (zi q.2)) f t' := fun h y => by
    have hne : w ≠ v := fun e => by rw [e, hyes] at h; exact absurd h (by decide)
    refine ⟨v - (w + 1), (w + 1, y), by omega, ⟨rfl, by show w + 1 ≤ v; omega⟩, ?_⟩
    unfold F_X11_orderOf_99_92
    rw [show (1 : Int32) = zi 1 from rfl, zi_add, lt_z, zc (show (w : Int) + 1 = ((w + 1 : Nat) : Int) by omega)]
  have stop : opk (Ef C S) L s x w = true → w = v := fun h => by
    rcases Nat.lt_or_ge w v with u | u
    · rw [hno w u] at h; exact absurd h (by decide)
    · omega
  have hzb : zi (s : Int) >>> (zi (w : Int) &&& 31) &&& 1 = bb (s.testBit w) := zbit1 (by omega) (by omega)
  rw [if_neg (by rw [zi_le (by omega) (by omega)]; omega), hzb]
  unfold F_X11_orderOf_99_61
  cases hb : s.testBit w with
  | false =>
    right
    rw [if_pos (by decide), if_pos rfl]
    exact goS (decide_eq_false (fun u => by rw [hb] at u; exact absurd u.1 (by decide))) (-1)
  | true =>
    have hlt := bit_lt hb
    have hv : mA M 128 (s - 2 ^ w) = zi (L (s - 2 ^ w)) := hA _ (by omega)
    have hrr := hr (s - 2 ^ w) (by omega)
    have he := hEB.e w x hw1 hx
    rw [if_neg (by decide), doneE hc hw c st hw1 hx, cI_s]
    by_cases q3 : Ef C S w x = -1
    · right
      rw [if_pos (by rw [q3]; rfl)]
      exact goS (decide_eq_false (fun u => u.2.1 q3)) _
    · rw [if_neg (by rw [show (-1 : Int32) = zi (-1) from rfl, zi_eq (by omega) (by omega)]; exact q3), clr_z (by omega) (by omega), clr_t hb, if_pos (zi_ixT (by omega) (by omega)), zi_natN (by omega), hv, show (1 : Int32) = zi 1 from rfl, zi_add]
      by_cases q4 : L (s - 2 ^ w) < Ef C S w x + 1
      · right
        rw [if_pos (by rw [zi_lt (by omega) (by omega)]; exact q4)]
        exact goS (decide_eq_false (fun u => by have := u.2.2; omega)) _
      · left
        rw [if_neg (by rw [zi_lt (by omega) (by omega)]; exact q4), stop (decide_eq_true ⟨hb, q3, by omega⟩)]
theorem orderM_s {M : PM} {C : Cal} {S : Sta} {L : Nat → Int} {a e : Nat} (hc : WFC C) (hw : WFS C S) (c : CalM M C) (st : StaM M C S) (ha : a ≤ 1000000000) (he : e ≤ 1000000000) (hL : LT' (Bf C S) (kN S) e (2 ^ kN S) L) (hA : ∀ t, t < 2 ^ kN S → mA M 128 t = zi (L t)) (h0 : (a : Int) ≤ L (2 ^ kN S - 1)) : F_X11_orderOf_99 M (zi a) = rI (zi ((ordr (Ef C S) L (kN S) a (kN S)).2.2 : Nat)) M := by
  have h8 := hw.2.2.1.2.2
  have h256 := p256 h8
  have hEB := EB_s hw
  have hrL := fun t (ht : t < 2 ^ kN S) => LT_rng hEB he hL _ t (Nat.lt_succ_self _) ht
  unfold F_X11_orderOf_99
  rw [st.2.1.2.2, all_z h8, lt_z]
  refine loopU (kN S) (fun f k => F_X11_orderOf_99_17 f M (zi ((ordr (Ef C S) L (kN S) a k).1 : Nat)) (zi ((ordr (Ef C S) L (kN S) a k).2.1 : Nat)) (zi ((ordr (Ef C S) L (kN S) a k).2.2 : Nat)) (zi (k : Nat))) _ (fun f => ?_) (fun f k hk => ?_) 0 FUEL (by omega) (FUEL_gt (by omega))
  · rw [F_X11_orderOf_99_17, st.2.1.2.2, if_pos (by rw [zi_le (by omega) (by omega)]; omega)]
  · obtain ⟨o1, o2, o3, o4, o5, o6⟩ := ordr_inv h8 hEB ha he hL h0 k (by omega)
    have hs0 : 0 < (ordr (Ef C S) L (kN S) a k).1 := by
      rcases Nat.eq_zero_or_pos (ordr (Ef C S) L (kN S) a k).1 with q | q
      · rw [q, fb_ct_zero.mpr (fun i _ => Nat.zero_testBit i)] at o2
        omega
      · exact q
    obtain ⟨w, w1, w2, w3, w4⟩ := soon_pick hEB he hL hs0 o1 o3
    have hlt : fa_first (opk (Ef C S) L (ordr (Ef C S) L (kN S) a k).1 (ordr (Ef C S) L (kN S) a k).2.1) (kN S) < kN S := by
      rcases Nat.lt_or_ge (fa_first (opk (Ef C S) L (ordr (Ef C S) L (kN S) a k).1 (ordr (Ef C S) L (kN S) a k).2.1) (kN S)) (kN S) with q | q
      · exact q
      · have := fa_first_no (opk (Ef C S) L (ordr (Ef C S) L (kN S) a k).1 (ordr (Ef C S) L (kN S) a k).2.1) (kN S) w (by omega)
        unfold opk at this
        rw [decide_eq_true ⟨w2, w3, w4⟩] at this
        exact absurd this (by decide)
    have hy := of_decide_eq_true (fa_first_yes _ _ hlt)
    rw [F_X11_orderOf_99_17, st.2.1.2.2, if_neg (by rw [zi_le (by omega) (by omega)]; omega), show (0 : Int32) = zi 0 from rfl, show (-1 : Int32) = zi (-1) from rfl, find32 hc hw c st o1 o5 hA hrL hlt]
    have hst : ordr (Ef C S) L (kN S) a (k + 1) = ((ordr (Ef C S) L (kN S) a k).1 - 2 ^ (fa_first (opk (Ef C S) L (ordr (Ef C S) L (kN S) a k).1 (ordr (Ef C S) L (kN S) a k).2.1) (kN S)), (Ef C S (fa_first (opk (Ef C S) L (ordr (Ef C S) L (kN S) a k).1 (ordr (Ef C S) L (kN S) a k).2.1) (kN S)) (ordr (Ef C S) L (kN S) a k).2.1 + 1).toNat, 10 * (ordr (Ef C S) L (kN S) a k).2.2 + fa_first (opk (Ef C S) L (ordr (Ef C S) L (kN S) a k).1 (ordr (Ef C S) L (kN S) a k).2.1) (kN S)) := rfl
    generalize fa_first (opk (Ef C S) L (ordr (Ef C S) L (kN S) a k).1 (ordr (Ef C S) L (kN S) a k).2.1) (kN S) = v at *
    have hee := hEB.e v (ordr (Ef C S) L (kN S) a k).2.1 hlt o5
    rw [hst]
    dsimp only
    generalize ordr (Ef C S) L (kN S) a k = o at *
    unfold F_X11_orderOf_99_98
    rw [clr_z (by omega) (by omega), clr_t hy.1, lt_z, lt_z, lt_z, lt_z, show (1 : Int32) = zi 1 from rfl, show (10 : Int32) = zi 10 from rfl, zi_mul, zi_add, zi_add, zi_add, zc (show (k : Int) + 1 = ((k + 1 : Nat) : Int) by omega), zc (show Ef C S v o.2.1 + 1 = ((Ef C S v o.2.1 + 1).toNat : Int) by omega), zc (show (10 : Int) * (o.2.2 : Int) + (v : Int) = ((10 * o.2.2 + v : Nat) : Int) by omega)]
theorem ET_ge {E B : Nat → Nat → Int} {n a k : Nat} (h : EB E B n) {A : Nat → Int} (ha : a ≤ 1000000000) (hA : ET E n a k A) : ∀ m s, s < m → s < k → A s = -1 ∨ (a : Int) ≤ A s
  | 0, s, hs, _ => absurd hs (Nat.not_lt_zero s)
  | m + 1, s, hs, hk => by
    rcases Nat.eq_zero_or_pos s with e | e
    · rw [e, hA.1]; omega
    · by_cases q : A s = -1
      · exact Or.inl q
      · right
        have q' := q
        rw [hA.2 s e hk] at q'
        obtain ⟨w, w1, w2, w3, w4, w5⟩ := eF_at n q'
        have hlt := bit_lt w2
        have r := ET_rng h ha hA _ (s - 2 ^ w) (Nat.lt_succ_self _) (by omega)
        have := ET_ge h ha hA m (s - 2 ^ w) (by omega) (by omega)
        have := h.e w (A (s - 2 ^ w)).toNat w1 (by omega)
        rw [hA.2 s e hk, w5]
        omega
theorem ok32 : OK_32 Rel := fun M a1 a2 hR => by
  obtain ⟨z, rfl, hz⟩ := zi_rng a1
  obtain ⟨y, rfl, hy⟩ := zi_rng a2
  have hR2 := hR
  obtain ⟨C, S, W, h1, h2, h3, h4, h5, h6, h7, h8, h9, h10, h11, h12⟩ := hR2
  have hk8 := h4.2.2.1.2.2
  have h256 := p256 hk8
  have hEB := EB_s h4
  unfold c_32 w_soonest
  by_cases hd : 0 ≤ z ∧ z ≤ 999999999
  · by_cases hw : y = 0 ∨ y = 1
    · obtain ⟨d, rfl, hd2⟩ := natOf (z := z) (n := 1000000000) ⟨hd.1, by omega⟩
      obtain ⟨A, M1, p1, p2, p3, p4⟩ := plan_s (a := d) h1 h4 h2 h5 (by omega)
      have rA := ET_rng hEB (by omega) p3 _ (2 ^ kN S - 1) (Nat.lt_succ_self _) (by omega)
      have gA := ET_ge hEB (by omega) p3 _ (2 ^ kN S - 1) (Nat.lt_succ_self _) (by omega)
      have m90 := p4 (2 ^ kN S - 1) (by omega)
      have st1 := h5.sm p2 (Or.inl rfl)
      have pre : ∀ o, F_X10_soonest_0 M (zi d) (zi y) = o ↔ (if zi y = 0 then cI (F_X9_earliestEnd_89 M1) fun v865 M864 => some (.inl (some (.int v865)), M864) else cI (F_X9_firstOrder_89 M1 (zi d)) fun v863 M862 => some (.inl (some (.int v863)), M862)) = o := fun o => by
        unfold F_X10_soonest_0
        rw [needDay_t hd, bV_s, needEither_t hw, bV_s, p1, cV_s]
      have preM : ∀ M' : PM, Sam0 M M' → F_X11_soonest_99 M' (zi d) (zi y) = F_X11_soonest_99_41 (sI M' 99 0 (zi 0)) (zi d) (zi y) (zi 0) := fun M' hs => by
        unfold F_X11_soonest_99
        rw [show (0 : Int32) = zi 0 from rfl, isDay_t hd, cI_s, if_neg (by decide)]
        unfold F_X11_soonest_99_18
        rw [show (0 : Int32) = zi 0 from rfl, bad_f th0, cI_s, if_pos (by decide), show (1 : Int32) = zi 1 from rfl, in_t (by omega) (by omega), cI_s, if_neg (by decide)]
      by_cases hn0 : kN S = 0
      · -- no works
        have eA : A (2 ^ kN S - 1) = (d : Int) := by rw [hn0]; exact p3.1
        rw [eA] at m90
        rcases hw with rfl | rfl
        · refine okq2 (x := zi ((d : Int) - 1)) (M1 := M1) hR ((pre _).mpr ?_) p2 (fun M' hs => ⟨sI M' 99 0 (zi 0), ?_, th0, Sam.th⟩)
          · rw [if_pos (by decide)]
            unfold F_X9_earliestEnd_89 F_X10_all
            rw [st1.2.1.2.2, cI_s, all_z hk8, a255 (by omega), if_pos (zi_ixT (by omega) (by omega)), zi_natN (by omega), m90, lt_z, if_neg (by rw [show (-1 : Int32) = zi (-1) from rfl, zi_eq (by omega) (by omega)]; omega), cI_s, show (1 : Int32) = zi 1 from rfl, zi_sub]
          · have s : StaM (sI M' 99 0 (zi 0)) C S := h6.sm (hs.tr Sam.th.1)
            rw [preM M' hs]
            unfold F_X11_soonest_99_41
            rw [bad_f th0, cI_s, if_pos (show zi 0 = 0 from rfl), s.2.1.2.2, if_pos (by rw [hn0]; rfl), if_pos (by decide), show (1 : Int32) = zi 1 from rfl, zi_sub]
        · obtain ⟨L, hL⟩ := LT_ex (Bf C S) (kN S) d (2 ^ kN S - 1)
          rw [show 2 ^ kN S - 1 + 1 = 2 ^ kN S by omega] at hL
          obtain ⟨M2, g1, g2⟩ := order_s (M := M1) (a := d) (e := d) h1 h4 (h2.sm p2) st1 (by omega) (by omega) (Nat.le_refl _) m90 hL (by rw [hn0]; rw [show 2 ^ 0 - 1 = 0 from rfl, hL.1]; exact Int.le_refl _)
          rw [show (ordr (Ef C S) L (kN S) d (kN S)).2.2 = 0 by rw [hn0]; rfl] at g1
          refine okq2 (x := zi ((0 : Nat) : Int)) (M1 := M2) hR ((pre _).mpr ?_) (p2.tr g2) (fun M' hs => ⟨sI M' 99 0 (zi 0), ?_, th0, Sam.th⟩)
          · rw [if_neg (by decide), g1, cI_s]
          · have s : StaM (sI M' 99 0 (zi 0)) C S := h6.sm (hs.tr Sam.th.1)
            rw [preM M' hs]
            unfold F_X11_soonest_99_41
            rw [bad_f th0, cI_s, if_pos (show zi 0 = 0 from rfl), s.2.1.2.2, if_pos (by rw [hn0]; rfl), if_neg (by decide)]
            rfl
      · have preE : ∀ M' : PM, Sam0 M M' → ∃ M2, mA M2 127 (2 ^ kN S - 1) = zi (A (2 ^ kN S - 1)) ∧ mI M2 99 0 = zi 0 ∧ Sam M' M2 ∧ F_X11_soonest_99 M' (zi d) (zi y) = (if zi (A (2 ^ kN S - 1)) = -1 then F_X11_soonest_99_98 M2 (zi (A (2 ^ kN S - 1))) else (if zi y = 0 then F_X11_soonest_99_98 M2 (zi (A (2 ^ kN S - 1))) else cV (F_X11_laysLate_99 M2 (zi (A (2 ^ kN S - 1)))) fun M1567 => cI (F_X11_orderOf_99 M1567 (zi d)) fun v1569 M1568 => some (.inl (some (.int v1569)), M1568))) := fun M' hs => by
          have c : CalM (sI M' 99 0 (zi 0)) C := h3.sm (hs.tr Sam.th.1)
          have s : StaM (sI M' 99 0 (zi 0)) C S := h6.sm (hs.tr Sam.th.1)
          obtain ⟨A', M2, a1, a2, a3, a4, a5⟩ := early_s (a := d) h1 h4 c s (by omega)
          have eA := ET_one p3 a4 _ (2 ^ kN S - 1) (Nat.lt_succ_self _) (by omega)
          refine ⟨M2, by rw [a5 _ (by omega), eA], by rw [mI, a2]; exact th0, Sam.th.tr a3, ?_⟩
          have s2 : StaM M2 C S := s.sm a3.1
          rw [preM M' hs]
          unfold F_X11_soonest_99_41
          rw [bad_f th0, cI_s, if_pos (show zi 0 = 0 from rfl), s.2.1.2.2, if_neg (by rw [show (0 : Int32) = zi 0 from rfl, zi_eq (by omega) (by omega)]; omega), a1, cV_s, s2.2.1.2.2, all_z hk8, if_pos (zi_ixT (by omega) (by omega)), zi_natN (by omega), a5 _ (by omega), lt_z, eA]
        by_cases q1 : A (2 ^ kN S - 1) = -1
        · rw [q1] at m90
          refine okq2 (x := zi (-1)) (M1 := if y = 0 then M1 else sA M1 91 0 (zi (-1))) hR ((pre _).mpr ?_) ?_ (fun M' hs => ?_)
          · rcases hw with rfl | rfl
            · rw [if_pos (by decide), if_pos (by decide)]
              unfold F_X9_earliestEnd_89 F_X10_all
              rw [st1.2.1.2.2, cI_s, all_z hk8, a255 (by omega), if_pos (zi_ixT (by omega) (by omega)), zi_natN (by omega), m90, lt_z, if_pos (by decide), cI_s]
              rfl
            · rw [if_neg (by decide), if_neg (by decide)]
              unfold F_X9_firstOrder_89 F_X10_all
              have e0 : mA (sA M1 91 0 (zi (-1))) 91 0 = zi (-1) := rA_at
              rw [st1.2.1.2.2, cI_s, all_z hk8, a255 (by omega), if_pos (zi_ixT (by omega) (by omega)), if_pos (by decide), if_pos (by decide), zi_natN (by omega), show (0 : Int32).toNatClampNeg = 0 from by decide, m90, e0, if_pos (by decide), cI_s]
              rfl
          · rcases hw with rfl | rfl
            · exact p2
            · exact p2.tr ⟨fun _ _ => rfl, fun q hq => rA_ne (fun e => by rw [e] at hq; exact absurd hq (by decide)), fun _ _ => rfl, fun _ _ _ => rfl⟩
          · obtain ⟨M2, b1, b2, b3, b4⟩ := preE M' hs
            refine ⟨M2, ?_, b2, b3⟩
            rw [b4, q1, if_pos (by decide)]
            unfold F_X11_soonest_99_98
            rw [if_pos (by decide)]
            rfl
        · obtain ⟨e, e1⟩ : ∃ e : Nat, A (2 ^ kN S - 1) = (e : Int) := ⟨(A (2 ^ kN S - 1)).toNat, by omega⟩
          rcases hw with rfl | rfl
          · refine okq2 (x := zi ((e : Int) - 1)) (M1 := M1) hR ((pre _).mpr ?_) p2 (fun M' hs => ?_)
            · rw [if_pos (by decide)]
              unfold F_X9_earliestEnd_89 F_X10_all
              rw [st1.2.1.2.2, cI_s, all_z hk8, a255 (by omega), if_pos (zi_ixT (by omega) (by omega)), zi_natN (by omega), m90, lt_z, if_neg (by rw [show (-1 : Int32) = zi (-1) from rfl, zi_eq (by omega) (by omega)]; omega), cI_s, show (1 : Int32) = zi 1 from rfl, zi_sub, e1]
            · obtain ⟨M2, b1, b2, b3, b4⟩ := preE M' hs
              refine ⟨M2, ?_, b2, b3⟩
              rw [b4, e1, if_neg (by rw [show (-1 : Int32) = zi (-1) from rfl, zi_eq (by omega) (by omega)]; omega), if_pos (by decide)]
              unfold F_X11_soonest_99_98
              rw [if_neg (by rw [show (-1 : Int32) = zi (-1) from rfl, zi_eq (by omega) (by omega)]; omega), show (1 : Int32) = zi 1 from rfl, zi_sub]
          · obtain ⟨L, hL⟩ := LT_ex (Bf C S) (kN S) e (2 ^ kN S - 1)
            rw [show 2 ^ kN S - 1 + 1 = 2 ^ kN S by omega] at hL
            have h0 := soon_start hk8 hEB (by omega) (by omega) p3 hL _ (2 ^ kN S - 1) (Nat.lt_succ_self _) (by omega) q1 (by rw [e1, Nat.sub_self, hL.1]; exact Int.le_refl _)
            obtain ⟨M2, g1, g2⟩ := order_s (M := M1) (a := d) (e := e) h1 h4 (h2.sm p2) st1 (by omega) (by omega) (by omega) (by rw [m90, e1]) hL h0
            refine okq2 (x := zi ((ordr (Ef C S) L (kN S) d (kN S)).2.2 : Nat)) (M1 := M2) hR ((pre _).mpr ?_) (p2.tr g2) (fun M' hs => ?_)
            · rw [if_neg (by decide), g1, cI_s]
            · obtain ⟨M3, b1, b2, b3, b4⟩ := preE M' hs
              have c : CalM M3 C := h3.sm (hs.tr b3.1)
              have s : StaM M3 C S := h6.sm (hs.tr b3.1)
              obtain ⟨L', M4, l1, l2, l3, l4, l5⟩ := late_s (a := e) h1 h4 c s (by omega)
              have eL := fun t (ht : t < 2 ^ kN S) => LT_one l4 hL _ t (Nat.lt_succ_self _) ht
              refine ⟨M4, ?_, by rw [mI, l2]; exact b2, b3.tr l3⟩
              rw [b4, e1, if_neg (by rw [show (-1 : Int32) = zi (-1) from rfl, zi_eq (by omega) (by omega)]; omega), if_neg (by decide), l1, cV_s, orderM_s (L := L) (e := e) h1 h4 (c.sm l3.1) (s.sm l3.1) (by omega) (by omega) hL (fun t ht => by rw [l5 t ht, eL t ht]) h0, cI_s]
    · refine okr3 (y := zi 0) 2 hR (by decide) (by decide) ?_ ?_
      · unfold F_X10_soonest_0
        simp (disch := omega) only [lt_z, cI_s, cJ_s, cV_s, bI_s, bI_e, bV_s, bV_e, zl, zi_neg, zi_add, zi_sub, zi_mul, ↓reduceIte, zb0, zb1, bb_and, bb_t, bb_f, zi_ltT, zi_ltF, zi_leT, zi_leF, zi_eqT, zi_eqF, zi_ixT, zi_nat, Int.toNat_natCast, Int.reduceToNat, ltNT, and_self, needDay_t, needEither_f]
      · unfold F_X11_soonest_99
        rw [show (0 : Int32) = zi 0 from rfl, isDay_t hd, cI_s, if_neg (by decide)]
        unfold F_X11_soonest_99_18
        rw [show (0 : Int32) = zi 0 from rfl, bad_f th0, cI_s, if_pos (by decide), show (1 : Int32) = zi 1 from rfl, in_f (by omega) (by omega) (by omega), cI_s, if_pos (by decide)]
        unfold F_X11_soonest_99_41
        rw [show (2 : Int32) = zi 2 from rfl, bad_t th0 (by decide) (by decide), cI_s, if_neg (by decide)]
        rfl
  · refine okr2 (y := zi 0) 0 hR (by decide) ?_ ?_
    · unfold F_X10_soonest_0
      simp (disch := omega) only [lt_z, cI_s, cJ_s, cV_s, bI_s, bI_e, bV_s, bV_e, zl, zi_neg, zi_add, zi_sub, zi_mul, ↓reduceIte, zb0, zb1, bb_and, bb_t, bb_f, zi_ltT, zi_ltF, zi_leT, zi_leF, zi_eqT, zi_eqF, zi_ixT, zi_nat, Int.toNat_natCast, Int.reduceToNat, ltNT, and_self, needDay_f]
    · unfold F_X11_soonest_99
      rw [show (0 : Int32) = zi 0 from rfl, isDay_f hz hd, cI_s, if_pos (by decide)]
      unfold F_X11_soonest_99_18
      rw [show (1 : Int32) = zi 1 from rfl, show (0 : Int32) = zi 0 from rfl, bad_t th0 (by decide) (by decide), cI_s, if_neg (by decide)]
      rfl
