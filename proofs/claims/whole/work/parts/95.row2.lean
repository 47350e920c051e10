theorem tO_past {C : Cal} {s : Nat} (hs : ∀ i, i < cK C → cS C i < s) (x i : Nat) (hx : s ≤ x) : tO C ((x + i : Nat) : Int) = tO C (x : Int) + i := by
  unfold tO
  rw [fb_ct_cong (q := fun _ => true) (fun k hk => decide_eq_true (by have := hs k hk; omega)), fb_ct_cong (p := fun i => decide ((cS C i : Int) < (x : Int))) (q := fun _ => true) (fun k hk => decide_eq_true (by have := hs k hk; omega))]
  omega
theorem rowIn {M : PM} {p : Nat → Bool} {d K r n g : Nat} {X : Int64} {k33 : PM → Int32 → Int32 → Int32 → Int32 → Option PR} {Q : Option PR → Prop} (b : Int32) (hn : 1 ≤ n ∧ n ≤ 64) (hg : d + K + n ≤ 1000000000) (hr : 1 ≤ r ∧ r ≤ 99) (hX : ∀ i, i < 64 → lb X i = (p (d + K + i) && decide (i < n))) (h0 : ∀ k, k < K → run p d (k + 1) < r) (hyes : ∀ x, RowF p d r x → Q (rI (zi x) M)) (hno : (∀ k, k < K + n → run p d (k + 1) < r) → Q (k33 M (zi r) b (zi (run p d (K + n) : Nat)) (zi ((d + (K + n) : Nat))))) : Q (F_X1_firstRow_27_81 k33 FUEL M (zi r) b (zi (run p d K : Nat)) (zi n) (zi ((d + K : Nat))) X (zi (run p d K : Nat)) (zi 0) (zi 0)) := by
  have hX2 : ∀ i, i < n → lb X i = p (d + K + i) := fun i hi => by rw [hX i (by omega), decide_eq_true hi, Bool.and_true]
  have hX3 : ∀ i, n ≤ i → lb X i = false := fun i hi => by
    by_cases q : i < 64
    · rw [hX i q, decide_eq_false (by omega), Bool.and_false]
    · exact BitVec.getLsbD_of_ge _ _ (by omega)
  refine loopS (σ := Nat × Nat × Nat × Nat) (fun f s => F_X1_firstRow_27_81 k33 f M (zi r) b (zi (s.1 : Nat)) (zi n) (zi ((d + K : Nat))) X (zi (s.2.1 : Nat)) (zi (s.2.2.1 : Nat)) (zi (s.2.2.2 : Nat))) Q (fun q s => q = 200 - s.2.2.2 ∧ s.2.2.2 ≤ s.2.2.1 ∧ s.2.2.1 ≤ 128 ∧ s.1 < r ∧ ((s.2.2.1 < n ∧ s.2.1 = run p d (K + s.2.2.1) ∧ s.2.1 < r ∧ ∀ k, k < K + s.2.2.1 → run p d (k + 1) < r) ∨ (n ≤ s.2.2.1 ∧ s.1 = run p d (K + n) ∧ ∀ k, k < K + n → run p d (k + 1) < r))) ?_ 200 (run p d K, run p d K, 0, 0) FUEL ?_ (FUEL_gt (by omega))
  · rintro f q ⟨c4, c9, c10, c11⟩ ⟨i1, i2, i3, i4, i5⟩
    simp only at i1 i2 i3 i4 i5
    have e64 : (64 ≤ zi (c11 : Nat)) = (64 ≤ c11) := by rw [show (64 : Int32) = zi 64 from rfl, zi_le (by omega) (by omega)]; exact propext ⟨fun h => by omega, fun h => by omega⟩
    have en : (zi (n : Nat) ≤ zi (c10 : Nat)) = (n ≤ c10) := by rw [zi_le (by omega) (by omega)]; exact propext ⟨fun h => by omega, fun h => by omega⟩
    have eend : F_X1_firstRow_27_177 k33 M (zi r) b (zi (c4 : Nat)) (zi n) (zi ((d + K : Nat))) = k33 M (zi r) b (zi (c4 : Nat)) (zi ((d + (K + n) : Nat))) := by
      unfold F_X1_firstRow_27_177
      rw [mx1 hn.1 hn.2, cI_s, lt_z, zi_add, zc (show ((d + K : Nat) : Int) + (n : Int) = ((d + (K + n) : Nat) : Int) by omega)]
    show Q (F_X1_firstRow_27_81 k33 (f + 1) M (zi r) b (zi (c4 : Nat)) (zi n) (zi ((d + K : Nat))) X (zi (c9 : Nat)) (zi (c10 : Nat)) (zi (c11 : Nat))) ∨ _
    rcases i5 with ⟨j1, j2, j3, j4⟩ | ⟨j1, j2, j3⟩
    · have l1 := lowest_s (M := M) ((((X.toUInt64 >>> ((zi (c10 : Nat)).toInt64.toUInt64 &&& Int64.toUInt64 63)).toInt64) ^^^ (-1 : Int64)))
      have hb1 : ∀ i, i < 64 → lb ((((X.toUInt64 >>> ((zi (c10 : Nat)).toInt64.toUInt64 &&& Int64.toUInt64 63)).toInt64) ^^^ (-1 : Int64))) i = !lb X (c10 + i) := fun i hi => by rw [lb_not _ hi, lb_shr X (by omega) hi]
      have f1 := fa_first_le (lb ((((X.toUInt64 >>> ((zi (c10 : Nat)).toInt64.toUInt64 &&& Int64.toUInt64 63)).toInt64) ^^^ (-1 : Int64)))) 64
      have f2 := fa_first_no (lb ((((X.toUInt64 >>> ((zi (c10 : Nat)).toInt64.toUInt64 &&& Int64.toUInt64 63)).toInt64) ^^^ (-1 : Int64)))) 64
      have f3 := fa_first_yes (lb ((((X.toUInt64 >>> ((zi (c10 : Nat)).toInt64.toUInt64 &&& Int64.toUInt64 63)).toInt64) ^^^ (-1 : Int64)))) 64
      rw [F_X1_firstRow_27_81, if_neg (fun h => absurd (e64 ▸ h) (by omega)), if_neg (fun h => absurd (en ▸ h) (by omega)), l1, cI_s]
      generalize ((((X.toUInt64 >>> ((zi (c10 : Nat)).toInt64.toUInt64 &&& Int64.toUInt64 63)).toInt64) ^^^ (-1 : Int64))) = Y at hb1 f1 f2 f3
      generalize fa_first (lb Y) 64 = v at f1 f2 f3
      have o1 : ∀ i, i < v → lb X (c10 + i) = true := fun i hi => by
        have := f2 i hi
        rw [hb1 i (by omega)] at this
        cases h : lb X (c10 + i)
        · rw [h] at this; exact absurd this (by decide)
        · rfl
      have o2 : c10 + v ≤ n := by
        rcases Nat.lt_or_ge n (c10 + v) with u | u
        · have := o1 (n - c10) (by omega)
          rw [hX3 _ (by omega)] at this
          exact absurd this (by decide)
        · exact u
      have o3 : c10 + v < n → lb X (c10 + v) = false := fun h => by
        have := f3 (by omega)
        rw [hb1 v (by omega)] at this
        cases h9 : lb X (c10 + v)
        · rfl
        · rw [h9] at this; exact absurd this (by decide)
      have o4 : ∀ i, i < v → p (d + (K + c10) + i) = true := fun i hi => by
        rw [show d + (K + c10) + i = d + K + (c10 + i) by omega, ← hX2 _ (by omega)]
        exact o1 i hi
      have o5 : ∀ u, u ≤ v → run p d (K + c10 + u) = c9 + u := fun u hu => by rw [run_ones u (fun i hi => o4 i (by omega)), j2]
      have o6 : ∀ m, m ≤ v → c9 + m < r → ∀ k, k < K + c10 + m → run p d (k + 1) < r := fun m hm hm2 k hk => by
        by_cases q : k < K + c10
        · exact j4 k q
        · have := o5 (k + 1 - (K + c10)) (by omega)
          rw [show K + c10 + (k + 1 - (K + c10)) = k + 1 by omega] at this
          omega
      have h168 : ∀ x y, F_X1_firstRow_27_168 k33 (F_X1_firstRow_27_81 k33 f) M (zi r) b x (zi n) (zi ((d + K : Nat))) X y (zi (c11 : Nat)) = F_X1_firstRow_27_81 k33 f M (zi r) b x (zi n) (zi ((d + K : Nat))) X (zi ((0 : Nat))) y (zi ((c11 + 1 : Nat))) := fun x y => by
        unfold F_X1_firstRow_27_168
        rw [lt_z, show (1 : Int32) = zi 1 from rfl, zi_add, zc (show (c11 : Int) + 1 = ((c11 + 1 : Nat) : Int) by omega)]
        rfl
      rw [zi_add, zi_add, zc (show (c9 : Int) + (v : Int) = ((c9 + v : Nat) : Int) by omega), zc (show (c10 : Int) + (v : Int) = ((c10 + v : Nat) : Int) by omega)]
      by_cases q2 : c9 + v < r
      · rw [if_pos (by rw [zi_lt (by omega) (by omega)]; omega), lt_z, lt_z]
        by_cases q3 : n ≤ c10 + v
        · right
          refine ⟨200 - (c11 + 1), (c9 + v, 0, c10 + v, c11 + 1), by omega, ⟨rfl, by show c11 + 1 ≤ c10 + v; omega, by show c10 + v ≤ 128; omega, q2, Or.inr ⟨q3, ?_, fun k hk => o6 v (Nat.le_refl v) q2 k (by omega)⟩⟩, ?_⟩
          · show c9 + v = run p d (K + n)
            rw [← o5 v (Nat.le_refl v), show K + c10 + v = K + n by omega]
          · rw [if_pos (by rw [zi_le (by omega) (by omega)]; omega)]
            exact h168 _ _
        · have l2 := lowest_s (M := M) ((X.toUInt64 >>> ((zi ((c10 + v : Nat))).toInt64.toUInt64 &&& Int64.toUInt64 63)).toInt64)
          have hb2 : ∀ i, i < 64 → lb ((X.toUInt64 >>> ((zi ((c10 + v : Nat))).toInt64.toUInt64 &&& Int64.toUInt64 63)).toInt64) i = lb X (c10 + v + i) := fun i hi => by rw [lb_shr X (by omega) hi]
          have g1 := fa_first_le (lb ((X.toUInt64 >>> ((zi ((c10 + v : Nat))).toInt64.toUInt64 &&& Int64.toUInt64 63)).toInt64)) 64
          have g2 := fa_first_no (lb ((X.toUInt64 >>> ((zi ((c10 + v : Nat))).toInt64.toUInt64 &&& Int64.toUInt64 63)).toInt64)) 64
          have g3 := fa_first_yes (lb ((X.toUInt64 >>> ((zi ((c10 + v : Nat))).toInt64.toUInt64 &&& Int64.toUInt64 63)).toInt64)) 64
          rw [if_neg (by rw [zi_le (by omega) (by omega)]; omega), l2, cI_s]
          generalize ((X.toUInt64 >>> ((zi ((c10 + v : Nat))).toInt64.toUInt64 &&& Int64.toUInt64 63)).toInt64) = Z at hb2 g1 g2 g3
          generalize fa_first (lb Z) 64 = z at g1 g2 g3
          have hz : 1 ≤ z := by
            rcases Nat.eq_zero_or_pos z with e | e
            · have := g3 (by omega)
              rw [hb2 z (by omega), e, Nat.add_zero, o3 (by omega)] at this
              exact absurd this (by decide)
            · exact e
          have zz : ∀ k, K + c10 + v ≤ k → k < K + n → k < K + c10 + v + z → run p d (k + 1) = 0 := fun k h1 h2 h3 => by
            refine run_zero ?_
            have := g2 (k - (K + c10 + v)) (by omega)
            rw [hb2 _ (by omega), hX2 _ (by omega), show d + K + (c10 + v + (k - (K + c10 + v))) = d + k by omega] at this
            exact this
          have zb : ∀ k, k < K + n → k < K + c10 + v + z → run p d (k + 1) < r := fun k h2 h3 => by
            by_cases q : k < K + c10 + v
            · exact o6 v (Nat.le_refl v) q2 k q
            · rw [zz k (by omega) h2 h3]; omega
          right
          refine ⟨200 - (c11 + 1), (0, 0, c10 + v + z, c11 + 1), by omega, ⟨rfl, by show c11 + 1 ≤ c10 + v + z; omega, by show c10 + v + z ≤ 128; omega, by show 0 < r; omega, ?_⟩, ?_⟩
          · by_cases q4 : c10 + v + z < n
            · refine Or.inl ⟨q4, ?_, by show 0 < r; omega, fun k hk => ?_⟩
              · show 0 = run p d (K + (c10 + v + z))
                have := zz (K + c10 + v + z - 1) (by omega) (by omega) (by omega)
                rw [show K + c10 + v + z - 1 + 1 = K + (c10 + v + z) by omega] at this
                exact this.symm
              · have hk2 : k < K + (c10 + v + z) := hk
                exact zb k (by omega) (by omega)
            · refine Or.inr ⟨by show n ≤ c10 + v + z; omega, ?_, fun k hk => zb k hk (by omega)⟩
              show 0 = run p d (K + n)
              have := zz (K + n - 1) (by omega) (by omega) (by omega)
              rw [show K + n - 1 + 1 = K + n by omega] at this
              exact this.symm
          · unfold F_J9_max_7cf53
            rw [show (1 : Int32) = zi 1 from rfl, if_neg (by rw [zi_lt (by omega) (by omega)]; omega), cI_s, lt_z, zi_add, zc (show ((c10 + v : Nat) : Int) + (z : Int) = ((c10 + v + z : Nat) : Int) by omega)]
            exact h168 _ _
      · left
        have hx : RowF p d r ((((d + K : Nat) : Int) + (c10 : Int)) - (c9 : Int)) := by
          refine Or.inl ⟨K + c10 + (r - c9) - 1, by omega, ?_, ?_, by omega⟩
          · have := o5 (r - c9) (by omega)
            rw [show K + c10 + (r - c9) - 1 + 1 = K + c10 + (r - c9) by omega]
            omega
          · intro j hj
            exact o6 (r - c9 - 1) (by omega) (by omega) j (by omega)
        rw [if_neg (by rw [zi_lt (by omega) (by omega)]; omega), zi_add, zi_sub]
        exact hyes _ hx
    · left
      have fin : Q (k33 M (zi r) b (zi (c4 : Nat)) (zi ((d + (K + n) : Nat)))) := by rw [j2]; exact hno j3
      rw [← eend] at fin
      rw [F_X1_firstRow_27_81]
      by_cases q1 : 64 ≤ c11
      · rw [if_pos (e64 ▸ q1)]; exact fin
      · rw [if_neg (fun h => q1 (e64 ▸ h)), if_pos (en ▸ j1)]; exact fin
  · have hr0 : run p d K < r := by
      match K with
      | 0 => show 0 < r; omega
      | k + 1 => exact h0 k (by omega)
    exact ⟨rfl, Nat.le_refl _, Nat.zero_le _, hr0, Or.inl ⟨by show 0 < n; omega, rfl, hr0, fun k hk => h0 k hk⟩⟩
