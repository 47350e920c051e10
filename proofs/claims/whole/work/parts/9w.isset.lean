/-! weeks: the class's search -/
def KpC (M M' : PM) : Prop := M'.1 = M.1 ∧ Sam0 M M' ∧ ∀ i, mA M' 96 i = mA M 96 i
theorem KpC.tr {M M1 M2 : PM} (h : KpC M M1) (g : KpC M1 M2) : KpC M M2 := ⟨g.1.trans h.1, h.2.1.tr g.2.1, fun i => (g.2.2 i).trans (h.2.2 i)⟩
theorem KpC.rf {M : PM} : KpC M M := ⟨rfl, Sam0.rf, fun _ => rfl⟩
theorem KpC.a {M M1 : PM} {q k : Nat} {x : Int32} (hq : kAl.contains q = false) (hq2 : 96 ≠ q) (h : KpC M M1) : KpC M (sA M1 q k x) := ⟨h.1, h.2.1.tr (Sam.a q k x hq Sam.rf).1, fun i => (congrFun (rA_ne hq2 : (sA M1 q k x).2.2.1 96 = M1.2.2.1 96) i).trans (h.2.2 i)⟩
theorem lcW_le {W : Nat → Nat} {m : Nat} (hW : ∀ i, i < m → 1 ≤ W i ∧ W i ≤ 24) : ∀ k, k ≤ m → 0 < lcW W k ∧ lcW W k ≤ 24 ^ k
  | 0, _ => ⟨Nat.one_pos, Nat.le_refl _⟩
  | k + 1, hk => by
    obtain ⟨h1, h2⟩ := lcW_le hW k (by omega)
    have hw := hW k (by omega)
    show 0 < Nat.lcm (lcW W k) (W k) ∧ Nat.lcm (lcW W k) (W k) ≤ 24 ^ (k + 1)
    refine ⟨Nat.lcm_pos h1 hw.1, Nat.le_trans (Nat.le_of_dvd (Nat.mul_pos h1 hw.1) (Nat.lcm_dvd_mul _ _)) ?_⟩
    rw [Nat.pow_succ]
    exact Nat.mul_le_mul h2 hw.2
theorem isSet_s {W : Nat → Nat} {n m : Nat} (hm6 : m ≤ 6) (hn : n ≤ 6) (hW0 : ∀ i, i < m → 1 ≤ W i ∧ W i ≤ 24) : ∀ g k (M : PM) (d : Nat → Nat), k ≤ m → m - k < g → mI M 95 3 = zi m → (∀ i, i < m → mA M 96 i = zi (W i)) → (∀ i, i < k → mA M 97 i = zi (d i) ∧ d i < 100 ∧ mA M 98 i = zi (mtN W d i)) → ∃ M', KpC M M' ∧ ((G_isSet g 0 M (zi k) (zi n) (zi (lcW W k)) = rI (zi 1) M' ∧ ∃ d', (∀ i, i < k → d' i = d i) ∧ LX (fun d k => loC W d k k) (hiC W) (okk W n) m k d' ∧ ∀ i, i < m → mA M' 97 i = zi (d' i)) ∨ (G_isSet g 0 M (zi k) (zi n) (zi (lcW W k)) = rI (zi 0) M' ∧ (∀ i, i < k → mA M' 97 i = zi (d i) ∧ mA M' 98 i = zi (mtN W d i)) ∧ ∀ e, (∀ i, i < k → e i = d i) → ¬ GdR (fun d k => loC W d k k) (hiC W) (okk W n) m e k))
  | 0, k, M, d, _, h, _, _, _ => absurd h (Nat.not_lt_zero _)
  | g + 1, k, M, d, hk, hg, hm, hW, hd => by
    show ∃ M', KpC M M' ∧ ((F_X6_isSet_95 (G_isSet g) M (zi k) (zi n) (zi (lcW W k)) = rI (zi 1) M' ∧ _) ∨ (F_X6_isSet_95 (G_isSet g) M (zi k) (zi n) (zi (lcW W k)) = rI (zi 0) M' ∧ _))
    unfold F_X6_isSet_95
    rw [hm]
    by_cases q0 : k = m
    · subst q0
      refine ⟨M, KpC.rf, Or.inl ⟨by rw [if_pos (by rw [zi_le (by omega) (by omega)]; omega), if_pos (by decide)]; rfl, d, fun _ _ => rfl, ⟨fun j j1 j2 => by omega, fun e _ _ j j1 j2 => by omega⟩, fun i hi => (hd i hi).1⟩⟩
    have hkm : k < m := by omega
    obtain ⟨k2, k3⟩ := hW0 k hkm
    have k1 := hW k hkm
    have hl6 : ∀ t, t ≤ m → lcW W t ≤ 24 ^ 6 := fun t ht => Nat.le_trans (lcW_le hW0 t ht).2 (Nat.pow_le_pow_right (by decide) (by omega))
    have hl1 := hl6 k (by omega)
    have hl2 := hl6 (k + 1) (by omega)
    have hlp := (lcW_le hW0 k (by omega)).1
    rw [show (24 : Nat) ^ 6 = 191102976 from rfl] at hl1 hl2
    have hcp : 0 < hiC W k := Nat.gcd_pos_of_pos_right _ (by omega)
    have hcl : hiC W k ≤ 24 := Nat.le_trans (Nat.le_of_dvd (by omega) (Nat.gcd_dvd_right _ _)) k3
    have ewh : ((lcW W (k + 1) : Nat) : Int) = (lcW W k : Int) / (hiC W k : Int) * (W k : Int) := by
      show ((Nat.lcm (lcW W k) (W k) : Nat) : Int) = _
      rw [← lcm_eq (show 0 < W k by omega), Int.natCast_mul, Int.natCast_ediv]
      rfl
    have hld := loC_s (M := M) (W := W) (d := d) (k := k) (by omega) (fun i hi => ⟨hW i (by omega), (hW0 i (by omega)).2⟩) (fun i hi => (hd i hi).1)
    have hlo : loC W d k k < 100 := by
      rcases loC_at (W := W) (d := d) (k := k) (i := k) with u | ⟨a, a1, a2, a3⟩
      · omega
      · rw [a3]; exact (hd a a1).2.1
    have ecd : F_X10_commonDivisor M (zi (lcW W k)) (zi (W k)) = rI (zi (hiC W k)) M := commonDivisor_s (by omega) (by omega)
    rw [if_neg (by rw [zi_le (by omega) (by omega)]; omega), if_pos (by rw [show (6 : Int32) = zi 6 from rfl, zi_lt (by omega) (by omega)]; omega), if_pos (zi_ixT (by omega) (by omega)), zi_natN (by omega), k1, ecd, cI_s, if_pos (by rw [show (1 : Int32) = zi 1 from rfl, zi_le (by omega) (by omega)]; omega), if_neg (by rw [show (0 : Int32) = zi 0 from rfl, zi_eq (by omega) (by omega)]; omega), if_pos (zi_ixT (by omega) (by omega)), k1, zi_div (by omega) (by omega), zi_mul, ← ewh]
    unfold F_X6_isSet_95_49
    rw [hld, cI_s]
    refine loopS (σ := PM × Nat) (fun f q => F_X6_isSet_95_58 (G_isSet g) f q.1 (zi k) (zi n) (zi (hiC W k)) (zi (lcW W (k + 1))) (zi (q.2 : Nat))) (fun o => ∃ M', KpC M M' ∧ ((o = rI (zi 1) M' ∧ ∃ d', (∀ i, i < k → d' i = d i) ∧ LX (fun d k => loC W d k k) (hiC W) (okk W n) m k d' ∧ ∀ i, i < m → mA M' 97 i = zi (d' i)) ∨ (o = rI (zi 0) M' ∧ (∀ i, i < k → mA M' 97 i = zi (d i) ∧ mA M' 98 i = zi (mtN W d i)) ∧ ∀ e, (∀ i, i < k → e i = d i) → ¬ GdR (fun d k => loC W d k k) (hiC W) (okk W n) m e k))) (fun r q => r = 200 - q.2 ∧ loC W d k k ≤ q.2 ∧ q.2 ≤ 150 ∧ KpC M q.1 ∧ (∀ i, i < k → mA q.1 97 i = zi (d i) ∧ mA q.1 98 i = zi (mtN W d i)) ∧ ∀ e, (∀ i, i < k → e i = d i) → GdR (fun d k => loC W d k k) (hiC W) (okk W n) m e k → q.2 ≤ e k) ?_ (200 - loC W d k k) (M, loC W d k k) FUEL ⟨rfl, Nat.le_refl _, by show loC W d k k ≤ 150; omega, KpC.rf, fun i hi => ⟨(hd i hi).1, (hd i hi).2.2⟩, fun e e1 e2 => by
      have := (e2 k (Nat.le_refl _) hkm).1
      show loC W d k k ≤ e k
      rw [loC_cong (W := W) (k := k) (d := d) (e := e) (fun t ht => (e1 t ht).symm)]
      exact this⟩ (FUEL_gt (by omega))
    rintro f r ⟨M1, v⟩ ⟨i1, i0, i2, i3, i4, i5⟩
    simp only at i1 i0 i2 i3 i4 i5
    show (∃ M', KpC M M' ∧ ((F_X6_isSet_95_58 (G_isSet g) (f + 1) M1 (zi k) (zi n) (zi (hiC W k)) (zi (lcW W (k + 1))) (zi (v : Nat)) = rI (zi 1) M' ∧ _) ∨ (F_X6_isSet_95_58 (G_isSet g) (f + 1) M1 (zi k) (zi n) (zi (hiC W k)) (zi (lcW W (k + 1))) (zi (v : Nat)) = rI (zi 0) M' ∧ _))) ∨ ∃ r' s', r' < r ∧ _ ∧ F_X6_isSet_95_58 (G_isSet g) (f + 1) M1 (zi k) (zi n) (zi (hiC W k)) (zi (lcW W (k + 1))) (zi (v : Nat)) = _
    rw [F_X6_isSet_95_58]
    unfold F_X6_isSet_95_97
    by_cases q1 : hiC W k ≤ v
    · left
      refine ⟨M1, i3, Or.inr ⟨?_, i4, fun e e1 e2 => ?_⟩⟩
      · rw [if_pos (by rw [zi_le (by omega) (by omega)]; omega), if_pos (by decide)]
        rfl
      · have := i5 e e1 e2
        have := (e2 k (Nat.le_refl _) hkm).2.1
        omega
    have hv : v < hiC W k := by omega
    let dv : Nat → Nat := fun i => if i = k then v else d i
    have dvk : dv k = v := by show (if k = k then v else d k) = v; rw [if_pos rfl]
    have dvi : ∀ i, i < k → dv i = d i := fun i hi => by show (if i = k then v else d i) = d i; rw [if_neg (by omega)]
    have i30 : KpC M (sA M1 97 k (zi v)) := i3.a (by decide) (by decide)
    have m97 : ∀ i, i ≤ k → mA (sA M1 97 k (zi v)) 97 i = zi (dv i) ∧ dv i < 100 := fun i hi => by
      by_cases q : i = k
      · rw [q, dvk]
        exact ⟨rA_at, by omega⟩
      · rw [dvi i (by omega)]
        exact ⟨(rA_nk q).trans (i4 i (by omega)).1, (hd i (by omega)).2.1⟩
    have m98 : ∀ i, i < k → mA (sA M1 97 k (zi v)) 98 i = zi (mtN W dv i) := fun i hi => by
      rw [mtN_cong (e := d) (fun t ht => dvi t (by omega))]
      exact (congrFun (rA_ne (by decide) : (sA M1 97 k (zi v)).2.2.1 98 = M1.2.2.1 98) i).trans (i4 i hi).2
    obtain ⟨b, c1, c2⟩ := tooMany_s (M := sA M1 97 k (zi v)) (W := W) (d := dv) (n := n) (k := k) (by omega) hn (fun i hi => ⟨(i30.2.2 i).trans (hW i (by omega)), hW0 i (by omega)⟩) m97 m98
    have i31 : KpC M (sA (sA M1 97 k (zi v)) 98 k (zi (mtN W dv k))) := i30.a (by decide) (by decide)
    have a97 : ∀ i, i ≤ k → mA (sA (sA M1 97 k (zi v)) 98 k (zi (mtN W dv k))) 97 i = zi (dv i) := fun i hi => (congrFun (rA_ne (by decide) : (sA (sA M1 97 k (zi v)) 98 k (zi (mtN W dv k))).2.2.1 97 = (sA M1 97 k (zi v)).2.2.1 97) i).trans (m97 i hi).1
    have a98 : ∀ i, i ≤ k → mA (sA (sA M1 97 k (zi v)) 98 k (zi (mtN W dv k))) 98 i = zi (mtN W dv i) := fun i hi => by
      by_cases q : i = k
      · rw [q]; exact rA_at
      · exact (rA_nk q).trans (m98 i (by omega))
    rw [if_neg (by rw [zi_le (by omega) (by omega)]; omega), if_pos (zi_ixT (by omega) (by omega)), zi_natN (by omega), c1, cI_s]
    generalize sA (sA M1 97 k (zi v)) 98 k (zi (mtN W dv k)) = M3 at *
    have mdv : ∀ i, i < k → mtN W dv i = mtN W d i := fun i hi => mtN_cong (fun t ht => dvi t (by omega))
    have next : ∀ M2, KpC M M2 → (∀ i, i < k → mA M2 97 i = zi (d i) ∧ mA M2 98 i = zi (mtN W d i)) → (∀ e, (∀ i, i < k → e i = d i) → e k = v → ¬ GdR (fun d k => loC W d k k) (hiC W) (okk W n) m e k) → ∃ r' s', r' < r ∧ (fun r (q : PM × Nat) => r = 200 - q.2 ∧ loC W d k k ≤ q.2 ∧ q.2 ≤ 150 ∧ KpC M q.1 ∧ (∀ i, i < k → mA q.1 97 i = zi (d i) ∧ mA q.1 98 i = zi (mtN W d i)) ∧ ∀ e, (∀ i, i < k → e i = d i) → GdR (fun d k => loC W d k k) (hiC W) (okk W n) m e k → q.2 ≤ e k) r' s' ∧ (lt (zi (v : Nat) + 1) fun y606 => F_X6_isSet_95_58 (G_isSet g) f M2 (zi k) (zi n) (zi (hiC W k)) (zi (lcW W (k + 1))) y606) = (fun f (q : PM × Nat) => F_X6_isSet_95_58 (G_isSet g) f q.1 (zi k) (zi n) (zi (hiC W k)) (zi (lcW W (k + 1))) (zi (q.2 : Nat))) f s' := fun M2 k1 k2 k3 => by
      refine ⟨200 - (v + 1), (M2, v + 1), by omega, ⟨rfl, by show loC W d k k ≤ v + 1; omega, by show v + 1 ≤ 150; omega, k1, k2, fun e e1 e2 => ?_⟩, ?_⟩
      · show v + 1 ≤ e k
        have := i5 e e1 e2
        by_cases q : e k = v
        · exact absurd e2 (k3 e e1 q)
        · omega
      · rw [show (1 : Int32) = zi 1 from rfl, zi_add, lt_z, zc (show (v : Int) + 1 = ((v + 1 : Nat) : Int) by omega)]
    have eqv : ∀ e : Nat → Nat, (∀ i, i < k → e i = d i) → e k = v → ∀ i, i ≤ k → e i = dv i := fun e e1 e2 i hi => by
      by_cases q : i = k
      · rw [q, dvk]; exact e2
      · rw [dvi i (by omega)]; exact e1 i (by omega)
    cases b with
    | true =>
      right
      have hno : ¬ okk W n dv k := c2.mp rfl
      rw [if_neg (by decide)]
      exact next _ i31 (fun i hi => ⟨by rw [a97 i (by omega), dvi i hi], by rw [a98 i (by omega), mdv i hi]⟩) (fun e e1 e2 e3 => hno (okk_cong (eqv e e1 e2) (e3 k (Nat.le_refl _) hkm).2.2))
    | false =>
      have hok : okk W n dv k := by
        refine Classical.byContradiction (fun h => ?_)
        have := c2.mpr h
        exact absurd this (by decide)
      obtain ⟨M2, p1, p2⟩ := isSet_s hm6 hn hW0 g (k + 1) M3 dv (by omega) (by omega) (by rw [mI, i31.1]; exact hm) (fun i hi => (i31.2.2 i).trans (hW i hi)) (fun i hi => ⟨a97 i (by omega), (m97 i (by omega)).2, a98 i (by omega)⟩)
      have erc : zi (k : Int) + 1 = zi ((k + 1 : Nat)) := by rw [show (1 : Int32) = zi 1 from rfl, zi_add]; rfl
      rw [if_pos (by decide), erc]
      rcases p2 with ⟨r1, d', r2, r3, r4⟩ | ⟨r1, r2, r3⟩
      · left
        refine ⟨M2, i31.tr p1, Or.inl ⟨?_, d', fun i hi => by rw [r2 i (by omega), dvi i hi], LX_step ⟨?_, ?_, ?_⟩ (fun e e1 e2 => ?_) r3, r4⟩⟩
        · rw [r1, cI_s, if_neg (by decide), if_pos (by decide)]
          rfl
        · show loC W d' k k ≤ d' k
          rw [r2 k (by omega), dvk, loC_cong (W := W) (k := k) (d := d') (e := d) (fun t ht => by rw [r2 t (by omega), dvi t ht])]
          exact i0
        · rw [r2 k (by omega), dvk]; exact hv
        · exact okk_cong (fun i hi => (r2 i (by omega)).symm) hok
        · rw [r2 k (by omega), dvk]
          exact i5 e (fun i hi => by rw [e1 i hi, r2 i (by omega), dvi i hi]) e2
      · right
        rw [r1, cI_s, if_pos (by decide)]
        exact next M2 (i31.tr p1) (fun i hi => ⟨by rw [(r2 i (by omega)).1, dvi i hi], by rw [(r2 i (by omega)).2, mdv i hi]⟩) (fun e e1 e2 e3 => r3 e (fun i hi => eqv e e1 e2 i (by omega)) (fun j j1 j2 => e3 j (by omega) j2))
