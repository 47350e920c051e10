/-! weeks: a search by places -/
theorem LX_step {lo : (Nat → Nat) → Nat → Nat} {hi : Nat → Nat} {ok : (Nat → Nat) → Nat → Prop} {m k : Nat} {d : Nat → Nat} (h1 : lo d k ≤ d k ∧ d k < hi k ∧ ok d k) (hmin : ∀ e, (∀ i, i < k → e i = d i) → GdR lo hi ok m e k → d k ≤ e k) (hrec : LX lo hi ok m (k + 1) d) : LX lo hi ok m k d := by
  refine ⟨fun j j1 j2 => ?_, fun e e1 e2 j j1 j2 j3 => ?_⟩
  · by_cases q : j = k
    · rw [q]; exact h1
    · exact hrec.1 j (by omega) j2
  · by_cases q : j = k
    · rw [q]; exact hmin e e1 e2
    · exact hrec.2 e (fun i hi => j3 i (by omega)) (fun t t1 t2 => e2 t (by omega) t2) j (by omega) j2 j3
def KpM (M M' : PM) : Prop := M'.1 = M.1 ∧ Sam M M' ∧ ∀ i, mA M' 124 i = mA M 124 i
theorem KpM.tr {M M1 M2 : PM} (h : KpM M M1) (g : KpM M1 M2) : KpM M M2 := ⟨g.1.trans h.1, h.2.1.tr g.2.1, fun i => (g.2.2 i).trans (h.2.2 i)⟩
theorem KpM.rf {M : PM} : KpM M M := ⟨rfl, Sam.rf, fun _ => rfl⟩
theorem KpM.a {M M1 : PM} {k : Nat} {x : Int32} (h : KpM M M1) : KpM M (sA M1 125 k x) := ⟨h.1, Sam.a 125 k x (by decide) h.2.1, fun i => (congrFun (rA_ne (by decide) : (sA M1 125 k x).2.2.1 124 = M1.2.2.1 124) i).trans (h.2.2 i)⟩
theorem lays15 {M : PM} {W : Nat → Nat} {n m k : Nat} {rc : Nat → PM → Int32 → Int32 → Option PR} (hm : mI M 99 44 = zi m) (hm6 : m ≤ 6) (hk : k < m) (hW : ∀ i, i < m → mA M 124 i = zi (W i) ∧ 1 ≤ W i ∧ W i ≤ 24) : F_X11_lays_99_15 rc FUEL M (zi k) (zi n) (zi 1) (zi 0) = F_X11_lays_99_64 rc FUEL M (zi k) (zi n) (zi (bR W m k)) (zi 0) := by
  obtain ⟨k1, k2, k3⟩ := hW k hk
  refine loopU m (fun f j => F_X11_lays_99_15 rc f M (zi k) (zi n) (zi (lcs 1 (fun j => decide (j ≠ k)) (fun j => Nat.gcd (W j) (W k)) j : Nat)) (zi (j : Nat))) _ (fun f => ?_) (fun f j hj => ?_) 0 FUEL (Nat.zero_le _) (FUEL_gt (by omega))
  · rw [F_X11_lays_99_15, hm, if_pos (by rw [zi_le (by omega) (by omega)]; omega)]
    rfl
  · obtain ⟨j1, j2, j3⟩ := hW j hj
    rw [F_X11_lays_99_15, hm, if_neg (by rw [zi_le (by omega) (by omega)]; omega), lcs]
    unfold F_X11_lays_99_54
    rw [show (1 : Int32) = zi 1 from rfl, zi_add, lt_z, zc (show (j : Int) + 1 = ((j + 1 : Nat) : Int) by omega)]
    by_cases q : j = k
    · subst q
      rw [if_pos rfl, if_neg (show ¬ decide (j ≠ j) = true by rw [decide_eq_true_eq]; exact fun h => h rfl)]
    · have hl : ∀ t, t ≤ m → lcs 1 (fun j => decide (j ≠ k)) (fun j => Nat.gcd (W j) (W k)) t ≤ 24 := fun t _ => Nat.le_trans (Nat.le_of_dvd (by omega) (lcs_dvd (B := W k) (Nat.one_dvd _) (fun j _ _ => Nat.gcd_dvd_right _ _))) k3
      have l1 := hl j (by omega)
      have l2 := hl (j + 1) (by omega)
      rw [lcs, if_pos (decide_eq_true q)] at l2
      have hg := Nat.gcd_pos_of_pos_right (W j) (show 0 < W k by omega)
      have hg2 : Nat.gcd (W j) (W k) ≤ 24 := Nat.le_trans (Nat.le_of_dvd (by omega) (Nat.gcd_dvd_right (W j) (W k))) k3
      rw [if_neg (by rw [zi_eq (by omega) (by omega)]; omega), if_pos (zi_ixT (by omega) (by omega)), if_pos (zi_ixT (by omega) (by omega)), zi_natN (by omega), zi_natN (by omega), j1, k1, common_s (by omega) (by omega), cI_s, both_s (by omega) (by omega) (by omega), cI_s, if_pos (decide_eq_true q), lt_z]
theorem lays_s {W : Nat → Nat} {n m : Nat} (hm6 : m ≤ 6) (hn : n ≤ 6) : ∀ g k (M : PM) (d : Nat → Nat), k ≤ m → m - k < g → mI M 99 44 = zi m → (∀ i, i < m → mA M 124 i = zi (W i) ∧ 1 ≤ W i ∧ W i ≤ 24) → (∀ i, i < k → mA M 125 i = zi (d i) ∧ d i < 100) → ∃ M', KpM M M' ∧ ((G_lays g 0 M (zi k) (zi n) = rI (zi 1) M' ∧ ∃ d', (∀ i, i < k → d' i = d i) ∧ LX lo0 (hiR W m) (okk W n) m k d' ∧ ∀ i, i < m → mA M' 125 i = zi (d' i)) ∨ (G_lays g 0 M (zi k) (zi n) = rI (zi 0) M' ∧ (∀ i, i < k → mA M' 125 i = zi (d i)) ∧ ∀ e, (∀ i, i < k → e i = d i) → ¬ GdR lo0 (hiR W m) (okk W n) m e k))
  | 0, k, M, d, _, h, _, _, _ => absurd h (Nat.not_lt_zero _)
  | g + 1, k, M, d, hk, hg, hm, hW, hd => by
    show ∃ M', KpM M M' ∧ ((F_X11_lays_99 (G_lays g) M (zi k) (zi n) = rI (zi 1) M' ∧ _) ∨ (F_X11_lays_99 (G_lays g) M (zi k) (zi n) = rI (zi 0) M' ∧ _))
    unfold F_X11_lays_99
    rw [hm]
    by_cases q0 : k = m
    · subst q0
      refine ⟨M, KpM.rf, Or.inl ⟨by rw [if_pos rfl, if_pos (by decide)]; rfl, d, fun _ _ => rfl, ⟨fun j j1 j2 => by omega, fun e _ _ j j1 j2 => by omega⟩, fun i hi => (hd i hi).1⟩⟩
    have hkm : k < m := by omega
    obtain ⟨k1, k2, k3⟩ := hW k hkm
    have hbk : hiR W m k ≤ 24 := by
      unfold hiR
      split
      · decide
      · exact Nat.le_trans (Nat.le_of_dvd (by omega) bR_W) k3
    have hbk0 : bR W m k ≤ 24 := Nat.le_trans (Nat.le_of_dvd (by omega) bR_W) k3
    have l15 := lays15 (n := n) (rc := G_lays g) hm hm6 hkm hW
    rw [if_neg (by rw [zi_eq (by omega) (by omega)]; omega), show (1 : Int32) = zi 1 from rfl, show (0 : Int32) = zi 0 from rfl, l15]
    have loop : ∃ M', KpM M M' ∧ ((F_X11_lays_99_64 (G_lays g) FUEL M (zi k) (zi n) (zi (bR W m k)) (zi ((0 : Nat) : Int)) = rI (zi 1) M' ∧ ∃ d', (∀ i, i < k → d' i = d i) ∧ LX lo0 (hiR W m) (okk W n) m k d' ∧ ∀ i, i < m → mA M' 125 i = zi (d' i)) ∨ (F_X11_lays_99_64 (G_lays g) FUEL M (zi k) (zi n) (zi (bR W m k)) (zi ((0 : Nat) : Int)) = rI (zi 0) M' ∧ (∀ i, i < k → mA M' 125 i = zi (d i)) ∧ ∀ e, (∀ i, i < k → e i = d i) → ¬ GdR lo0 (hiR W m) (okk W n) m e k)) := by
      refine loopS (σ := PM × Nat) (fun f q => F_X11_lays_99_64 (G_lays g) f q.1 (zi k) (zi n) (zi (bR W m k)) (zi (q.2 : Nat))) (fun o => ∃ M', KpM M M' ∧ ((o = rI (zi 1) M' ∧ ∃ d', (∀ i, i < k → d' i = d i) ∧ LX lo0 (hiR W m) (okk W n) m k d' ∧ ∀ i, i < m → mA M' 125 i = zi (d' i)) ∨ (o = rI (zi 0) M' ∧ (∀ i, i < k → mA M' 125 i = zi (d i)) ∧ ∀ e, (∀ i, i < k → e i = d i) → ¬ GdR lo0 (hiR W m) (okk W n) m e k))) (fun r q => r = 100 - q.2 ∧ q.2 ≤ hiR W m k ∧ KpM M q.1 ∧ (∀ i, i < k → mA q.1 125 i = zi (d i)) ∧ ∀ e, (∀ i, i < k → e i = d i) → GdR lo0 (hiR W m) (okk W n) m e k → q.2 ≤ e k) ?_ 100 (M, 0) FUEL ⟨rfl, Nat.zero_le _, KpM.rf, fun i hi => (hd i hi).1, fun _ _ _ => Nat.zero_le _⟩ (FUEL_gt (by omega))
      rintro f r ⟨M1, v⟩ ⟨i1, i2, i3, i4, i5⟩
      simp only at i1 i2 i3 i4 i5
      show (∃ M', KpM M M' ∧ ((F_X11_lays_99_64 (G_lays g) (f + 1) M1 (zi k) (zi n) (zi (bR W m k)) (zi (v : Nat)) = rI (zi 1) M' ∧ _) ∨ (F_X11_lays_99_64 (G_lays g) (f + 1) M1 (zi k) (zi n) (zi (bR W m k)) (zi (v : Nat)) = rI (zi 0) M' ∧ _))) ∨ ∃ r' s', r' < r ∧ _ ∧ F_X11_lays_99_64 (G_lays g) (f + 1) M1 (zi k) (zi n) (zi (bR W m k)) (zi (v : Nat)) = _
      have e64 : F_X11_lays_99_64 (G_lays g) (f + 1) M1 (zi k) (zi n) (zi (bR W m k)) (zi (v : Nat)) = F_X11_lays_99_75 (G_lays g) (F_X11_lays_99_64 (G_lays g) f) M1 (zi k) (zi n) (zi (bR W m k)) (zi (v : Nat)) (zi (v : Nat)) (zi (hiR W m k)) := by
        rw [F_X11_lays_99_64]
        unfold hiR
        by_cases q : k = 0
        · rw [if_pos (by rw [q]; rfl), if_pos q]
          rfl
        · rw [if_neg (by rw [show (0 : Int32) = zi 0 from rfl, zi_eq (by omega) (by omega)]; omega), if_neg q]
      rw [e64]
      unfold F_X11_lays_99_75 F_X11_lays_99_112
      by_cases q1 : v = hiR W m k
      · left
        refine ⟨M1, i3, Or.inr ⟨?_, i4, fun e e1 e2 => ?_⟩⟩
        · rw [if_pos (by rw [zi_le (by omega) (by omega)]; omega), if_pos (by decide)]
          rfl
        · have := i5 e e1 e2
          have := (e2 k (Nat.le_refl _) hkm).2.1
          omega
      have hv : v < hiR W m k := by omega
      -- the row with v at place k
      let dv : Nat → Nat := fun i => if i = k then v else d i
      have dvk : dv k = v := by show (if k = k then v else d k) = v; rw [if_pos rfl]
      have dvi : ∀ i, i < k → dv i = d i := fun i hi => by show (if i = k then v else d i) = d i; rw [if_neg (by omega)]
      have i30 : KpM M (sA M1 125 k (zi v)) := i3.a
      have m125 : ∀ i, i < k + 1 → mA (sA M1 125 k (zi v)) 125 i = zi (dv i) ∧ dv i < 100 := fun i hi => by
        by_cases q : i = k
        · rw [q, dvk]
          exact ⟨rA_at, by omega⟩
        · rw [dvi i (by omega)]
          exact ⟨(rA_nk q).trans (i4 i (by omega)), (hd i (by omega)).2⟩
      have hRD : RDm (sA M1 125 k (zi v)) W dv (k + 1) := fun i hi => ⟨⟨(i30.2.2 i).trans (hW i (by omega)).1, (m125 i hi).1⟩, (hW i (by omega)).2, (m125 i hi).2⟩
      have hSOK : SOK W dv k 0 (2 ^ k) := by
        refine ⟨show 2 ^ k < 2 ^ 6 from Nat.pow_lt_pow_right (by decide) (by omega), ?_, fun j _ hne => ?_, fun a b hab hb ha hb2 => ?_⟩
        · rw [Nat.testBit_two_pow, decide_eq_true rfl]
        · rw [Nat.testBit_two_pow, decide_eq_false (by omega)]
        · have ha' : (2 ^ k).testBit a = true := ha
          rw [Nat.testBit_two_pow, decide_eq_true_eq] at ha'
          omega
      obtain ⟨b, c1, c2⟩ := crowd_s hRD (by omega) hn 12 0 (2 ^ k) (Nat.zero_le _) (by omega) hSOK
      have ez : zi 1 <<< (zi (k : Int) &&& 31) = zi ((2 ^ k : Nat)) := zshl k (by omega)
      rw [if_neg (by rw [zi_le (by omega) (by omega)]; omega), if_pos (zi_ixT (by omega) (by omega)), zi_natN (by omega), show (1 : Int32) = zi 1 from rfl, ez]
      have c1' : G_isCrowd 12 0 (sA M1 125 k (zi v)) (zi k) (zi n) 0 (zi ((2 ^ k : Nat))) = rI (bb b) (sA M1 125 k (zi v)) := c1
      rw [c1', cI_s]
      have next : ∀ M2, KpM M M2 → (∀ i, i < k → mA M2 125 i = zi (d i)) → (∀ e, (∀ i, i < k → e i = d i) → e k = v → ¬ GdR lo0 (hiR W m) (okk W n) m e k) → ∃ r' s', r' < r ∧ (fun r (q : PM × Nat) => r = 100 - q.2 ∧ q.2 ≤ hiR W m k ∧ KpM M q.1 ∧ (∀ i, i < k → mA q.1 125 i = zi (d i)) ∧ ∀ e, (∀ i, i < k → e i = d i) → GdR lo0 (hiR W m) (okk W n) m e k → q.2 ≤ e k) r' s' ∧ (lt (zi (v : Nat) + zi 1) fun y1382 => F_X11_lays_99_64 (G_lays g) f M2 (zi k) (zi n) (zi (bR W m k)) y1382) = (fun f (q : PM × Nat) => F_X11_lays_99_64 (G_lays g) f q.1 (zi k) (zi n) (zi (bR W m k)) (zi (q.2 : Nat))) f s' := fun M2 k1 k2 k3 => by
        refine ⟨100 - (v + 1), (M2, v + 1), by omega, ⟨rfl, by show v + 1 ≤ hiR W m k; omega, k1, k2, fun e e1 e2 => ?_⟩, ?_⟩
        · show v + 1 ≤ e k
          have := i5 e e1 e2
          by_cases q : e k = v
          · exact absurd e2 (k3 e e1 q)
          · omega
        · rw [zi_add, lt_z, zc (show (v : Int) + 1 = ((v + 1 : Nat) : Int) by omega)]
      have eqv : ∀ e : Nat → Nat, (∀ i, i < k → e i = d i) → e k = v → ∀ i, i ≤ k → e i = dv i := fun e e1 e2 i hi => by
        by_cases q : i = k
        · rw [q, dvk]; exact e2
        · rw [dvi i (by omega)]; exact e1 i (by omega)
      cases b with
      | true =>
        right
        have hno : ¬ okk W n dv k := XT_okk.mp (c2.mp rfl)
        rw [if_neg (by decide)]
        exact next _ i30 (fun i hi => by rw [(m125 i (by omega)).1, dvi i hi]) (fun e e1 e2 e3 => hno (okk_cong (eqv e e1 e2) (e3 k (Nat.le_refl _) hkm).2.2))
      | false =>
        have hok : okk W n dv k := by
          refine Classical.byContradiction (fun h => ?_)
          have := c2.mpr (XT_okk.mpr h)
          exact absurd this (by decide)
        obtain ⟨M2, p1, p2⟩ := lays_s hm6 hn g (k + 1) (sA M1 125 k (zi v)) dv (by omega) (by omega) (by rw [mI, i30.1]; exact hm) (fun i hi => ⟨(i30.2.2 i).trans (hW i hi).1, (hW i hi).2⟩) m125
        rw [if_pos (by decide), zi_add, zc (show (k : Int) + 1 = ((k + 1 : Nat) : Int) by omega)]
        rcases p2 with ⟨r1, d', r2, r3, r4⟩ | ⟨r1, r2, r3⟩
        · left
          refine ⟨M2, i30.tr p1, Or.inl ⟨?_, d', fun i hi => by rw [r2 i (by omega), dvi i hi], LX_step ⟨Nat.zero_le _, ?_, ?_⟩ (fun e e1 e2 => ?_) r3, r4⟩⟩
          · rw [r1, cI_s, if_neg (by decide), if_pos (by decide)]
          · rw [r2 k (by omega), dvk]; exact hv
          · exact okk_cong (fun i hi => (r2 i (by omega)).symm) hok
          · rw [r2 k (by omega), dvk]
            exact i5 e (fun i hi => by rw [e1 i hi, r2 i (by omega), dvi i hi]) e2
        · right
          rw [r1, cI_s, if_pos (by decide)]
          exact next M2 (i30.tr p1) (fun i hi => by rw [r2 i (by omega), dvi i hi]) (fun e e1 e2 e3 => r3 e (fun i hi => eqv e e1 e2 i (by omega)) (fun j j1 j2 => e3 j (by omega) j2))
    exact loop
