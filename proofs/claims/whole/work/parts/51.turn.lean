/-! cases that change wheels, sights, deeds, works -/
theorem rI_ne {M : PM} {q k a b : Nat} {x : Int32} (h : a ≠ q) : (sI M q k x).1 a b = M.1 a b := u2_ne (fun e => h e.1)
theorem rI_nk {M : PM} {q k a b : Nat} {x : Int32} (h : b ≠ k) : (sI M q k x).1 a b = M.1 a b := u2_ne (fun e => h e.2)
theorem rI_at {M : PM} {q k : Nat} {x : Int32} : (sI M q k x).1 q k = x := u2_eq
theorem rA_ne {M : PM} {q k a : Nat} {x : Int32} (h : a ≠ q) : (sA M q k x).2.2.1 a = M.2.2.1 a := u1_ne h
theorem rA_at {M : PM} {q k : Nat} {x : Int32} : (sA M q k x).2.2.1 q k = x := by rw [rA_sA, if_pos rfl, if_pos rfl]
theorem rA_nk {M : PM} {q k b : Nat} {x : Int32} (h : b ≠ k) : (sA M q k x).2.2.1 q b = M.2.2.1 q b := by rw [rA_sA, if_pos rfl, if_neg h]
theorem rG_ne {M : PM} {q i k a j : Nat} {x : Int32} (h : a ≠ q) : (sG M q i k x).2.2.2.2 a j = M.2.2.2.2 a j := u2_ne (fun e => h e.1)
theorem rG_nr {M : PM} {q i k a j : Nat} {x : Int32} (h : j ≠ i) : (sG M q i k x).2.2.2.2 a j = M.2.2.2.2 a j := u2_ne (fun e => h e.2)
theorem rG_at {M : PM} {q i k : Nat} {x : Int32} : (sG M q i k x).2.2.2.2 q i k = x := by rw [rG_sG, if_pos rfl, if_pos rfl, if_pos rfl]
theorem rG_nk {M : PM} {q i k c : Nat} {x : Int32} (h : c ≠ k) : (sG M q i k x).2.2.2.2 q i c = M.2.2.2.2 q i c := by rw [rG_sG, if_pos rfl, if_pos rfl, if_neg h]
theorem ImgR.im {M M1 : PM} {C : Cal} (c : ImgR M C) (i1 : mI M1 0 5 = mI M 0 5) (i2 : mI M1 99 35 = mI M 99 35) (i3 : ∀ q k, 43 ≤ q → q ≤ 75 → mI M1 q k = mI M q k) (i4 : ∀ q, 43 ≤ q → q ≤ 75 → mA M1 q = mA M q) (i5 : ∀ i, mG M1 122 i = mG M 122 i) : ImgR M1 C := by
  obtain ⟨n, h1, h2, h3, h4⟩ := c
  refine ⟨n, h1, i1.trans h2, i2.trans h3, fun r hr => ?_⟩
  obtain ⟨S, s1, s2, s3⟩ := h4 r hr
  refine ⟨S, s1, ?_, ?_⟩
  · unfold StaC at s2 ⊢
    simp only [i3 (43 + 11 * r) 4 (by omega) (by omega), i3 (43 + 11 * r) 9 (by omega) (by omega), i3 (43 + 11 * r) 12 (by omega) (by omega), i4 (43 + 11 * r + 1) (by omega) (by omega), i4 (43 + 11 * r + 2) (by omega) (by omega), i4 (43 + 11 * r + 3) (by omega) (by omega), i4 (43 + 11 * r + 4) (by omega) (by omega), i4 (43 + 11 * r + 5) (by omega) (by omega), i4 (43 + 11 * r + 6) (by omega) (by omega), i4 (43 + 11 * r + 7) (by omega) (by omega), i4 (43 + 11 * r + 8) (by omega) (by omega), i4 (43 + 11 * r + 9) (by omega) (by omega), i4 (43 + 11 * r + 10) (by omega) (by omega)]
    exact s2
  · unfold Kept at s3 ⊢
    simp only [i5]
    exact s3
/-- what is left to show where only wheels, sights, deeds, works have changed -/
theorem Rel_st {M M1 : PM} {C : Cal} {S S' : Sta} {W : Wsh} (h1 : WFC C) (h2 : CalC M C) (h3 : CalM M C) (h7 : WFW C W) (h8 : WisC M C W) (h9 : WisM M C W) (h10 : ImgR M C) (h11 : TapR M) (h12 : CntR M) (w : WFS C S') (c : StaC M1 C S' 16) (m : StaM M1 C S')
    (i : ∀ p ∈ kIl, p.1 ≠ 16 → p ∉ [(99, 32), (99, 33), (99, 34)] → M1.1 p.1 p.2 = M.1 p.1 p.2) (a : ∀ q, q < 17 ∨ 26 < q → M1.2.2.1 q = M.2.2.1 q) (b : ∀ q ∈ kBl, M1.2.2.2.1 q = M.2.2.2.1 q) (g : ∀ q i, q = 116 ∨ q = 122 → M1.2.2.2.2 q i = M.2.2.2.2 q i) : Rel M1 := by
  have iI : ∀ q k, (q, k) ∈ kIl → q ≠ 16 → (q, k) ∉ [(99, 32), (99, 33), (99, 34)] → mI M1 q k = mI M q k := fun q k x y z => i (q, k) x y z
  have iA : ∀ q, q < 17 ∨ 26 < q → mA M1 q = mA M q := a
  have iB : ∀ q, q ∈ kBl → mB M1 q = mB M q := b
  have iG : ∀ q i, q = 116 ∨ q = 122 → mG M1 q i = mG M q i := g
  refine ⟨C, S', W, h1, ?_, ?_, w, c, m, h7, ?_, ?_, ?_, ?_, ?_⟩
  · unfold CalC LawC at h2 ⊢
    simp only [iI 4 4 (by decide) (by decide) (by decide), iI 9 4 (by decide) (by decide) (by decide), iI 3 4 (by decide) (by decide) (by decide), iI 3 5 (by decide) (by decide) (by decide), iI 3 6 (by decide) (by decide) (by decide), iI 3 7 (by decide) (by decide) (by decide), iA (4 + 1) (by decide), iA (4 + 2) (by decide), iA (9 + 1) (by decide), iA (9 + 2) (by decide), iA 8 (by decide), iA 15 (by decide), iB (4 + 3) (by decide), iB (9 + 3) (by decide)]
    exact h2
  · unfold CalM at h3 ⊢
    simp only [iA 103 (by decide), iA 105 (by decide), iA 107 (by decide), iA 109 (by decide), iA 111 (by decide), iA 113 (by decide)]
    exact h3
  · unfold WisC at h8 ⊢
    simp only [iI 76 7 (by decide) (by decide) (by decide), iI 76 8 (by decide) (by decide) (by decide), iI 76 9 (by decide) (by decide) (by decide), iA 77 (by decide), iA 78 (by decide), iA 79 (by decide), iB 80 (by decide)]
    exact h8
  · unfold WisM at h9 ⊢
    simp only [iI 99 24 (by decide) (by decide) (by decide), iI 99 27 (by decide) (by decide) (by decide), fun i => iG 116 i (by decide)]
    exact h9
  · obtain ⟨n, j1, j2, j3, j4⟩ := h10
    refine ⟨n, j1, (iI 0 5 (by decide) (by decide) (by decide)).trans j2, (iI 99 35 (by decide) (by decide) (by decide)).trans j3, fun r hr => ?_⟩
    obtain ⟨S, s1, s2, s3⟩ := j4 r hr
    refine ⟨S, s1, ?_, ?_⟩
    · unfold StaC at s2 ⊢
      have hr3 : r = 0 ∨ r = 1 ∨ r = 2 := by omega
      have j3 : ∀ k, (k = 4 ∨ k = 9 ∨ k = 12) → mI M1 (43 + 11 * r) k = mI M (43 + 11 * r) k := fun k hk => by
        rcases hr3 with rfl | rfl | rfl <;> rcases hk with rfl | rfl | rfl <;> exact iI _ _ (by decide) (by decide) (by decide)
      simp only [j3 4 (by decide), j3 9 (by decide), j3 12 (by decide), iA (43 + 11 * r + 1) (by omega), iA (43 + 11 * r + 2) (by omega), iA (43 + 11 * r + 3) (by omega), iA (43 + 11 * r + 4) (by omega), iA (43 + 11 * r + 5) (by omega), iA (43 + 11 * r + 6) (by omega), iA (43 + 11 * r + 7) (by omega), iA (43 + 11 * r + 8) (by omega), iA (43 + 11 * r + 9) (by omega), iA (43 + 11 * r + 10) (by omega)]
      exact s2
    · unfold Kept at s3 ⊢
      simp only [fun i => iG 122 i (by decide)]
      exact s3
  · unfold TapR at h11 ⊢
    simp only [iI 1 1 (by decide) (by decide) (by decide), iI 99 1 (by decide) (by decide) (by decide), iA 2 (by decide), iA 100 (by decide)]
    exact h11
  · unfold CntR at h12 ⊢
    simp only [iI 0 13 (by decide) (by decide) (by decide), iI 0 14 (by decide) (by decide) (by decide), iI 0 15 (by decide) (by decide) (by decide), iI 0 16 (by decide) (by decide) (by decide), iI 99 3 (by decide) (by decide) (by decide), iA 101 (by decide)]
    exact h12
theorem ok27 : OK_27 Rel := fun M hR => by
  have hR2 := hR
  obtain ⟨C, S, W, h1, h2, h3, h4, h5, h6, h7, h8, h9, h10, h11, h12⟩ := hR2
  refine ⟨sI (sI (sI (sI (sI M 16 4 (zi 0)) 16 9 (zi 0)) 99 0 (zi 0)) 99 32 (zi 0)) 99 33 (zi 0), ?_, ?_⟩
  · unfold c_27
    refine dirI_ok (x := zi (gN S) + zi (dN S)) (M1 := sI (sI M 16 4 (zi 0)) 16 9 (zi 0)) ?_ ?_
    · unfold F_X10_forget_0
      rw [lt_z, h5.2.1.1, h5.2.1.2.1]
      rfl
    · have e1 : mI (sI (sI (sI M 16 4 (zi 0)) 16 9 (zi 0)) 99 0 0) 99 32 = zi (gN S) := h6.2.1.1
      have e2 : mI (sI (sI (sI M 16 4 (zi 0)) 16 9 (zi 0)) 99 0 0) 99 33 = zi (dN S) := h6.2.1.2.1
      unfold F_X11_forget_99
      rw [lt_z, e1, e2]
      rfl
  · have w := h4
    refine Rel_st (S := S) (S' := (aS S, (0, gL S, gA S, gB S), (0, dH S, dL S, dD S, dB S), S.2.2.2)) h1 h2 h3 h7 h8 h9 h10 h11 h12 ?_ ?_ ?_ ?_ (fun q _ => rfl) (fun q _ => rfl) (fun q i _ => rfl)
    · exact ⟨w.1, w.2.1, ⟨Nat.zero_le _, Nat.zero_le _, w.2.2.1.2.2⟩, fun i hi => absurd hi (Nat.not_lt_zero i), fun i hi => absurd hi (Nat.not_lt_zero i), w.2.2.2.2.2⟩
    · exact ⟨h5.1, ⟨rfl, rfl, h5.2.1.2.2⟩, fun i hi => absurd hi (Nat.not_lt_zero i), fun i hi => absurd hi (Nat.not_lt_zero i), h5.2.2.2.2⟩
    · exact ⟨h6.1, ⟨rfl, rfl, h6.2.1.2.2⟩, fun i hi => absurd hi (Nat.not_lt_zero i), fun i hi => absurd hi (Nat.not_lt_zero i), h6.2.2.2.2⟩
    · intro p hp h16 h99
      have e : ∀ q k, (q = 16 ∨ (q = 99 ∧ (k = 0 ∨ k = 32 ∨ k = 33 ∨ k = 34))) → ¬ (p.1 = q ∧ p.2 = k) := fun q k hq e2 => by
        obtain ⟨p1, p2⟩ := p
        obtain ⟨e3, e4⟩ := e2
        simp only at e3 e4 h16
        subst e3 e4
        rcases hq with rfl | ⟨rfl, rfl | rfl | rfl | rfl⟩
        · exact h16 rfl
        · exact absurd hp (by decide)
        · exact h99 (by decide)
        · exact h99 (by decide)
        · exact h99 (by decide)
      exact (u2_ne (e _ _ (by decide))).trans ((u2_ne (e _ _ (by decide))).trans ((u2_ne (e _ _ (by decide))).trans ((u2_ne (e _ _ (by decide))).trans (u2_ne (e _ _ (by decide))))))
theorem ok33 : OK_33 Rel := fun M hR => by
  have hR2 := hR
  obtain ⟨C, S, W, h1, h2, h3, h4, h5, h6, h7, h8, h9, h10, h11, h12⟩ := hR2
  refine ⟨sI (sI (sI M 16 12 (zi 0)) 99 0 (zi 0)) 99 34 (zi 0), ?_, ?_⟩
  · unfold c_33
    refine dirI_ok (x := zi (kN S)) (M1 := sI M 16 12 (zi 0)) ?_ ?_
    · unfold F_X10_rest_0
      rw [lt_z, h5.2.1.2.2]
      rfl
    · have e1 : mI (sI (sI M 16 12 (zi 0)) 99 0 0) 99 34 = zi (kN S) := h6.2.1.2.2
      unfold F_X11_rest_99
      rw [lt_z, e1]
      rfl
  · have w := h4
    refine Rel_st (S := S) (S' := (aS S, S.2.1, S.2.2.1, (0, kD S, kL S))) h1 h2 h3 h7 h8 h9 h10 h11 h12 ?_ ?_ ?_ ?_ (fun q _ => rfl) (fun q _ => rfl) (fun q i _ => rfl)
    · exact ⟨w.1, w.2.1, ⟨w.2.2.1.1, w.2.2.1.2.1, Nat.zero_le _⟩, w.2.2.2.1, w.2.2.2.2.1, fun i hi => absurd hi (Nat.not_lt_zero i)⟩
    · exact ⟨h5.1, ⟨h5.2.1.1, h5.2.1.2.1, rfl⟩, h5.2.2.1, h5.2.2.2.1, fun i hi => absurd hi (Nat.not_lt_zero i)⟩
    · exact ⟨h6.1, ⟨h6.2.1.1, h6.2.1.2.1, rfl⟩, h6.2.2.1, h6.2.2.2.1, fun i hi => absurd hi (Nat.not_lt_zero i)⟩
    · intro p hp h16 h99
      have e : ∀ q k, (q = 16 ∨ (q = 99 ∧ (k = 0 ∨ k = 32 ∨ k = 33 ∨ k = 34))) → ¬ (p.1 = q ∧ p.2 = k) := fun q k hq e2 => by
        obtain ⟨p1, p2⟩ := p
        obtain ⟨e3, e4⟩ := e2
        simp only at e3 e4 h16
        subst e3 e4
        rcases hq with rfl | ⟨rfl, rfl | rfl | rfl | rfl⟩
        · exact h16 rfl
        · exact absurd hp (by decide)
        · exact h99 (by decide)
        · exact h99 (by decide)
        · exact h99 (by decide)
      exact (u2_ne (e _ _ (by decide))).trans ((u2_ne (e _ _ (by decide))).trans (u2_ne (e _ _ (by decide))))
