theorem StaC.of {M N : PM} {C : Cal} {S : Sta} {q : Nat} (c : StaC M C S q) (i : ∀ k, mI N q k = mI M q k) (a : ∀ j, 1 ≤ j → j ≤ 10 → mA N (q + j) = mA M (q + j)) : StaC N C S q := by
  unfold StaC at c ⊢
  simp only [i, a 1 (by decide) (by decide), a 2 (by decide) (by decide), a 3 (by decide) (by decide), a 4 (by decide) (by decide), a 5 (by decide) (by decide), a 6 (by decide) (by decide), a 7 (by decide) (by decide), a 8 (by decide) (by decide), a 9 (by decide) (by decide), a 10 (by decide) (by decide)]
  exact c
theorem Kept.of {M N : PM} {C : Cal} {S : Sta} {r : Nat} (c : Kept M C S r) (g : mG N 122 r = mG M 122 r) : Kept N C S r := by
  unfold Kept at c ⊢
  simp only [g]
  exact c
theorem StaM.of {M N : PM} {C : Cal} {S : Sta} (c : StaM M C S) (i : ∀ k, k = 32 ∨ k = 33 ∨ k = 34 → mI N 99 k = mI M 99 k) (g : ∀ q j, mG N q j = mG M q j) : StaM N C S := by
  unfold StaM at c ⊢
  simp only [g, i 32 (by decide), i 33 (by decide), i 34 (by decide)]
  exact c
theorem ok38 : OK_38 Rel := fun M hR => by
  have hR2 := hR
  obtain ⟨C, S, W, h1, h2, h3, h4, h5, h6, h7, h8, h9, h10, h11, h12⟩ := hR2
  obtain ⟨n, n1, n2, n3, n4⟩ := h10
  unfold c_38
  by_cases q : n = 3
  · refine ⟨sI M 99 0 (zi 0), dirI_ok (x := zi (-1)) (M1 := M) ?_ ?_, hR.sm Sam.th.1⟩
    · unfold F_X10_image_0
      rw [n2, q, if_neg (by decide)]
      rfl
    · have e : mI (sI M 99 0 0) 99 35 = zi (n : Nat) := n3
      unfold F_X11_image_99
      rw [e, q, if_pos (by decide)]
      rfl
  · have cl : ∃ N, F_X10_image_0 M = rI (zi ((n + 1 : Nat))) (sI N 0 5 (zi ((n + 1 : Nat)))) ∧ StaC N C S (43 + 11 * n) ∧ FrK (43 + 11 * n) M N := by
      have hn : n = 0 ∨ n = 1 ∨ n = 2 := by omega
      rcases hn with rfl | rfl | rfl
      · obtain ⟨N, a, b, c⟩ := copy_43_16 h1 h4 h5
        refine ⟨N, ?_, b, c⟩
        have e : mI N 0 5 = zi ((0 : Nat) : Int) := (c.1 0 5 (by decide)).trans n2
        unfold F_X10_image_0
        rw [n2, if_pos (by decide), if_pos (by decide), a, cV_s, e, show mI (sI N 0 5 (zi ((0 : Nat) : Int) + 1)) 0 5 = zi ((0 : Nat) : Int) + 1 from rI_at]
        rfl
      · obtain ⟨N, a, b, c⟩ := copy_54_16 h1 h4 h5
        refine ⟨N, ?_, b, c⟩
        have e : mI N 0 5 = zi ((1 : Nat) : Int) := (c.1 0 5 (by decide)).trans n2
        unfold F_X10_image_0
        rw [n2, if_pos (by decide), if_neg (by decide), if_pos (by decide), a, cV_s, e, show mI (sI N 0 5 (zi ((1 : Nat) : Int) + 1)) 0 5 = zi ((1 : Nat) : Int) + 1 from rI_at]
        rfl
      · obtain ⟨N, a, b, c⟩ := copy_65_16 h1 h4 h5
        refine ⟨N, ?_, b, c⟩
        have e : mI N 0 5 = zi ((2 : Nat) : Int) := (c.1 0 5 (by decide)).trans n2
        unfold F_X10_image_0
        rw [n2, if_pos (by decide), if_neg (by decide), if_neg (by decide), if_pos (by decide), a, cV_s, e, show mI (sI N 0 5 (zi ((2 : Nat) : Int) + 1)) 0 5 = zi ((2 : Nat) : Int) + 1 from rI_at]
        rfl
    obtain ⟨N, f1, f2, f3⟩ := cl
    have hgN : ∀ q j, mG N q j = mG M q j := fun q j => by
      show N.2.2.2.2 q j = M.2.2.2.2 q j
      rw [f3.2.2.2]
    have hbN : ∀ q, mB N q = mB M q := fun q => by
      show N.2.2.2.1 q = M.2.2.2.1 q
      rw [f3.2.2.2]
    have haN : ∀ q, q < 43 + 11 * n + 1 ∨ 43 + 11 * n + 10 < q → mA N q = mA M q := fun q hq => funext (fun k => f3.2.1 q k hq)
    have mN : StaM N C S := h6.of (fun k _ => f3.1 99 k (by omega)) hgN
    generalize hX : sI (sI N 0 5 (zi ((n + 1 : Nat)))) 99 0 (zi 0) = X
    have mX : StaM X C S := by rw [← hX]; exact mN
    have x35 : mI X 99 35 = zi (n : Nat) := by
      rw [← hX]
      exact (f3.1 99 35 (by omega)).trans n3
    have xI : ∀ q k, (q, k) ∉ [(0, 5), (99, 0)] → mI X q k = mI N q k := fun q k hq => by
      rw [← hX]
      refine (u2_ne ?_).trans (u2_ne ?_)
      · rintro ⟨rfl, rfl⟩; exact hq (by decide)
      · rintro ⟨rfl, rfl⟩; exact hq (by decide)
    have x05 : mI X 0 5 = zi ((n + 1 : Nat)) := by
      rw [← hX]
      have e1 : mI (sI (sI N 0 5 (zi ((n + 1 : Nat)))) 99 0 (zi 0)) 0 5 = mI (sI N 0 5 (zi ((n + 1 : Nat)))) 0 5 := rI_ne (by decide)
      rw [e1]
      exact rI_at
    have xR : X.2.2.1 = N.2.2.1 ∧ X.2.2.2 = N.2.2.2 := by rw [← hX]; exact ⟨rfl, rfl⟩
    obtain ⟨P, p1, p2⟩ := movesAll_s (M := X) (r := n) (V := VI X) (b := true) (by omega) (fun h => by cases h) (fun _ => ⟨fun k hk => (if_pos hk).symm, fun g i j hv => VI_pos hv⟩)
    obtain ⟨m1, m2⟩ := end_sta h1 h4 p2 (VI_sta h1 h4 mX)
    have pI : ∀ q k, (q, k) ∉ [(99, 32), (99, 33), (99, 34), (99, 36)] → mI P q k = mI X q k := fun q k hq => p2.2.2.2.1 q k (by
      rintro ⟨rfl, h⟩
      rcases h with rfl | rfl | rfl | rfl <;> exact hq (by decide))
    have pA : ∀ q, mA P q = mA N q := fun q => by
      show P.2.2.1 q = N.2.2.1 q
      rw [p2.2.2.2.2.2.1, xR.1]
    have pB : ∀ q, mB P q = mB N q := fun q => by
      show P.2.2.2.1 q = N.2.2.2.1 q
      rw [p2.2.2.2.2.2.2.1, xR.2]
    have pG : ∀ g i, ¬ (g = 115 ∨ g = 119 ∨ g = 120 ∨ g = 121) → ¬ (g = 122 ∧ i = n) → mG P g i = mG M g i := fun g i ha hb => by
      rw [p2.2.2.2.2.2.2.2 g i ha hb, ← hgN g i]
      show X.2.2.2.2 g i = N.2.2.2.2 g i
      rw [xR.2]
    have p35 : mI P 99 35 = zi (n : Nat) := (pI 99 35 (by decide)).trans x35
    have qI : ∀ q k, q ≠ 0 → q ≠ 99 → mI (sI P 99 35 (zi ((n + 1 : Nat)))) q k = mI N q k := fun q k u v => by
      have e1 : mI (sI P 99 35 (zi ((n + 1 : Nat)))) q k = mI P q k := rI_ne v
      rw [e1, pI q k (fun h => by simp only [List.mem_cons, Prod.mk.injEq, List.not_mem_nil, or_false] at h; omega), xI q k (fun h => by simp only [List.mem_cons, Prod.mk.injEq, List.not_mem_nil, or_false] at h; omega)]
    refine ⟨sI P 99 35 (zi ((n + 1 : Nat))), dirI_ok f1 ?_, ?_⟩
    · unfold F_X11_image_99
      rw [show (0 : Int32) = zi 0 from rfl, hX, x35, if_neg (by rw [show (3 : Int32) = zi 3 from rfl, zi_eq (by omega) (by omega)]; omega), if_pos (zi_ixT (by omega) (by omega)), zi_natN (by omega), show F_X11_movesAll_99_g122 X n (zi 0) = rV P from p1, cV_s, p35, show (1 : Int32) = zi 1 from rfl, zi_add, zc (show (n : Int) + 1 = ((n + 1 : Nat) : Int) by omega), show mI (sI P 99 35 (zi ((n + 1 : Nat)))) 99 35 = zi ((n + 1 : Nat)) from rI_at]
    · refine Rel_im (M := M) h1 h2 h3 h7 h8 h9 h11 h12 h4 ?_ m1 ?_ ?_ ?_ ?_ ?_
      · refine h5.of (fun k => ?_) (fun j j1 j2 => ?_)
        · rw [qI 16 k (by decide) (by decide)]; exact f3.1 16 k (by omega)
        · exact (pA _).trans (haN _ (by omega))
      · refine ⟨n + 1, by omega, ?_, rI_at, fun r hr => ?_⟩
        · have e1 : mI (sI P 99 35 (zi ((n + 1 : Nat)))) 0 5 = mI P 0 5 := rI_ne (by decide)
          rw [e1, pI 0 5 (by decide)]; exact x05
        · by_cases e : r = n
          · subst e
            refine ⟨S, h4, ?_, m2⟩
            refine f2.of (fun k => qI _ k (by omega) (by omega)) (fun j j1 j2 => pA _)
          · obtain ⟨S', s1, s2, s3⟩ := n4 r (by omega)
            refine ⟨S', s1, ?_, ?_⟩
            · refine s2.of (fun k => ?_) (fun j j1 j2 => (pA _).trans (haN _ (by omega)))
              rw [qI _ k (by omega) (by omega)]
              exact f3.1 _ k (by omega)
            · exact s3.of (pG 122 r (by decide) (fun h => e h.2))
      · intro q k hq hq2
        by_cases e : q = 0
        · subst e
          have e1 : mI (sI P 99 35 (zi ((n + 1 : Nat)))) 0 k = mI P 0 k := rI_ne (by decide)
          have e2 : k ≠ 5 := fun h => hq (by rw [h]; decide)
          rw [e1, pI 0 k (fun h => by simp only [List.mem_cons, Prod.mk.injEq, List.not_mem_nil, or_false] at h; omega), xI 0 k (fun h => by simp only [List.mem_cons, Prod.mk.injEq, List.not_mem_nil, or_false] at h; omega)]
          exact f3.1 0 k (by omega)
        · by_cases e9 : q = 99
          · subst e9
            have hk : k ≠ 0 ∧ k ≠ 32 ∧ k ≠ 33 ∧ k ≠ 34 ∧ k ≠ 35 ∧ k ≠ 36 := ⟨fun h => hq (by rw [h]; decide), fun h => hq (by rw [h]; decide), fun h => hq (by rw [h]; decide), fun h => hq (by rw [h]; decide), fun h => hq (by rw [h]; decide), fun h => hq (by rw [h]; decide)⟩
            have e1 : mI (sI P 99 35 (zi ((n + 1 : Nat)))) 99 k = mI P 99 k := rI_nk (by omega)
            rw [e1, pI 99 k (fun h => by simp only [List.mem_cons, Prod.mk.injEq, List.not_mem_nil, or_false] at h; omega), xI 99 k (fun h => by simp only [List.mem_cons, Prod.mk.injEq, List.not_mem_nil, or_false] at h; omega)]
            exact f3.1 99 k (by omega)
          · rw [qI q k e e9]
            refine f3.1 q k ?_
            have hn : n = 0 ∨ n = 1 ∨ n = 2 := by omega
            rcases hn with rfl | rfl | rfl <;> omega
      · intro q hq
        exact (pA q).trans (haN q (by omega))
      · intro q _
        exact (pB q).trans (hbN q)
      · intro i
        exact pG 116 i (by decide) (by omega)
