/-! movesAll -/
def CIv (M : PM) (r : Nat) (V : Nat → Int32) (b : Bool) (c : Nat) (X : PM) : Prop := mI X 99 36 = zi c ∧ (∀ k, k < 279 → (k < c ∨ b = false) → mG X 122 r k = V k) ∧ (∀ k, k < 3 → (k < c ∨ b = true) → mI X 99 (32 + k) = V k) ∧ (∀ q k, ¬ (q = 99 ∧ (k = 32 ∨ k = 33 ∨ k = 34 ∨ k = 36)) → mI X q k = mI M q k) ∧ X.2.1 = M.2.1 ∧ X.2.2.1 = M.2.2.1 ∧ X.2.2.2.1 = M.2.2.2.1 ∧ ∀ g i, ¬ (g = 122 ∧ i = r) → mG X g i = mG M g i
theorem mvc {M X : PM} {r c : Nat} {V : Nat → Int32} {b : Bool} (h : CIv M r V b c X) (hr : r < 3) (hc : c < 3) : ∃ N, F_X11_moves_99_g122 X r (mI X 99 (32 + c)) (zi (if b = true then 0 else 1)) = rI (V c) N ∧ CIv M r V b (c + 1) (sI N 99 (32 + c) (V c)) := by
  obtain ⟨h1, h2, h3, h4, h5, h6, h7, h8⟩ := h
  have rd : ∀ (Y : PM), Y.1 = X.1 → ∀ k, k < 3 → (k < c + 1 ∨ b = true) → mI (sI (sI Y 99 36 (zi ((c + 1 : Nat)))) 99 (32 + c) (V c)) 99 (32 + k) = V k := fun Y hY k hk hk2 => by
    by_cases e : k = c
    · rw [e]; exact rI_at
    · have e1 : mI (sI (sI Y 99 36 (zi ((c + 1 : Nat)))) 99 (32 + c) (V c)) 99 (32 + k) = mI (sI Y 99 36 (zi ((c + 1 : Nat)))) 99 (32 + k) := rI_nk (by omega)
      have e2 : mI (sI Y 99 36 (zi ((c + 1 : Nat)))) 99 (32 + k) = mI X 99 (32 + k) := (rI_nk (by omega)).trans (congrFun (congrFun hY 99) (32 + k))
      rw [e1, e2]
      refine h3 k hk ?_
      rcases hk2 with u | u
      · left; omega
      · right; exact u
  have fr : ∀ (Y : PM), Y.1 = X.1 → ∀ q k, ¬ (q = 99 ∧ (k = 32 ∨ k = 33 ∨ k = 34 ∨ k = 36)) → mI (sI (sI Y 99 36 (zi ((c + 1 : Nat)))) 99 (32 + c) (V c)) q k = mI M q k := fun Y hY q k hq => by
    have e1 : mI (sI (sI Y 99 36 (zi ((c + 1 : Nat)))) 99 (32 + c) (V c)) q k = mI (sI Y 99 36 (zi ((c + 1 : Nat)))) q k := u2_ne (by omega)
    have e2 : mI (sI Y 99 36 (zi ((c + 1 : Nat)))) q k = mI X q k := (u2_ne (by omega)).trans (congrFun (congrFun hY q) k)
    rw [e1, e2]
    exact h4 q k hq
  have sp : ∀ (Y : PM), mI (sI (sI Y 99 36 (zi ((c + 1 : Nat)))) 99 (32 + c) (V c)) 99 36 = zi ((c + 1 : Nat)) := fun Y => by
    have e1 : mI (sI (sI Y 99 36 (zi ((c + 1 : Nat)))) 99 (32 + c) (V c)) 99 36 = mI (sI Y 99 36 (zi ((c + 1 : Nat)))) 99 36 := rI_nk (by omega)
    rw [e1]
    exact rI_at
  cases b with
  | true =>
    have hx : mI X 99 (32 + c) = V c := h3 c hc (Or.inr rfl)
    refine ⟨sI (sG X 122 r c (V c)) 99 36 (zi ((c + 1 : Nat))), ?_, sp _, ?_, rd _ rfl, fr _ rfl, h5, h6, h7, ?_⟩
    · unfold F_X11_moves_99_g122
      rw [hx, if_pos (show zi (if true = true then 0 else 1) = 0 from rfl), h1, if_pos ⟨hr, by rw [zi_ixT (by omega) (by omega)]⟩, zi_nat (show 0 ≤ (c : Int) ∧ (c : Int) < 2147483648 by omega), Int.toNat_natCast, mv_s (v := 0) (X := sG X 122 r c (V c)) h1 hr (by omega), show mG (sG X 122 r c (V c)) 122 r c = V c from rG_at]
    · intro k hk hk2
      show mG (sG X 122 r c (V c)) 122 r k = V k
      by_cases e : k = c
      · rw [e]; exact rG_at
      · exact (rG_nk e).trans (h2 k hk (by rcases hk2 with u | u; exact Or.inl (by omega); exact Or.inr u))
    · intro a x hb
      show mG (sG X 122 r c (V c)) a x = _
      by_cases e : a = 122
      · exact (rG_nr (fun e2 => hb ⟨e, e2⟩)).trans (h8 a x hb)
      · exact (rG_ne e).trans (h8 a x hb)
  | false =>
    refine ⟨sI X 99 36 (zi ((c + 1 : Nat))), ?_, sp _, fun k hk hk2 => h2 k hk (Or.inr rfl), rd _ rfl, fr _ rfl, h5, h6, h7, h8⟩
    unfold F_X11_moves_99_g122
    rw [if_neg (by decide), mv_s (v := 0) h1 hr (by omega), h2 c (by omega) (Or.inr rfl)]
def mEnd (M : PM) (r : Nat) (V : Nat → Int32) (N : PM) : Prop := (∀ k, k < 279 → mG N 122 r k = V k) ∧ (∀ g i j, vld g i j → mG N g i j = V (pos g i j)) ∧ (mI N 99 32 = V 0 ∧ mI N 99 33 = V 1 ∧ mI N 99 34 = V 2) ∧ (∀ q k, ¬ (q = 99 ∧ (k = 32 ∨ k = 33 ∨ k = 34 ∨ k = 36)) → mI N q k = mI M q k) ∧ N.2.1 = M.2.1 ∧ N.2.2.1 = M.2.2.1 ∧ N.2.2.2.1 = M.2.2.2.1 ∧ ∀ g i, ¬ (g = 115 ∨ g = 119 ∨ g = 120 ∨ g = 121) → ¬ (g = 122 ∧ i = r) → mG N g i = mG M g i
theorem movesAll_s {M : PM} {r : Nat} {V : Nat → Int32} {b : Bool} (hr : r < 3) (h0 : b = false → ∀ k, k < 279 → mG M 122 r k = V k) (h1 : b = true → (∀ k, k < 3 → mI M 99 (32 + k) = V k) ∧ ∀ g i j, vld g i j → mG M g i j = V (pos g i j)) : ∃ N, F_X11_movesAll_99_g122 M r (zi (if b = true then 0 else 1)) = rV N ∧ mEnd M r V N := by
  have c0 : CIv M r V b 0 (sI M 99 36 (zi 0)) := by
    refine ⟨rI_at, fun k hk hk2 => ?_, fun k hk hk2 => ?_, fun q k hq => u2_ne (by omega), rfl, rfl, rfl, fun g i _ => rfl⟩
    · rcases hk2 with u | u
      · omega
      · exact h0 u k hk
    · rcases hk2 with u | u
      · omega
      · exact (rI_nk (by omega)).trans ((h1 u).1 k hk)
  obtain ⟨N1, a1, c1⟩ := mvc c0 hr (by decide)
  obtain ⟨N2, a2, c2⟩ := mvc c1 hr (by decide)
  obtain ⟨N3, a3, c3⟩ := mvc c2 hr (by decide)
  generalize hX : sI N3 99 (32 + (0 + 1 + 1)) (V (0 + 1 + 1)) = X at c3
  have iv : IV X r V b 3 X := by
    refine ⟨c3.1, c3.2.1, fun g i j hv hp => ?_, fun _ _ _ => rfl, rfl, rfl, rfl, fun _ _ _ _ => rfl⟩
    have hg : ¬ (g = 122 ∧ i = r) := by rcases hv with ⟨e, -⟩ | ⟨e, -⟩ | ⟨e, -⟩ | ⟨e, -⟩ <;> omega
    have hp3 : 3 ≤ pos g i j := by
      rcases hv with ⟨rfl, -⟩ | ⟨rfl, -⟩ | ⟨rfl, -⟩ | ⟨rfl, -⟩
      · rw [pos115]; omega
      · rw [pos119]; omega
      · rw [pos120]; omega
      · rw [pos121]; omega
    rcases hp with u | u
    · omega
    · rw [c3.2.2.2.2.2.2.2 g i hg]
      exact (h1 u).2 g i j hv
  obtain ⟨P1, p1, i1⟩ := out_49 iv hr
  obtain ⟨P2, p2, i2⟩ := out_103 i1 hr
  obtain ⟨P3, p3, i3⟩ := out_195 i2 hr
  refine ⟨P3, ?_, fun k hk => i3.2.1 k hk (Or.inl hk), fun g i j hv => i3.2.2.1 g i j hv (Or.inl (pos_lt hv)), ⟨?_, ?_, ?_⟩, fun q k hq => (i3.2.2.2.1 q k (by omega)).trans (c3.2.2.2.1 q k hq), i3.2.2.2.2.1.trans c3.2.2.2.2.1, i3.2.2.2.2.2.1.trans c3.2.2.2.2.2.1, i3.2.2.2.2.2.2.1.trans c3.2.2.2.2.2.2.1, fun g i ha hb => (i3.2.2.2.2.2.2.2 g i ha hb).trans (c3.2.2.2.2.2.2.2 g i hb)⟩
  · unfold F_X11_movesAll_99_g122
    rw [show (0 : Int32) = zi 0 from rfl, show mI (sI M 99 36 (zi 0)) 99 32 = mI (sI M 99 36 (zi 0)) 99 (32 + 0) from rfl, a1, cI_s]
    rw [show sI N1 99 32 (V 0) = sI N1 99 (32 + 0) (V 0) from rfl, show mI (sI N1 99 (32 + 0) (V 0)) 99 33 = mI (sI N1 99 (32 + 0) (V 0)) 99 (32 + (0 + 1)) from rfl, a2, cI_s]
    rw [show sI N2 99 33 (V (0 + 1)) = sI N2 99 (32 + (0 + 1)) (V (0 + 1)) from rfl, show mI (sI N2 99 (32 + (0 + 1)) (V (0 + 1))) 99 34 = mI (sI N2 99 (32 + (0 + 1)) (V (0 + 1))) 99 (32 + (0 + 1 + 1)) from rfl, a3, cI_s]
    rw [show sI N3 99 34 (V (0 + 1 + 1)) = sI N3 99 (32 + (0 + 1 + 1)) (V (0 + 1 + 1)) from rfl, hX]
    exact p1.trans (p2.trans p3)
  · exact (i3.2.2.2.1 99 32 (by decide)).trans (c3.2.2.1 0 (by decide) (Or.inl (by decide)))
  · exact (i3.2.2.2.1 99 33 (by decide)).trans (c3.2.2.1 1 (by decide) (Or.inl (by decide)))
  · exact (i3.2.2.2.1 99 34 (by decide)).trans (c3.2.2.1 2 (by decide) (Or.inl (by decide)))
