/-! image, restore: the reference's moves -/
def pos (g i j : Nat) : Nat := if g = 115 then 3 + i * 12 + j else if g = 119 then 123 + i * 7 + j else if g = 120 then 126 + i * 7 + j else 263 + i * 2 + j
def vld (g i j : Nat) : Prop := (g = 115 ∧ i < 10 ∧ j < 12) ∨ (g = 119 ∧ i < 20 ∧ j < 3) ∨ (g = 120 ∧ i < 20 ∧ j < 4) ∨ (g = 121 ∧ i < 8 ∧ j < 2)
theorem pos115 {i j : Nat} : pos 115 i j = 3 + i * 12 + j := rfl
theorem pos119 {i j : Nat} : pos 119 i j = 123 + i * 7 + j := rfl
theorem pos120 {i j : Nat} : pos 120 i j = 126 + i * 7 + j := rfl
theorem pos121 {i j : Nat} : pos 121 i j = 263 + i * 2 + j := rfl
theorem pos_lt {g i j : Nat} (h : vld g i j) : pos g i j < 279 := by
  rcases h with ⟨rfl, h⟩ | ⟨rfl, h⟩ | ⟨rfl, h⟩ | ⟨rfl, h⟩
  · rw [pos115]; omega
  · rw [pos119]; omega
  · rw [pos120]; omega
  · rw [pos121]; omega
theorem pos_inj {g i j g' i' j' : Nat} (h : vld g i j) (h' : vld g' i' j') (e : pos g i j = pos g' i' j') : g = g' ∧ i = i' ∧ j = j' := by
  rcases h with ⟨rfl, h⟩ | ⟨rfl, h⟩ | ⟨rfl, h⟩ | ⟨rfl, h⟩ <;> rcases h' with ⟨rfl, h'⟩ | ⟨rfl, h'⟩ | ⟨rfl, h'⟩ | ⟨rfl, h'⟩ <;> simp only [pos115, pos119, pos120, pos121] at e <;> omega
def IV (M : PM) (r : Nat) (V : Nat → Int32) (b : Bool) (c : Nat) (X : PM) : Prop := mI X 99 36 = zi c ∧ (∀ k, k < 279 → (k < c ∨ b = false) → mG X 122 r k = V k) ∧ (∀ g i j, vld g i j → (pos g i j < c ∨ b = true) → mG X g i j = V (pos g i j)) ∧ (∀ q k, ¬ (q = 99 ∧ k = 36) → mI X q k = mI M q k) ∧ X.2.1 = M.2.1 ∧ X.2.2.1 = M.2.2.1 ∧ X.2.2.2.1 = M.2.2.2.1 ∧ ∀ g i, ¬ (g = 115 ∨ g = 119 ∨ g = 120 ∨ g = 121) → ¬ (g = 122 ∧ i = r) → mG X g i = mG M g i
theorem mv_s {X : PM} {r c : Nat} {v : Int32} (h : mI X 99 36 = zi c) (hr : r < 3) (hc : c < 279) : F_X11_moves_99_g122_11 X r = rI (mG X 122 r c) (sI X 99 36 (zi ((c + 1 : Nat)))) := by
  have e1 : mI X 99 36 + 1 = zi ((c + 1 : Nat)) := by rw [h, show (1 : Int32) = zi 1 from rfl, zi_add]; exact congrArg zi (by omega)
  have e2 : mI (sI X 99 36 (zi ((c + 1 : Nat)))) 99 36 - 1 = zi c := by
    rw [show mI (sI X 99 36 (zi ((c + 1 : Nat)))) 99 36 = zi ((c + 1 : Nat)) from rI_at, show (1 : Int32) = zi 1 from rfl, zi_sub]
    exact congrArg zi (by omega)
  unfold F_X11_moves_99_g122_11
  rw [e1, e2, if_pos ⟨hr, by rw [zi_ixT (by omega) (by omega)]⟩, zi_nat (show 0 ≤ (c : Int) ∧ (c : Int) < 2147483648 by omega), Int.toNat_natCast]
  rfl
theorem mvw {M X : PM} {r c g i j : Nat} {V : Nat → Int32} {b : Bool} (h : IV M r V b c X) (hr : r < 3) (hv : vld g i j) (hc : pos g i j = c) : ∃ N, F_X11_moves_99_g122 X r (mG X g i j) (zi (if b = true then 0 else 1)) = rI (V c) N ∧ IV M r V b (c + 1) (sG N g i j (V c)) := by
  obtain ⟨h1, h2, h3, h4, h5, h6, h7, h8⟩ := h
  have hlt := pos_lt hv
  rw [hc] at hlt
  have hg : g = 115 ∨ g = 119 ∨ g = 120 ∨ g = 121 := by
    rcases hv with ⟨e, -⟩ | ⟨e, -⟩ | ⟨e, -⟩ | ⟨e, -⟩ <;> omega
  have st : ∀ (Y : PM), (∀ g i j, vld g i j → (pos g i j < c ∨ b = true) → mG Y g i j = V (pos g i j)) → ∀ a x y, vld a x y → (pos a x y < c + 1 ∨ b = true) → mG (sG Y g i j (V c)) a x y = V (pos a x y) := fun Y hY a x y hv2 hp => by
    by_cases e : a = g ∧ x = i ∧ y = j
    · obtain ⟨rfl, rfl, rfl⟩ := e
      rw [hc]
      exact rG_at
    · have hne : mG (sG Y g i j (V c)) a x y = mG Y a x y := by
        show (sG Y g i j (V c)).2.2.2.2 a x y = Y.2.2.2.2 a x y
        by_cases e1 : a = g
        · by_cases e2 : x = i
          · subst e1 e2
            exact rG_nk (fun e3 => e ⟨rfl, rfl, e3⟩)
          · exact congrFun (rG_nr e2) y
        · exact congrFun (rG_ne e1) y
      rw [hne]
      refine hY a x y hv2 ?_
      rcases hp with hp | hp
      · left
        rcases Nat.lt_or_ge (pos a x y) c with u | u
        · exact u
        · exact absurd (pos_inj hv2 hv (by omega)) e
      · exact Or.inr hp
  cases b with
  | true =>
    refine ⟨sI (sG X 122 r c (V c)) 99 36 (zi ((c + 1 : Nat))), ?_, (rI_at : (sI (sG X 122 r c (V c)) 99 36 (zi ((c + 1 : Nat)))).1 99 36 = _), ?_, ?_, ?_, h5, h6, h7, ?_⟩
    · have hx : mG X g i j = V c := by rw [h3 g i j hv (Or.inr rfl), hc]
      unfold F_X11_moves_99_g122
      rw [hx, if_pos (show zi (if true = true then 0 else 1) = 0 from rfl), h1, if_pos ⟨hr, by rw [zi_ixT (by omega) (by omega)]⟩, zi_nat (show 0 ≤ (c : Int) ∧ (c : Int) < 2147483648 by omega), Int.toNat_natCast, mv_s (v := 0) (X := sG X 122 r c (V c)) h1 hr hlt, show mG (sG X 122 r c (V c)) 122 r c = V c from rG_at]
    · intro k hk hk2
      have e1 : mG (sG (sI (sG X 122 r c (V c)) 99 36 (zi ((c + 1 : Nat)))) g i j (V c)) 122 r k = mG (sG X 122 r c (V c)) 122 r k := congrFun (rG_ne (by omega)) k
      rw [e1]
      by_cases e : k = c
      · rw [e]; exact rG_at
      · exact (rG_nk e).trans (h2 k hk (by rcases hk2 with u | u; exact Or.inl (by omega); exact Or.inr u))
    · refine st _ (fun a x y hv2 hp => ?_)
      have hp2 : mG (sI (sG X 122 r c (V c)) 99 36 (zi ((c + 1 : Nat)))) a x y = mG X a x y := congrFun (rG_ne (by rcases hv2 with ⟨e, -⟩ | ⟨e, -⟩ | ⟨e, -⟩ | ⟨e, -⟩ <;> omega)) y
      rw [hp2]
      exact h3 a x y hv2 hp
    · intro q k hq
      exact (u2_ne hq).trans (h4 q k hq)
    · intro a x ha hb
      have e1 : mG (sG (sI (sG X 122 r c (V c)) 99 36 (zi ((c + 1 : Nat)))) g i j (V c)) a x = mG (sG X 122 r c (V c)) a x := rG_ne (by omega)
      rw [e1]
      by_cases e : a = 122
      · exact (rG_nr (fun e2 => hb ⟨e, e2⟩)).trans (h8 a x ha hb)
      · exact (rG_ne e).trans (h8 a x ha hb)
  | false =>
    refine ⟨sI X 99 36 (zi ((c + 1 : Nat))), ?_, (rI_at : (sI X 99 36 (zi ((c + 1 : Nat)))).1 99 36 = _), ?_, ?_, ?_, h5, h6, h7, ?_⟩
    · unfold F_X11_moves_99_g122
      rw [if_neg (by decide), mv_s (v := 0) h1 hr hlt, h2 c hlt (Or.inr rfl)]
    · intro k hk hk2
      exact (congrFun (rG_ne (by omega)) k).trans (h2 k hk (Or.inr rfl))
    · exact st _ h3
    · intro q k hq
      exact (u2_ne hq).trans (h4 q k hq)
    · intro a x ha hb
      exact (rG_ne (by omega)).trans (h8 a x ha hb)
