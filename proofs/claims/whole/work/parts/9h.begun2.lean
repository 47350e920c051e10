theorem minN {M : PM} {x y : Nat} (hx : x ≤ 2000000000) (hy : y ≤ 2000000000) : F_J9_min_7cf53 M (zi x) (zi y) = rI (zi ((min x y : Nat))) M := by
  unfold F_J9_min_7cf53
  by_cases q : y < x
  · rw [if_pos (by rw [zi_lt (by omega) (by omega)]; omega), Nat.min_eq_right (by omega)]
  · rw [if_neg (by rw [zi_lt (by omega) (by omega)]; omega), Nat.min_eq_left (by omega)]
theorem wkM_sam {M M1 : PM} {p e : Nat} {y : Int64} (h : Sam0 M M1) : Sam0 M (wkM M1 p e y) := by
  refine h.tr ⟨fun x hx => ?_, fun _ _ => rfl, fun _ _ => rfl, fun _ _ _ => rfl⟩
  have : x.1 ≠ 27 := by
    intro h27
    revert hx h27
    revert x
    decide
  exact (rI_ne this).trans (rI_ne this)
theorem r92_sam {M M1 : PM} {k : Nat} {x : Int32} (h : Sam0 M M1) : Sam0 M (sA M1 92 k x) :=
  h.tr ⟨fun _ _ => rfl, fun q hq => rA_ne (fun e => by rw [e] at hq; exact absurd hq (by decide)), fun _ _ => rfl, fun _ _ _ => rfl⟩
/-- the ring holds the last free days before c -/
def RG (p : Nat → Bool) (n a c : Nat) (M : PM) : Prop := ∀ x, a ≤ x → x < c → p x = true → fb_ct p c ≤ fb_ct p x + n → mA M 92 ((fb_ct p x - fb_ct p a) % n) = zi x
theorem RG_on {p : Nat → Bool} {n a c v : Nat} {M : PM} (hn : 1 ≤ n) (hac : a ≤ c) (h : RG p n a c M) (hv : c ≤ v) (hp : p v = true) (hz : ∀ z, c ≤ z → z < v → p z = false) (he : fb_ct p v = fb_ct p c) : RG p n a (v + 1) (sA M 92 ((fb_ct p c - fb_ct p a) % n) (zi v)) := by
  intro x x1 x2 x3 x4
  rw [ctT hp] at x4
  have ma := fb_ct_mono p hac
  rcases Nat.lt_or_ge x c with q | q
  · have l1 := ct_lt_of q x3
    have l2 := fb_ct_mono p x1
    have hne : (fb_ct p x - fb_ct p a) % n ≠ (fb_ct p c - fb_ct p a) % n := by
      intro e
      have m := Nat.div_add_mod (fb_ct p x - fb_ct p a) n
      have m' := Nat.div_add_mod (fb_ct p c - fb_ct p a) n
      have lt1 := Nat.mod_lt (fb_ct p c - fb_ct p a) hn
      rcases Nat.lt_trichotomy ((fb_ct p x - fb_ct p a) / n) ((fb_ct p c - fb_ct p a) / n) with u | u | u
      · have := Nat.mul_le_mul_left n u
        rw [Nat.mul_succ] at this
        omega
      · rw [u] at m; omega
      · have := Nat.mul_le_mul_left n u
        rw [Nat.mul_succ] at this
        omega
    exact (rA_nk hne).trans (h x x1 q x3 (by omega))
  · have : x = v := by
      rcases Nat.lt_or_ge x v with u | u
      · rw [hz x q u] at x3; exact absurd x3 (by decide)
      · omega
    rw [this, he]
    exact rA_at
theorem best_s {M : PM} {C : Cal} {L a last n : Nat} (hc : WFC C) (cc : CalC M C) (hL : L < 4096) (hn : 1 ≤ n ∧ n ≤ 60) (h2 : mI M 27 2 = zi L) (h3 : mI M 27 3 = zi ((0 : Nat) : Int)) (h4 : mI M 27 4 = zi (tB C L 0)) (ha : a ≤ last) (hl : last ≤ 999999999) (hla : last < a + 100000) : ∃ r M', F_X9_bestBegin_89_56 FUEL (wkM M a a 0) (zi last) (zi n) (zi (-1)) (zi 1000000001) (zi 0) = rI (zi r) M' ∧ Sam0 M M' ∧ BB (fd C L 0) n a last r := by
  generalize hp : fd C L 0 = p
  refine loopS (σ := PM × Nat × Nat × Int64 × Nat × Int × Int) (fun f s => F_X9_bestBegin_89_56 f (wkM s.1 s.2.1 s.2.2.1 s.2.2.2.1) (zi last) (zi n) (zi s.2.2.2.2.2.1) (zi s.2.2.2.2.2.2) (zi ((fb_ct p s.2.2.2.2.1 - fb_ct p a : Nat)))) (fun o => ∃ r M', o = rI (zi r) M' ∧ Sam0 M M' ∧ BB p n a last r) (fun q s => q = 200000 - (fb_ct p s.2.2.2.2.1 - fb_ct p a) ∧ Sam0 M s.1 ∧ mI s.1 27 2 = zi L ∧ mI s.1 27 3 = zi ((0 : Nat) : Int) ∧ mI s.1 27 4 = zi (tB C L 0) ∧ WK C L s.2.2.2.2.1 s.2.1 s.2.2.1 s.2.2.2.1 ∧ a ≤ s.2.2.2.2.1 ∧ RG p n a s.2.2.2.2.1 s.1 ∧ BC p n a last s.2.2.2.2.1 s.2.2.2.2.2.1 s.2.2.2.2.2.2 ∧ ∀ x, a ≤ x → p x = true → fb_ct p x + n ≤ fb_ct p s.2.2.2.2.1 → x ≤ last) ?_ 200000 (M, a, a, 0, a, -1, 1000000001) FUEL ⟨?_, Sam0.rf, h2, h3, h4, ⟨Nat.le_refl _, Nat.le_refl _, by show a ≤ a + 64; omega, by show a ≤ 1000000000; omega, fun i hi => ?_⟩, Nat.le_refl _, fun x x1 x2 => ?_, Or.inl ⟨rfl, rfl, fun x e x1 x2 x3 x4 => ?_⟩, fun x x1 x2 x3 => ?_⟩ (FUEL_gt (by omega)) |> (fun h => by
    simp only [Nat.sub_self] at h
    exact h)
  rotate_left
  · show 200000 = 200000 - (fb_ct p a - fb_ct p a)
    omega
  · rw [lb_0]
    show false = (fd C L 0 (a + i) && (decide (a ≤ a + i) && decide (a + i < a)))
    rw [decide_eq_false (by omega : ¬ a + i < a), Bool.and_false, Bool.and_false]
  · have x2' : x < a := x2
    omega
  · have x4' : e < a := x4
    have := EN_ge hn.1 x3
    omega
  · have x3' : fb_ct p x + n ≤ fb_ct p a := x3
    have := fb_ct_mono p x1
    omega
  rintro f q ⟨M1, pp, ee, y, c, r, l⟩ ⟨i1, i2, i3, i4, i5, i6, i7, i8, i9, i10⟩
  simp only at i1 i2 i3 i4 i5 i6 i7 i8 i9 i10
  show (∃ r' M', F_X9_bestBegin_89_56 (f + 1) (wkM M1 pp ee y) (zi last) (zi n) (zi r) (zi l) (zi ((fb_ct p c - fb_ct p a : Nat))) = rI (zi r') M' ∧ _) ∨ _
  have mac := fb_ct_mono p i7
  have kb : fb_ct p c - fb_ct p a ≤ 100060 := by
    rcases Nat.lt_or_ge 100060 (fb_ct p c - fb_ct p a) with u | u
    · obtain ⟨x, x1, x2, x3, x4⟩ := ct_ex (p := p) (a := a) (b := c) (t := fb_ct p c - n) (by omega) (by omega)
      have g := i10 x x1 x3 (by omega)
      have := ct_lip p x1
      omega
    · exact u
  obtain ⟨w, p', e', y', w1, w2, w3⟩ := walk_s (M := M1) hc (cc.sm i2) hL i3 i4 i5 i6
  rw [F_X9_bestBegin_89_56, if_neg (by rw [show (100060 : Int32) = zi 100060 from rfl, zi_lt (by omega) (by omega)]; omega), w1, cI_s]
  unfold FsF at w2
  rw [hp] at w2
  rcases w2 with ⟨v, v1, v2, v3, v4, v5⟩ | ⟨v1, v2⟩
  rotate_left
  · left
    refine ⟨r, wkM M1 p' e' y', ?_, wkM_sam i2, BC_end i9 (fun x e x1 x2 x3 => ?_)⟩
    · rw [if_pos (by rw [v1]; rfl)]
    · rcases Nat.lt_or_ge e c with u | u
      · exact u
      · have := v2 e u x3.1
        rw [x3.2.1] at this
        exact absurd this (by decide)
  have ev : fb_ct p v = fb_ct p c := by
    have s := fb_ct_split p c (v - c)
    rw [show c + (v - c) = v by omega, fb_ct_zero.mpr (fun k hk => v4 (c + k) (by omega) (by omega))] at s
    exact s
  have w4 := w3 (by omega)
  rw [v5, show ((v : Int) + 1).toNat = v + 1 by omega] at w4
  subst v5
  have hRG := RG_on hn.1 i7 i8 v1 v3 v4 ev
  have hmn : (fb_ct p c - fb_ct p a) % n < n := Nat.mod_lt _ hn.1
  have hmn2 : (fb_ct p c - fb_ct p a + 1) % n < n := Nat.mod_lt _ hn.1
  rw [if_neg (by rw [show (-1 : Int32) = zi (-1) from rfl, zi_eq (by omega) (by omega)]; omega), if_neg (by rw [show (1 : Int32) = zi 1 from rfl, zi_lt (by omega) (by omega)]; omega), if_pos (by rw [show (60 : Int32) = zi 60 from rfl, zi_le (by omega) (by omega)]; omega), if_neg (by rw [show (0 : Int32) = zi 0 from rfl, zi_eq (by omega) (by omega)]; omega), show (1 : Int32) = zi 1 from rfl, zi_add, zi_sub, zc (show ((fb_ct p c - fb_ct p a : Nat) : Int) + 1 = ((fb_ct p c - fb_ct p a + 1 : Nat) : Int) by omega), zmodN (by omega) (by omega), zmodN (by omega) (by omega), if_pos (zi_ixT (by omega) (by omega)), zi_natN (by omega), zi_natN (by omega)]
  have hsm : sA (wkM M1 p' e' y') 92 ((fb_ct p c - fb_ct p a) % n) (zi v) = wkM (sA M1 92 ((fb_ct p c - fb_ct p a) % n) (zi v)) p' e' y' := rfl
  rw [hsm]
  have hs2 : Sam0 M (sA M1 92 ((fb_ct p c - fb_ct p a) % n) (zi v)) := r92_sam i2
  have hct : fb_ct p (v + 1) = fb_ct p c + 1 := by rw [ctT v3, ev]
  have go : ∀ r' l' : Int, BC p n a last (v + 1) r' l' → (∀ x, a ≤ x → p x = true → fb_ct p x + n ≤ fb_ct p (v + 1) → x ≤ last) → ∃ q' s', q' < q ∧ (fun q s => q = 200000 - (fb_ct p s.2.2.2.2.1 - fb_ct p a) ∧ Sam0 M s.1 ∧ mI s.1 27 2 = zi L ∧ mI s.1 27 3 = zi ((0 : Nat) : Int) ∧ mI s.1 27 4 = zi (tB C L 0) ∧ WK C L s.2.2.2.2.1 s.2.1 s.2.2.1 s.2.2.2.1 ∧ a ≤ s.2.2.2.2.1 ∧ RG p n a s.2.2.2.2.1 s.1 ∧ BC p n a last s.2.2.2.2.1 s.2.2.2.2.2.1 s.2.2.2.2.2.2 ∧ ∀ x, a ≤ x → p x = true → fb_ct p x + n ≤ fb_ct p s.2.2.2.2.1 → x ≤ last) q' s' ∧ F_X9_bestBegin_89_181 (F_X9_bestBegin_89_56 f) (wkM (sA M1 92 ((fb_ct p c - fb_ct p a) % n) (zi v)) p' e' y') (zi last) (zi n) (zi r') (zi l') (zi ((fb_ct p c - fb_ct p a : Nat))) = (fun f (s : PM × Nat × Nat × Int64 × Nat × Int × Int) => F_X9_bestBegin_89_56 f (wkM s.1 s.2.1 s.2.2.1 s.2.2.2.1) (zi last) (zi n) (zi s.2.2.2.2.2.1) (zi s.2.2.2.2.2.2) (zi ((fb_ct p s.2.2.2.2.1 - fb_ct p a : Nat)))) f s' := fun r' l' hB hS => by
    refine ⟨200000 - (fb_ct p (v + 1) - fb_ct p a), (sA M1 92 ((fb_ct p c - fb_ct p a) % n) (zi v), p', e', y', v + 1, r', l'), by rw [hct]; omega, ⟨rfl, hs2, i3, i4, i5, w4, by show a ≤ v + 1; omega, hRG, hB, hS⟩, ?_⟩
    unfold F_X9_bestBegin_89_181
    dsimp only
    rw [show (1 : Int32) = zi 1 from rfl, zi_add, lt_z, hct, zc (show ((fb_ct p c - fb_ct p a : Nat) : Int) + 1 = ((fb_ct p c + 1 - fb_ct p a : Nat) : Int) by omega)]
  by_cases q1 : fb_ct p c - fb_ct p a + 1 < n
  · right
    rw [if_pos (by rw [zi_lt (by omega) (by omega)]; omega)]
    refine go r l (BC_on i9 (by omega) (fun x e x1 x2 x3 x4 x5 => ?_)) (fun x x1 x2 x3 => ?_)
    · have : e = v := by
        rcases Nat.lt_or_ge e v with u | u
        · have := v4 e x4 u; rw [x3.2.1] at this; exact absurd this (by decide)
        · omega
      have e3 := x3.2.2
      rw [this, ev] at e3
      have := fb_ct_mono p x1
      omega
    · have := fb_ct_mono p x1
      omega
  obtain ⟨u, u1, u2, u3, u4⟩ := ct_ex (p := p) (a := a) (b := v + 1) (t := fb_ct p c + 1 - n) (by omega) (by omega)
  have hring : mA (wkM (sA M1 92 ((fb_ct p c - fb_ct p a) % n) (zi v)) p' e' y') 92 ((fb_ct p c - fb_ct p a + 1) % n) = zi u := by
    have := hRG u u1 u2 u3 (by omega)
    rw [show fb_ct p u - fb_ct p a = fb_ct p c - fb_ct p a + 1 - n by omega] at this
    rw [Nat.mod_eq_sub_mod (by omega : fb_ct p c - fb_ct p a + 1 ≥ n)]
    exact this
  rw [if_neg (by rw [zi_lt (by omega) (by omega)]; omega), if_neg (by rw [show (0 : Int32) = zi 0 from rfl, zi_eq (by omega) (by omega)]; omega), if_pos (zi_ixT (by omega) (by omega)), hring, lt_z, minN (by omega) (by omega), cI_s, zi_sub, zi_add]
  have hnew : ∀ x e, a ≤ x → x ≤ last → EN p n x e → c ≤ e → e < v + 1 → e = v ∧ x ≤ min u last := fun x e x1 x2 x3 x4 x5 => by
    have : e = v := by
      rcases Nat.lt_or_ge e v with u | u
      · have := v4 e x4 u; rw [x3.2.1] at this; exact absurd this (by decide)
      · omega
    have e3 := x3.2.2
    rw [this, ev] at e3
    exact ⟨this, Nat.le_min.mpr ⟨ct_le_of u3 (by omega), x2⟩⟩
  have fin : ∀ r' l' : Int, BC p n a last (v + 1) r' l' → -10 ≤ l' → l' ≤ 1000000001 → (∃ r M', F_X9_bestBegin_89_165 (F_X9_bestBegin_89_56 f) (wkM (sA M1 92 ((fb_ct p c - fb_ct p a) % n) (zi v)) p' e' y') (zi last) (zi n) (zi r') (zi l') (zi ((fb_ct p c - fb_ct p a : Nat))) (zi u) = rI (zi r) M' ∧ Sam0 M M' ∧ BB p n a last r) ∨ ∃ q' s', q' < q ∧ (fun q s => q = 200000 - (fb_ct p s.2.2.2.2.1 - fb_ct p a) ∧ Sam0 M s.1 ∧ mI s.1 27 2 = zi L ∧ mI s.1 27 3 = zi ((0 : Nat) : Int) ∧ mI s.1 27 4 = zi (tB C L 0) ∧ WK C L s.2.2.2.2.1 s.2.1 s.2.2.1 s.2.2.2.1 ∧ a ≤ s.2.2.2.2.1 ∧ RG p n a s.2.2.2.2.1 s.1 ∧ BC p n a last s.2.2.2.2.1 s.2.2.2.2.2.1 s.2.2.2.2.2.2 ∧ ∀ x, a ≤ x → p x = true → fb_ct p x + n ≤ fb_ct p s.2.2.2.2.1 → x ≤ last) q' s' ∧ F_X9_bestBegin_89_165 (F_X9_bestBegin_89_56 f) (wkM (sA M1 92 ((fb_ct p c - fb_ct p a) % n) (zi v)) p' e' y') (zi last) (zi n) (zi r') (zi l') (zi ((fb_ct p c - fb_ct p a : Nat))) (zi u) = (fun f (s : PM × Nat × Nat × Int64 × Nat × Int × Int) => F_X9_bestBegin_89_56 f (wkM s.1 s.2.1 s.2.2.1 s.2.2.2.1) (zi last) (zi n) (zi s.2.2.2.2.2.1) (zi s.2.2.2.2.2.2) (zi ((fb_ct p s.2.2.2.2.1 - fb_ct p a : Nat)))) f s' := fun r' l' hB g1 g2 => by
    unfold F_X9_bestBegin_89_165
    by_cases q2 : last < u
    · left
      refine ⟨r', wkM (sA M1 92 ((fb_ct p c - fb_ct p a) % n) (zi v)) p' e' y', by rw [if_pos (by rw [zi_lt (by omega) (by omega)]; omega)], wkM_sam hs2, BC_end hB (fun x e x1 x2 x3 => ?_)⟩
      rcases Nat.lt_or_ge e (v + 1) with t | t
      · exact t
      · have := fb_ct_mono p t
        have e3 := x3.2.2
        have : fb_ct p u < fb_ct p x := by omega
        have := ct_gt_of this
        omega
    · rw [if_neg (by rw [zi_lt (by omega) (by omega)]; omega)]
      by_cases q3 : l' = n
      · left
        refine ⟨r', wkM (sA M1 92 ((fb_ct p c - fb_ct p a) % n) (zi v)) p' e' y', by rw [if_pos (by rw [q3])], wkM_sam hs2, ?_⟩
        rw [q3] at hB
        exact BC_n hn.1 hn.2 hB
      · right
        rw [if_neg (by rw [zi_eq (by omega) (by omega)]; exact q3)]
        refine go r' l' hB (fun x x1 x2 x3 => ?_)
        have : x ≤ u := ct_le_of u3 (by omega)
        omega
  have hlr : 1 ≤ l ∧ l ≤ 1000000001 := by
    rcases i9 with ⟨_, g, _⟩ | ⟨b, e, _, g, _, _, g3, _⟩
    · omega
    · have := EN_ge hn.1 g3
      have := g3.1
      omega
  have huv : u ≤ v := by omega
  generalize hmin : min u last = mn at *
  have mn1 : mn ≤ v := by omega
  have mn2 : a ≤ mn := by omega
  by_cases q4 : l ≤ (v : Int) - mn + 1
  · rw [if_pos (by rw [zi_le (by omega) (by omega)]; omega)]
    exact fin r l (BC_left i9 v1 v2 q4 hnew) (by omega) (by omega)
  · rw [if_neg (by rw [zi_le (by omega) (by omega)]; omega), lt_z]
    refine fin mn ((v : Int) - mn + 1) (BC_take i9 v1 ?_ mn2 (by omega) (by omega) hnew) (by omega) (by omega)
    refine ⟨v2, v3, ?_⟩
    rw [ev]
    by_cases q5 : u ≤ last
    · rw [show mn = u by omega]; omega
    · have em : mn = last := by omega
      have le := fb_ct_mono p (show last ≤ u by omega)
      rw [em]
      rcases Nat.lt_or_ge (fb_ct p last) (fb_ct p u) with t | t
      rotate_left
      · omega
      · exfalso
        -- the end of `last` came before
        have hal := fb_ct_mono p ha
        have hlu : fb_ct p last + 1 = fb_ct p u := by
          rcases Nat.lt_or_ge (fb_ct p last + 1) (fb_ct p u) with t2 | t2
          · obtain ⟨x, x1, x2, x3, x4⟩ := ct_ex (p := p) (a := last + 1) (b := u) (t := fb_ct p u - 1) (by have := ct_lip p (show last ≤ last + 1 by omega); omega) (by omega)
            have := i10 x (by omega) x3 (by omega)
            omega
          · omega
        obtain ⟨e, e1, e2, e3, e4⟩ := ct_ex (p := p) (a := a) (b := c) (t := fb_ct p last + n - 1) (by omega) (by omega)
        have hE : EN p n last e := ⟨by omega, e3, by omega⟩
        rcases i9 with ⟨_, _, g⟩ | ⟨b, e0, _, g, _, _, g3, _, g5⟩
        · exact g last e ha (Nat.le_refl _) hE e2
        · have := (g5 last e ha (Nat.le_refl _) hE e2).1
          omega
