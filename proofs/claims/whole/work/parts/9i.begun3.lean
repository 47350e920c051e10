/-! begun: the reference -/
/-- the best among the begins before x -/
def BX (p : Nat → Bool) (n a last x : Nat) (r l : Int) : Prop := (r = -1 ∧ l = 0 ∧ ∀ x' e, a ≤ x' → x' < x → x' ≤ last → ¬ EN p n x' e) ∨ ∃ b e : Nat, r = (b : Int) ∧ l = (e : Int) - b ∧ a ≤ b ∧ b < x ∧ b ≤ last ∧ EN p n b e ∧ ∀ x' e', a ≤ x' → x' < x → x' ≤ last → EN p n x' e' → e + x' ≤ e' + b ∧ (x' < b → e + x' < e' + b)
theorem BX_end {p : Nat → Bool} {n a last x : Nat} {r l : Int} (h : BX p n a last x r l) (hx : ∀ x' e, a ≤ x' → x' ≤ last → EN p n x' e → x' < x) : BB p n a last r := by
  rcases h with ⟨h1, _, h3⟩ | ⟨b, e, h1, h2, h3, h4, h5, h6, h7⟩
  · exact Or.inl ⟨h1, fun x e x1 x2 x3 => h3 x e x1 (hx x e x1 x2 x3) x2 x3⟩
  · exact Or.inr ⟨b, e, h1, h3, h5, h6, fun x e' x1 x2 x3 => h7 x e' x1 (hx x e' x1 x2 x3) x2 x3⟩
theorem EN_one {p : Nat → Bool} {n x e e' : Nat} (h : EN p n x e) (h' : EN p n x e') : e = e' := fb_ct_kth_one h.2.1 h'.2.1 (by have := h.2.2; have := h'.2.2; omega)
theorem BX_take {p : Nat → Bool} {n a last x e : Nat} {r l : Int} (h : BX p n a last x r l) (ha : a ≤ x) (hl : x ≤ last) (he : EN p n x e) (hq : r = -1 ∨ (e : Int) - x < l) : BX p n a last (x + 1) x ((e : Int) - x) := by
  refine Or.inr ⟨x, e, rfl, rfl, ha, by omega, hl, he, fun x' e' x1 x2 x3 x4 => ?_⟩
  by_cases q : x' = x
  · rw [q] at x4 ⊢
    rw [EN_one he x4]
    exact ⟨Nat.le_refl _, fun h => absurd h (Nat.lt_irrefl _)⟩
  · rcases h with ⟨_, _, h3⟩ | ⟨b, e0, h1, h2, h3, h4, h5, h6, h7⟩
    · exact absurd x4 (h3 x' e' x1 (by omega) x3)
    · have := (h7 x' e' x1 (by omega) x3 x4).1
      exact ⟨by omega, fun _ => by omega⟩
theorem BX_left {p : Nat → Bool} {n a last x e : Nat} {r l : Int} (h : BX p n a last x r l) (he : EN p n x e) (hr : r ≠ -1) (hq : l ≤ (e : Int) - x) : BX p n a last (x + 1) r l := by
  rcases h with ⟨h1, _⟩ | ⟨b, e0, h1, h2, h3, h4, h5, h6, h7⟩
  · exact absurd h1 hr
  · refine Or.inr ⟨b, e0, h1, h2, h3, by omega, h5, h6, fun x' e' x1 x2 x3 x4 => ?_⟩
    by_cases q : x' = x
    · rw [q] at x4 ⊢
      rw [← EN_one he x4]
      exact ⟨by omega, fun h => by omega⟩
    · exact h7 x' e' x1 (by omega) x3 x4
/-- the end goes on to the next free day -/
theorem onend_s {M : PM} {C : Cal} {L w c : Nat} {k : PM → Int32 → Int32 → Int32 → Int32 → Int32 → Int32 → Option PR} {x3 x4 x5 x7 : Int32} (hc : WFC C) (cm : CalM M C) (hL : L < 4096) (hw : w < 8) (hg : mG M 121 w 1 = zi L) (hcb : c ≤ 1000000000) : ∃ r, F_X11_begun_99_159 k FUEL M (zi w) x3 x4 x5 (zi c) x7 = F_X11_begun_99_204 k M (zi w) x3 x4 x5 (zi r) x7 ∧ FsF C L c r := by
  have s2' : mG M 121 (zi (w : Int)).toNatClampNeg (1 : Int32).toNatClampNeg = zi L := by rw [zi_natN (by omega)]; exact hg
  refine loopS (σ := Nat) (fun f s => F_X11_begun_99_159 k f M (zi w) x3 x4 x5 (zi (s : Nat)) x7) (fun o => ∃ r, o = F_X11_begun_99_204 k M (zi w) x3 x4 x5 (zi r) x7 ∧ FsF C L c r) (fun q s => q = 1000000000 - s ∧ c ≤ s ∧ s ≤ 1000000000 ∧ ∀ z, c ≤ z → z < s → fd C L 0 z = false) ?_ (1000000000 - c) c FUEL ⟨rfl, Nat.le_refl _, hcb, fun z h1 h2 => absurd h2 (by omega)⟩ (FUEL_gt (by omega))
  rintro f q s ⟨i1, i2, i3, i4⟩
  show (∃ r, F_X11_begun_99_159 k (f + 1) M (zi w) x3 x4 x5 (zi (s : Nat)) x7 = _ ∧ _) ∨ _
  rw [F_X11_begun_99_159]
  by_cases q1 : 999999999 < s
  · left
    refine ⟨-1, ?_, Or.inr ⟨rfl, fun x x1 x2 => i4 x x1 (by omega)⟩⟩
    rw [if_pos (by rw [show (999999999 : Int32) = zi 999999999 from rfl, zi_lt (by omega) (by omega)]; omega)]
    unfold F_X11_begun_99_189 F_X11_begun_99_202
    rw [if_neg (by rw [show (999999999 : Int32) = zi 999999999 from rfl, zi_le (by omega) (by omega)]; omega)]
    rfl
  · have hfr := isFree_s (d := s) hc cm hL (by omega)
    rw [if_neg (by rw [show (999999999 : Int32) = zi 999999999 from rfl, zi_lt (by omega) (by omega)]; omega), if_pos (zi_ixT (by omega) (by omega)), if_pos ⟨by rw [zi_natN (by omega)]; omega, by decide⟩, s2', hfr, cI_s]
    cases hf : fd C L 0 s with
    | false =>
      right
      refine ⟨1000000000 - (s + 1), s + 1, by omega, ⟨rfl, by omega, by omega, fun z h1 h2 => ?_⟩, ?_⟩
      · by_cases q2 : z = s
        · rw [q2]; exact hf
        · exact i4 z h1 (by omega)
      · rw [if_pos (by decide), show (1 : Int32) = zi 1 from rfl, zi_add, lt_z, zc (show (s : Int) + 1 = ((s + 1 : Nat) : Int) by omega)]
    | true =>
      left
      refine ⟨(s : Nat), ?_, Or.inl ⟨s, i2, by omega, hf, i4, rfl⟩⟩
      rw [if_neg (by decide)]
      unfold F_X11_begun_99_189 F_X11_begun_99_202
      rw [if_pos (by rw [show (999999999 : Int32) = zi 999999999 from rfl, zi_le (by omega) (by omega)]; omega)]
theorem begunM_s {M : PM} {C : Cal} {L w a last n : Nat} {e0 : Int} (hc : WFC C) (cm : CalM M C) (hL : L < 4096) (hw : w < 8) (hg : mG M 121 w 1 = zi L) (hn : 1 ≤ n ∧ n ≤ 60) (ha : a ≤ last) (hl : last ≤ 999999999) (hd : NthF C L 0 a n e0) : ∃ r, F_X11_begun_99_98 FUEL M (zi w) (zi (-1)) (zi 0) (zi last) (zi e0) (zi a) = rI (zi r) M ∧ BB (fd C L 0) n a last r := by
  have hd := NthF_EN hd
  have s2' : mG M 121 (zi (w : Int)).toNatClampNeg (1 : Int32).toNatClampNeg = zi L := by rw [zi_natN (by omega)]; exact hg
  refine loopS (σ := Nat × Int × Int × Int) (fun f s => F_X11_begun_99_98 f M (zi w) (zi s.2.1) (zi s.2.2.1) (zi last) (zi s.2.2.2) (zi (s.1 : Nat))) (fun o => ∃ r, o = rI (zi r) M ∧ BB (fd C L 0) n a last r) (fun q s => q = 1000000000 - s.1 ∧ a ≤ s.1 ∧ s.1 ≤ last + 1 ∧ BX (fd C L 0) n a last s.1 s.2.1 s.2.2.1 ∧ ((∃ e : Nat, EN (fd C L 0) n s.1 e ∧ s.2.2.2 = (e : Int)) ∨ (s.2.2.2 = -1 ∧ ∀ e, ¬ EN (fd C L 0) n s.1 e))) ?_ (1000000000 - a) (a, -1, 0, e0) FUEL ⟨rfl, Nat.le_refl _, by show a ≤ last + 1; omega, Or.inl ⟨rfl, rfl, fun x' e h1 h2 => absurd (show x' < a from h2) (by omega)⟩, by
      rcases hd with h | h
      · exact Or.inl h
      · exact Or.inr ⟨h.1, h.2 hn.1⟩⟩ (FUEL_gt (by omega))
  rintro f q ⟨x, r, l, e⟩ ⟨i1, i2, i3, i4, i5⟩
  simp only at i1 i2 i3 i4 i5
  show (∃ r', F_X11_begun_99_98 (f + 1) M (zi w) (zi r) (zi l) (zi last) (zi e) (zi (x : Nat)) = rI (zi r') M ∧ _) ∨ _
  have hrl : -1 ≤ r ∧ r ≤ 999999999 ∧ -10 ≤ l ∧ l ≤ 999999999 := by
    rcases i4 with ⟨g1, g2, _⟩ | ⟨b, e, g1, g2, _, _, g3, g4, _⟩
    · omega
    · have := EN_ge hn.1 g4
      have := g4.1
      omega
  rw [F_X11_begun_99_98]
  by_cases q1 : last < x
  · left
    refine ⟨r, by rw [if_pos (by rw [zi_lt (by omega) (by omega)]; omega)], BX_end i4 (fun x' e x1 x2 x3 => by omega)⟩
  rw [if_neg (by rw [zi_lt (by omega) (by omega)]; omega)]
  rcases i5 with ⟨e, j1, rfl⟩ | ⟨rfl, j2⟩
  rotate_left
  · left
    refine ⟨r, by rw [if_pos (show zi (-1) = -1 from rfl)], BX_end i4 (fun x' e x1 x2 x3 => ?_)⟩
    rcases Nat.lt_or_ge x' x with u | u
    · exact u
    · obtain ⟨e2, h⟩ := EN_back hn.1 x3 u
      exact absurd h (j2 e2)
  have je := EN_ge hn.1 j1
  have jb := j1.1
  rw [if_neg (by rw [show (-1 : Int32) = zi (-1) from rfl, zi_eq (by omega) (by omega)]; omega)]
  have step : ∀ r' l' : Int, BX (fd C L 0) n a last (x + 1) r' l' → ∃ q' s', q' < q ∧ (fun q (s : Nat × Int × Int × Int) => q = 1000000000 - s.1 ∧ a ≤ s.1 ∧ s.1 ≤ last + 1 ∧ BX (fd C L 0) n a last s.1 s.2.1 s.2.2.1 ∧ ((∃ e : Nat, EN (fd C L 0) n s.1 e ∧ s.2.2.2 = (e : Int)) ∨ (s.2.2.2 = -1 ∧ ∀ e, ¬ EN (fd C L 0) n s.1 e))) q' s' ∧ F_X11_begun_99_136 (F_X11_begun_99_98 f) M (zi w) (zi r') (zi l') (zi last) (zi (e : Int)) (zi (x : Nat)) = (fun f (s : Nat × Int × Int × Int) => F_X11_begun_99_98 f M (zi w) (zi s.2.1) (zi s.2.2.1) (zi last) (zi s.2.2.2) (zi (s.1 : Nat))) f s' := fun r' l' hB => by
    have hfr := isFree_s (d := x) hc cm hL (by omega)
    unfold F_X11_begun_99_136
    rw [if_pos (zi_ixT (by omega) (by omega)), if_pos ⟨by rw [zi_natN (by omega)]; omega, by decide⟩, s2', hfr, cI_s]
    cases hf : fd C L 0 x with
    | false =>
      refine ⟨1000000000 - (x + 1), (x + 1, r', l', (e : Int)), by omega, ⟨rfl, by show a ≤ x + 1; omega, by show x + 1 ≤ last + 1; omega, hB, Or.inl ⟨e, ⟨j1.1, j1.2.1, by show _ = fb_ct (fd C L 0) (x + 1) + n; rw [ctF hf]; exact j1.2.2⟩, rfl⟩⟩, ?_⟩
      rw [if_pos (by decide)]
      unfold F_X11_begun_99_204
      dsimp only
      rw [show (1 : Int32) = zi 1 from rfl, zi_add, lt_z, zc (show (x : Int) + 1 = ((x + 1 : Nat) : Int) by omega)]
    | true =>
      obtain ⟨v, v1, v2⟩ := onend_s (k := F_X11_begun_99_98 f) (x3 := zi r') (x4 := zi l') (x5 := zi last) (x7 := zi (x : Nat)) (c := e + 1) hc cm hL hw hg (by omega)
      rw [if_neg (by decide), show (1 : Int32) = zi 1 from rfl, zi_add, lt_z, zc (show (e : Int) + 1 = ((e + 1 : Nat) : Int) by omega), v1]
      refine ⟨1000000000 - (x + 1), (x + 1, r', l', v), by omega, ⟨rfl, by show a ≤ x + 1; omega, by show x + 1 ≤ last + 1; omega, hB, ?_⟩, ?_⟩
      · show (∃ e : Nat, EN (fd C L 0) n (x + 1) e ∧ v = (e : Int)) ∨ (v = -1 ∧ ∀ e, ¬ EN (fd C L 0) n (x + 1) e)
        unfold EN
        rw [ctT hf]
        have he1 : fb_ct (fd C L 0) (e + 1) = fb_ct (fd C L 0) e + 1 := ctT j1.2.1
        have je3 := j1.2.2
        rcases v2 with ⟨u, u1, u2, u3, u4, u5⟩ | ⟨u1, u2⟩
        · refine Or.inl ⟨u, ⟨u2, u3, ?_⟩, u5⟩
          have s := fb_ct_split (fd C L 0) (e + 1) (u - (e + 1))
          rw [show e + 1 + (u - (e + 1)) = u by omega, fb_ct_zero.mpr (fun k hk => u4 (e + 1 + k) (by omega) (by omega))] at s
          omega
        · refine Or.inr ⟨u1, fun z hz => ?_⟩
          have : e < z := ct_gt_of (p := fd C L 0) (by omega)
          have := u2 z (by omega) hz.1
          rw [hz.2.1] at this
          exact absurd this (by decide)
      · unfold F_X11_begun_99_204
        dsimp only
        rw [show (1 : Int32) = zi 1 from rfl, zi_add, lt_z, zc (show (x : Int) + 1 = ((x + 1 : Nat) : Int) by omega)]
  have take : (r = -1 ∨ (e : Int) - x < l) → _ := fun hq => step x ((e : Int) - x) (BX_take i4 i2 (by omega) j1 hq)
  right
  by_cases q2 : r = -1
  · rw [if_pos (by rw [q2]; rfl)]
    unfold F_X11_begun_99_126
    rw [zi_sub, lt_z]
    exact take (Or.inl q2)
  · rw [if_neg (by rw [show (-1 : Int32) = zi (-1) from rfl, zi_eq (by omega) (by omega)]; omega), zi_sub]
    by_cases q3 : l ≤ (e : Int) - x
    · rw [if_pos (by rw [zi_le (by omega) (by omega)]; omega)]
      exact step r l (BX_left i4 j1 q2 q3)
    · rw [if_neg (by rw [zi_le (by omega) (by omega)]; omega)]
      unfold F_X11_begun_99_126
      rw [zi_sub, lt_z]
      exact take (Or.inr (by omega))
theorem ok31 : OK_31 Rel := fun M a1 a2 hR => by
  obtain ⟨x, rfl, hx⟩ := zi_rng a1
  obtain ⟨z, rfl, hz⟩ := zi_rng a2
  have hR2 := hR
  obtain ⟨C, S, W, h1, h2, h3, h4, h5, h6, h7, h8, h9, h10, h11, h12⟩ := hR2
  have hb := h1.1.1
  have hk8 := h4.2.2.1.2.2
  have hp2 := p2 h1.1.1
  unfold c_31 w_begun
  by_cases hd : 0 ≤ z ∧ z ≤ 999999999
  · by_cases hw : 0 ≤ x ∧ x < kN S
    · obtain ⟨w, rfl, hw2⟩ := natOf hw
      obtain ⟨d, rfl, hd2⟩ := natOf (z := z) (n := 1000000000) ⟨hd.1, by omega⟩
      obtain ⟨w1, w2⟩ := h4.2.2.2.2.2 w hw2
      obtain ⟨s1, s2⟩ := h5.2.2.2.2 w hw2
      have t4p := t4_pos h1
      have t4l := t4_le h1
      have hmn : min (d + t4 C - 1) 999999999 < d + 100000 := by omega
      have hmn2 : d ≤ min (d + t4 C - 1) 999999999 := by omega
      have hmn3 : min (d + t4 C - 1) 999999999 ≤ 999999999 := by omega
      have bsm : Sam0 M (brM M (kL S w) 0 (tB C (kL S w) 0)) := brM_sam.1
      obtain ⟨r, M1, r1, r2, r3⟩ := best_s (M := brM M (kL S w) 0 (tB C (kL S w) 0)) (L := kL S w) (n := kD S w) h1 (h2.sm bsm) (by omega) w1 rfl rfl rfl hmn2 hmn3 hmn
      refine okq2 (x := zi r) (M1 := M1) hR ?_ (bsm.tr r2) (fun M' hs => ⟨sI M' 99 0 (zi 0), ?_, th0, Sam.th⟩)
      · have e6 : mI M 3 6 = zi (t4 C) := h2.2.2.2.1.2.2.1
        have s2' : mA M 26 (zi (w : Int)).toNatClampNeg = zi (kL S w) := by rw [zi_natN (by omega)]; exact s2
        have s1' : mA M 25 (zi (w : Int)).toNatClampNeg = zi (kD S w) := by rw [zi_natN (by omega)]; exact s1
        have hbr := bar_s (L := kL S w) (O := 0) h1 h2 (by omega) (by omega)
        unfold F_X10_begun_0
        rw [needDay_t hd, bV_s, needWork_t h5.2.1.2.2 (by omega) hw, bV_s, e6, show (1 : Int32) = zi 1 from rfl, show (999999999 : Int32) = zi ((999999999 : Nat) : Int) from rfl, zi_add, zi_sub, zc (show (d : Int) + (t4 C : Int) - 1 = ((d + t4 C - 1 : Nat) : Int) by omega), minN (by omega) (by omega), cI_s]
        unfold F_X9_bestBegin_89
        rw [isWorkC_t h5.2.1.2.2 hk8 hw2, cI_s, if_neg (by decide), if_pos (zi_ixT (by omega) (by omega)), s1', lt_z, if_pos (zi_ixT (by omega) (by omega)), s2', show (0 : Int32) = zi ((0 : Nat) : Int) from rfl, hbr, cV_s]
        unfold F_X1_walkFrom_27
        rw [cV_s]
        have r1' := r1
        unfold wkM at r1'
        rw [show (-1 : Int32) = zi (-1) from rfl, show (1000000001 : Int32) = zi 1000000001 from rfl]
        show cI (F_X9_bestBegin_89_56 FUEL _ _ _ _ _ (zi 0)) _ = _
        rw [r1', cI_s]
      · have c : CalM (sI M' 99 0 (zi 0)) C := h3.sm (hs.tr Sam.th.1)
        have s : StaM (sI M' 99 0 (zi 0)) C S := h6.sm (hs.tr Sam.th.1)
        obtain ⟨q, q1, q2⟩ := doneOf_s (a := d) h1 h4 c s hw2 (by omega)
        obtain ⟨r', g1, g2⟩ := begunM_s (w := w) (last := min (d + t4 C - 1) 999999999) h1 c (show kL S w < 4096 by omega) (by omega) (s.2.2.2.2 w hw2).2 w1 hmn2 hmn3 q2
        have e4 : mA (sI M' 99 0 (zi 0)) 103 4 = zi (t4 C) := c.1.2.2.2.2.1
        rw [BB_one r3 g2]
        unfold F_X11_begun_99
        rw [show (0 : Int32) = zi 0 from rfl, isDay_t hd, cI_s, if_neg (by decide)]
        unfold F_X11_begun_99_18
        rw [show (0 : Int32) = zi 0 from rfl, bad_f th0, cI_s, if_pos rfl, isWorkM_t s.2.1.2.2 (by omega) hw, cI_s, if_neg (by decide)]
        unfold F_X11_begun_99_40
        rw [bad_f th0, cI_s, if_pos (show zi 0 = 0 from rfl), if_pos (by decide), show (4 : Int32).toNatClampNeg = 4 from by decide, e4, show (999999999 : Int32) = zi 999999999 from rfl, show (1 : Int32) = zi 1 from rfl, zi_sub, zi_add, zi_add, zi_sub]
        have fin : F_X11_begun_99_85 (sI M' 99 0 (zi 0)) (zi w) (zi d) (-1) 0 (zi ((min (d + t4 C - 1) 999999999 : Nat))) = rI (zi r') (sI M' 99 0 (zi 0)) := by
          unfold F_X11_begun_99_85
          rw [q1, cI_s]
          exact g1
        by_cases q5 : d + t4 C ≤ 1000000000
        · rw [if_pos (by rw [zi_le (by omega) (by omega)]; omega), if_pos (by decide), zc (show (d : Int) + (t4 C : Int) - 1 = ((min (d + t4 C - 1) 999999999 : Nat) : Int) by omega)]
          exact fin
        · rw [if_neg (by rw [zi_le (by omega) (by omega)]; omega), zc (show (999999999 : Int) = ((min (d + t4 C - 1) 999999999 : Nat) : Int) by omega)]
          exact fin
    · refine okr3 (y := zi 0) 1 hR (by decide) (by decide) ?_ ?_
      · unfold F_X10_begun_0
        simp (disch := omega) only [lt_z, cI_s, cJ_s, cV_s, bI_s, bI_e, bV_s, bV_e, zl, zi_neg, zi_add, zi_sub, zi_mul, ↓reduceIte, zb0, zb1, bb_and, bb_t, bb_f, zi_ltT, zi_ltF, zi_leT, zi_leF, zi_eqT, zi_eqF, zi_ixT, zi_nat, Int.toNat_natCast, Int.reduceToNat, ltNT, and_self, needDay_t, needWork_f h5.2.1.2.2]
      · have s : mI (sI (rf M 1) 99 0 (zi 0)) 99 34 = zi (kN S) := h6.2.1.2.2
        unfold F_X11_begun_99
        rw [show (0 : Int32) = zi 0 from rfl, isDay_t hd, cI_s, if_neg (by decide)]
        unfold F_X11_begun_99_18
        rw [show (0 : Int32) = zi 0 from rfl, bad_f th0, cI_s, if_pos rfl, isWorkM_f s (by omega) hx hw, cI_s, if_pos rfl]
        unfold F_X11_begun_99_40
        rw [show (1 : Int32) = zi 1 from rfl, show (2 : Int32) = zi 2 from rfl, bad_t th0 (by decide) (by decide), cI_s, if_neg (by decide)]
        rfl
  · refine okr2 (y := zi 0) 0 hR (by decide) ?_ ?_
    · unfold F_X10_begun_0
      simp (disch := omega) only [lt_z, cI_s, cJ_s, cV_s, bI_s, bI_e, bV_s, bV_e, zl, zi_neg, zi_add, zi_sub, zi_mul, ↓reduceIte, zb0, zb1, bb_and, bb_t, bb_f, zi_ltT, zi_ltF, zi_leT, zi_leF, zi_eqT, zi_eqF, zi_ixT, zi_nat, Int.toNat_natCast, Int.reduceToNat, ltNT, and_self, needDay_f]
    · unfold F_X11_begun_99
      rw [show (0 : Int32) = zi 0 from rfl, isDay_f hz hd, cI_s, if_pos rfl]
      unfold F_X11_begun_99_18
      rw [show (1 : Int32) = zi 1 from rfl, show (0 : Int32) = zi 0 from rfl, bad_t th0 (by decide) (by decide), cI_s, if_neg (by decide)]
      rfl
