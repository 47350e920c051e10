/-! wish: rows of parts -/
def PT (b : Nat → Nat) (n : Nat) (C : Cal) (g t : Nat) : Prop := ∀ op, op ≤ 6 → 3 * (6 - op) + 3 ≤ g + t → ∀ M p s W, CalC M C → TC b M n p s 0 (-1) → DWC M W → WFd C W → 3 * hN W ≤ p → ∃ M' o, G_read g t M (zi op) = rV M' ∧ KWc M M' ∧ StWC b n M' o ∧ OKo C n p W o ∧ ∀ Mr, CalM Mr C → StWM b n Mr C (wGood p W) op → ∃ Mr', G_orow g t Mr = rV Mr' ∧ SamM Mr Mr' ∧ StWM b n Mr' C o op
theorem OKo_sb {C : Cal} {n p p' : Nat} {W W' : Wsh} {b : Nat → Nat} (h : OKo C n p W (wGood p' W')) (hp : p' ≤ n) : OKo C n p W (wGood (sb b n p') W') := fun _ => by
  obtain ⟨h1, h2, h3, h4, h5, h6⟩ := h rfl
  have h1' : 3 * hN W' + 1 + p ≤ p' + 3 * hN W := h1
  have hg : p' ≤ sb b n p' := rn_ge b isBl n p'
  exact ⟨by show 3 * hN W' + 1 + p ≤ sb b n p' + 3 * hN W; omega, h2, h3, h4, h5, rn_le b isBl hp⟩
/-- two parts joined -/
theorem OKo_two {C : Cal} {n p p' p1 p2 s : Nat} {W W' W2 : Wsh} (hn : n ≤ 200) (h3 : 3 * hN W ≤ p) (h : OKo C n p W (wGood p' W')) (h2 : OKo C n p1 W' (wGood p2 W2)) (hp : p' + 2 ≤ p1) (hs : s = 6 ∨ s = 7) : OKo C n p W (wGood p2 (addW W2 s 0 0)) ∧ hN W2 < 100 := by
  obtain ⟨a1, a2, a3, a4, a5, a6⟩ := h rfl
  obtain ⟨b1, b2, b3, b4, b5, b6⟩ := h2 rfl
  have a1' : 3 * hN W' + 1 + p ≤ p' + 3 * hN W := a1
  have b1' : 3 * hN W2 + 1 + p1 ≤ p2 + 3 * hN W' := b1
  have a4' : hDep W' (hN W') = hDep W (hN W) + 1 := a4
  have b4' : hDep W2 (hN W2) = hDep W' (hN W') + 1 := b4
  have a2' : hN W ≤ hN W' := a2
  have b2' : hN W' ≤ hN W2 := b2
  have b6' : p2 ≤ n := b6
  have hlt : hN W2 < 100 := by omega
  refine ⟨fun _ => ⟨by show 3 * (hN W2 + 1) + 1 + p ≤ p2 + 3 * hN W; omega, by show hN W ≤ hN W2 + 1; omega, fun i hi => ?_, ?_, WFd_add b5 hlt ⟨by omega, fun u => by omega, fun u => by omega, fun u => by omega, fun u => by omega, fun u => by omega, fun u => by omega, fun _ => by omega⟩, b6⟩, hlt⟩
  · show (if i = hN W2 then s else hS W2 i) = hS W i
    rw [if_neg (by omega)]
    exact (b3 i (by show i < hN W'; omega)).trans (a3 i hi)
  · show hDep (addW W2 s 0 0) (hN W2 + 1) = _
    rw [addW_dep1, if_neg (by omega), if_neg (by omega)]
    omega
theorem loopJ {b : Nat → Nat} {n g op p : Nat} {C : Cal} {W : Wsh} (hn : n ≤ 200) (ih : PT b n C g 2) (hop : op ≤ 6) (hfu : 3 * (6 - op) + 3 ≤ g + 2) (h3 : 3 * hN W ≤ p) : ∀ m M p' s' W' x3, n - p' ≤ m → CalC M C → TC b M n p' s' 0 (-1) → DWC M W' → OKo C n p W (wGood p' W') → x3 + 1 ≤ p' → ∃ M' o, (∀ f, m < f → F_X8_readJoined_88_82_8 (G_read g) f M (zi op) (zi ((x3 : Nat) : Int)) = rV M') ∧ KWc M M' ∧ StWC b n M' o ∧ OKo C n p W o ∧ ∀ Mr, CalM Mr C → StWM b n Mr C (wGood p' W') op → ∃ Mr', (∀ f, m < f → F_X11_andRow_99_4 (G_orow g) f Mr = rV Mr') ∧ SamM Mr Mr' ∧ StWM b n Mr' C o op
  | 0, M, p', s', W', x3, hm, cc, h, hd, ho, hx => by
    have hp := h.2.2.2.2.2.1
    obtain ⟨M1, a1, a2, a3, a4, a5⟩ := takC (k := 9) h hd (by decide)
    have hle : sb b n p' ≤ n := rn_le b isBl hp
    have hge : p' ≤ sb b n p' := rn_ge b isBl n p'
    have v : wdB b n 9 (sb b n p') = false := by
      cases v : wdB b n 9 (sb b n p')
      · rfl
      · have t := a4 v
        have := t.2.2.2.2.2.1
        have hl : wLn 9 = 3 := rfl
        omega
    refine ⟨M1, wGood (sb b n p') W', fun f hf => ?_, a2.kw, Or.inl ⟨rfl, ⟨s', a5 v⟩, a3⟩, OKo_sb ho hp, fun Mr cm hr => ?_⟩
    · obtain ⟨f', rfl⟩ : ∃ f', f = f' + 1 := ⟨f - 1, by omega⟩
      rw [F_X8_readJoined_88_82_8, if_neg (by rw [show (200 : Int32) = zi 200 from rfl, zi_le (by omega) (by omega)]; omega), a1, cI_s, v, if_pos (by decide)]
    · obtain ⟨N1, b1, b2, b3, b4, b5⟩ := takW (k := 9) (a1 := 1) (a2 := 14) (a3 := 4) (a4 := 0) (a5 := 0) hr cm (by decide) (fun _ => rfl)
      refine ⟨N1, fun f hf => ?_, b2, b5 v⟩
      obtain ⟨f', rfl⟩ : ∃ f', f = f' + 1 := ⟨f - 1, by omega⟩
      rw [F_X11_andRow_99_4, b1, cI_s, v, if_pos (by decide)]
  | m + 1, M, p', s', W', x3, hm, cc, h, hd, ho, hx => by
    have hp := h.2.2.2.2.2.1
    obtain ⟨o1, o2, o3, o4, o5, o6⟩ := ho rfl
    have o1' : 3 * hN W' + 1 + p ≤ p' + 3 * hN W := o1
    have hge : p' ≤ sb b n p' := rn_ge b isBl n p'
    obtain ⟨M1, a1, a2, a3, a4, a5⟩ := takC (k := 9) h hd (by decide)
    cases v : wdB b n 9 (sb b n p') with
    | false =>
      refine ⟨M1, wGood (sb b n p') W', fun f hf => ?_, a2.kw, Or.inl ⟨rfl, ⟨s', a5 v⟩, a3⟩, OKo_sb ho hp, fun Mr cm hr => ?_⟩
      · obtain ⟨f', rfl⟩ : ∃ f', f = f' + 1 := ⟨f - 1, by omega⟩
        rw [F_X8_readJoined_88_82_8, if_neg (by rw [show (200 : Int32) = zi 200 from rfl, zi_le (by omega) (by omega)]; omega), a1, cI_s, v, if_pos (by decide)]
      · obtain ⟨N1, b1, b2, b3, b4, b5⟩ := takW (k := 9) (a1 := 1) (a2 := 14) (a3 := 4) (a4 := 0) (a5 := 0) hr cm (by decide) (fun _ => rfl)
        refine ⟨N1, fun f hf => ?_, b2, b5 v⟩
        obtain ⟨f', rfl⟩ : ∃ f', f = f' + 1 := ⟨f - 1, by omega⟩
        rw [F_X11_andRow_99_4, b1, cI_s, v, if_pos (by decide)]
    | true =>
      have hl : wLn 9 = 3 := rfl
      have t1 := a4 v
      rw [hl] at t1
      have hp1 := t1.2.2.2.2.2.1
      obtain ⟨M2, q1, c1, c2, c3, c4, c5⟩ := ih op hop hfu M1 (sb b n p' + 3) (sb b n p') W' (cc.sm a2.sam) t1 a3 o5 (by omega)
      rcases c3 with ⟨u1, ⟨s2, u2⟩, u3⟩ | ⟨u1, ⟨pp, s2, u2⟩, u3⟩
      · -- the part is there
        obtain ⟨e0, p2, W2, rfl⟩ : ∃ e0 p2 W2, q1 = (0, e0, p2, W2) := ⟨q1.2.1, q1.2.2.1, q1.2.2.2, Prod.ext u1 rfl⟩
        have c4' : OKo C n (sb b n p' + 3) W' (wGood p2 W2) := c4
        obtain ⟨d1, d2⟩ := OKo_two (s := 6) hn h3 ho c4' (by omega) (by decide)
        obtain ⟨g1, _, _, _, _, g6⟩ := c4' rfl
        have g1' : 3 * hN W2 + 1 + (sb b n p' + 3) ≤ p2 + 3 * hN W' := g1
        have g2' : hN W' ≤ hN W2 := (c4' rfl).2.1
        have u2' : TC b M2 n p2 s2 0 (-1) := u2
        have u3' : DWC M2 W2 := u3
        have hpl : p2 ≤ n := g6
        have kk := (a2.kw.tr c2).tr (adM_kw (M := M2) (k := hN W2) (x := zi 6) (y := zi 0) (z := zi 0))
        obtain ⟨M', o, x1, x2, x3', x4, x5⟩ := loopJ hn ih hop hfu h3 m (adM M2 (hN W2) (zi 6) (zi 0) (zi 0)) p2 s2 (addW W2 6 0 0) (x3 + 1) (by omega) (cc.sm kk.1) (adM_tc u2') (adM_dwc (s := 6) (a := 0) (c := 0) u3') d1 (by omega)
        refine ⟨M', o, fun f hf => ?_, kk.tr x2, x3', x4, fun Mr cm hr => ?_⟩
        · obtain ⟨f', rfl⟩ : ∃ f', f = f' + 1 := ⟨f - 1, by omega⟩
          have x1' := x1 f' (by omega)
          have ad : F_X7_add_82 M2 6 0 0 = rV (adM M2 (hN W2) (zi 6) (zi 0) (zi 0)) := adM_s u3'.1 d2
          rw [F_X8_readJoined_88_82_8, if_neg (by rw [show (200 : Int32) = zi 200 from rfl, zi_le (by omega) (by omega)]; omega), a1, cI_s, v, if_neg (by decide), c1, cV_s, ad, cV_s, show (1 : Int32) = zi 1 from rfl, zi_add, lt_z, zc (show (x3 : Int) + 1 = ((x3 + 1 : Nat) : Int) by omega), x1']
        · obtain ⟨N1, b1, b2, b3, b4, b5⟩ := takW (k := 9) (a1 := 1) (a2 := 14) (a3 := 4) (a4 := 0) (a5 := 0) hr cm (by decide) (fun _ => rfl)
          have hb4 := b4 v
          rw [hl] at hb4
          obtain ⟨N2, y1, y2, y3⟩ := c5 N1 b3 hb4
          have y3' : StWM b n N2 C (wGood p2 W2) op := by
            rcases y3 with ⟨w1, w2, w3, w4⟩ | ⟨w1, _⟩
            · exact Or.inl ⟨rfl, w2, w3, w4⟩
            · exact absurd rfl w1
          obtain ⟨r1, r2, r3⟩ := StWM_in y3'
          obtain ⟨N3, z1, z2, z3, z4, z5⟩ := says_m (s := 6) (a := 0) (c := 0) (C := C) (W := W2) r1 r2.1 (by rw [rtW_add, if_neg (by decide)]; exact r2.2.1) r2.2.2 d2
          obtain ⟨N4, t1', t2', t3'⟩ := x5 N3 ((b3.sm y2.1.1).sm z2.1.1) (Or.inl ⟨rfl, z3, z4, z5.trans r3⟩)
          refine ⟨N4, fun f hf => ?_, ((b2.tr y2).tr z2).tr t2', t3'⟩
          obtain ⟨f', rfl⟩ : ∃ f', f = f' + 1 := ⟨f - 1, by omega⟩
          have z1' : F_X11_says_99 N2 6 0 0 = rV N3 := z1
          rw [F_X11_andRow_99_4, b1, cI_s, v, if_neg (by decide), y1, cV_s, z1', cV_s, t1' f' (by omega)]
      · -- a fault in the part
        obtain ⟨M3, a6, a7, a8, a9⟩ := addF (x := 6) (y := 0) (z := 0) u2 u3 (fun e => absurd e (by decide))
        obtain ⟨vv, M4, w1, w2, w3, w4, w5⟩ := word_c (k := 9) a8 (by decide)
        have hvv : vv = false := by
          cases vv
          · rfl
          · exact absurd (w2.mp rfl).1 u1
        refine ⟨M4, q1, fun f hf => ?_, ((a2.kw.tr c2).tr a7).tr w3.kw, Or.inr ⟨u1, ⟨_, _, w5 hvv⟩, a9.kt w3⟩, fun u => absurd u u1, fun Mr cm hr => ?_⟩
        · obtain ⟨f', rfl⟩ : ∃ f', f = f' + 1 + 1 := ⟨f - 2, by omega⟩
          rw [F_X8_readJoined_88_82_8, if_neg (by rw [show (200 : Int32) = zi 200 from rfl, zi_le (by omega) (by omega)]; omega), a1, cI_s, v, if_neg (by decide), c1, cV_s, a6, cV_s, show (1 : Int32) = zi 1 from rfl, zi_add, lt_z, F_X8_readJoined_88_82_8, if_neg (by rw [show (200 : Int32) = zi 200 from rfl, zi_le (by omega) (by omega)]; omega), w1, cI_s, hvv, if_pos (by decide)]
        · obtain ⟨N1, b1, b2, b3, b4, b5⟩ := takW (k := 9) (a1 := 1) (a2 := 14) (a3 := 4) (a4 := 0) (a5 := 0) hr cm (by decide) (fun _ => rfl)
          have hb4 := b4 v
          rw [hl] at hb4
          obtain ⟨N2, y1, y2, y3⟩ := c5 N1 b3 hb4
          rcases y3 with ⟨z1, _⟩ | ⟨z1, pz, z2⟩
          · exact absurd z1 u1
          · obtain ⟨vz, N3, k1, k2, _, k4⟩ := takes_m (k := 9) (a1 := 1) (a2 := 14) (a3 := 4) (a4 := 0) (a5 := 0) z2 (by decide) (fun _ => rfl)
            obtain ⟨k5, k6⟩ := k4 z1
            subst k5 k6
            refine ⟨N3, fun f hf => ?_, b2.tr y2, Or.inr ⟨z1, pz, z2⟩⟩
            obtain ⟨f', rfl⟩ : ∃ f', f = f' + 1 + 1 := ⟨f - 2, by omega⟩
            rw [F_X11_andRow_99_4, b1, cI_s, v, if_neg (by decide), y1, cV_s, saysF z2 z1, cV_s, F_X11_andRow_99_4, k1, cI_s, if_pos (by decide)]
theorem ptJ {b : Nat → Nat} {n g : Nat} {C : Cal} (hn : n ≤ 200) (ih : PT b n C g 2) : PT b n C (g + 1) 1 := fun op hop hfu M p s W cc h hd hw h3 => by
  obtain ⟨M2, q1, c1, c2, c3, c4, c5⟩ := ih op hop (by omega) M p s W cc h hd hw h3
  show ∃ M' o, F_X8_readJoined_88_82 (G_read g) M (zi op) = rV M' ∧ KWc M M' ∧ StWC b n M' o ∧ OKo C n p W o ∧ ∀ Mr, CalM Mr C → StWM b n Mr C (wGood p W) op → ∃ Mr', F_X11_andRow_99 (G_orow g) Mr = rV Mr' ∧ SamM Mr Mr' ∧ StWM b n Mr' C o op
  unfold F_X8_readJoined_88_82
  rw [c1, cV_s]
  rcases c3 with ⟨u1, ⟨s2, u2⟩, u3⟩ | ⟨u1, ⟨pp, s2, u2⟩, u3⟩
  · obtain ⟨e0, p2, W2, rfl⟩ : ∃ e0 p2 W2, q1 = (0, e0, p2, W2) := ⟨q1.2.1, q1.2.2.1, q1.2.2.2, Prod.ext u1 rfl⟩
    have c4' : OKo C n p W (wGood p2 W2) := c4
    obtain ⟨g1, g2, _, _, _, g6⟩ := c4' rfl
    have g1' : 3 * hN W2 + 1 + p ≤ p2 + 3 * hN W := g1
    have g2' : hN W ≤ hN W2 := g2
    obtain ⟨M', o, x1, x2, x3', x4, x5⟩ := loopJ hn ih hop (by omega) h3 n M2 p2 s2 W2 0 (by omega) (cc.sm c2.1) u2 u3 c4' (by omega)
    refine ⟨M', o, x1 FUEL (FUEL_gt (by omega)), c2.tr x2, x3', x4, fun Mr cm hr => ?_⟩
    obtain ⟨N2, y1, y2, y3⟩ := c5 Mr cm hr
    have y3' : StWM b n N2 C (wGood p2 W2) op := by
      rcases y3 with ⟨w1, w2, w3, w4⟩ | ⟨w1, _⟩
      · exact Or.inl ⟨rfl, w2, w3, w4⟩
      · exact absurd rfl w1
    obtain ⟨N3, z1, z2, z3⟩ := x5 N2 (cm.sm y2.1.1) y3'
    refine ⟨N3, ?_, y2.tr z2, z3⟩
    unfold F_X11_andRow_99
    rw [y1, cV_s]
    exact z1 FUEL (FUEL_gt (by omega))
  · obtain ⟨vv, M4, w1, w2, w3, w4, w5⟩ := word_c (k := 9) u2 (by decide)
    have hvv : vv = false := by
      cases vv
      · rfl
      · exact absurd (w2.mp rfl).1 u1
    have hcl : F_X8_readJoined_88_82_8 (G_read g) FUEL M2 (zi op) 0 = rV M4 := by
      refine loopS (σ := Unit) (fun f _ => F_X8_readJoined_88_82_8 (G_read g) f M2 (zi op) 0) (fun o => o = rV M4) (fun _ _ => True) ?_ 0 () FUEL trivial (FUEL_gt (by omega))
      rintro f r _ _
      left
      show F_X8_readJoined_88_82_8 (G_read g) (f + 1) M2 (zi op) 0 = _
      rw [F_X8_readJoined_88_82_8, if_neg (by decide), w1, cI_s, hvv, if_pos (by decide)]
    refine ⟨M4, q1, hcl, c2.tr w3.kw, Or.inr ⟨u1, ⟨_, _, w5 hvv⟩, u3.kt w3⟩, fun u => absurd u u1, fun Mr cm hr => ?_⟩
    obtain ⟨N2, y1, y2, y3⟩ := c5 Mr cm hr
    rcases y3 with ⟨z1, _⟩ | ⟨z1, pz, z2⟩
    · exact absurd z1 u1
    · obtain ⟨vz, N3, k1, k2, _, k4⟩ := takes_m (k := 9) (a1 := 1) (a2 := 14) (a3 := 4) (a4 := 0) (a5 := 0) z2 (by decide) (fun _ => rfl)
      obtain ⟨k5, k6⟩ := k4 z1
      subst k5 k6
      refine ⟨N3, ?_, y2, Or.inr ⟨z1, pz, z2⟩⟩
      unfold F_X11_andRow_99
      rw [y1, cV_s]
      refine loopS (σ := Unit) (fun f _ => F_X11_andRow_99_4 (G_orow g) f N3) (fun o => o = rV N3) (fun _ _ => True) ?_ 0 () FUEL trivial (FUEL_gt (by omega))
      rintro f r _ _
      left
      show F_X11_andRow_99_4 (G_orow g) (f + 1) N3 = _
      rw [F_X11_andRow_99_4, k1, cI_s, if_pos (by decide)]
theorem loopO {b : Nat → Nat} {n g op p : Nat} {C : Cal} {W : Wsh} (hn : n ≤ 200) (ih : PT b n C g 1) (hop : op ≤ 6) (hfu : 3 * (6 - op) + 3 ≤ g + 1) (h3 : 3 * hN W ≤ p) : ∀ m M p' s' W' x3, n - p' ≤ m → CalC M C → TC b M n p' s' 0 (-1) → DWC M W' → OKo C n p W (wGood p' W') → x3 + 1 ≤ p' → ∃ M' o, (∀ f, m < f → F_X8_readChoice_88_82_8 (G_read g) f M (zi op) (zi ((x3 : Nat) : Int)) = rV M') ∧ KWc M M' ∧ StWC b n M' o ∧ OKo C n p W o ∧ ∀ Mr, CalM Mr C → StWM b n Mr C (wGood p' W') op → ∃ Mr', (∀ f, m < f → F_X11_orRow_99_4 (G_orow g) f Mr = rV Mr') ∧ SamM Mr Mr' ∧ StWM b n Mr' C o op
  | 0, M, p', s', W', x3, hm, cc, h, hd, ho, hx => by
    have hp := h.2.2.2.2.2.1
    obtain ⟨M1, a1, a2, a3, a4, a5⟩ := takC (k := 10) h hd (by decide)
    have hle : sb b n p' ≤ n := rn_le b isBl hp
    have hge : p' ≤ sb b n p' := rn_ge b isBl n p'
    have v : wdB b n 10 (sb b n p') = false := by
      cases v : wdB b n 10 (sb b n p')
      · rfl
      · have t := a4 v
        have := t.2.2.2.2.2.1
        have hl : wLn 10 = 2 := rfl
        omega
    refine ⟨M1, wGood (sb b n p') W', fun f hf => ?_, a2.kw, Or.inl ⟨rfl, ⟨s', a5 v⟩, a3⟩, OKo_sb ho hp, fun Mr cm hr => ?_⟩
    · obtain ⟨f', rfl⟩ : ∃ f', f = f' + 1 := ⟨f - 1, by omega⟩
      rw [F_X8_readChoice_88_82_8, if_neg (by rw [show (200 : Int32) = zi 200 from rfl, zi_le (by omega) (by omega)]; omega), a1, cI_s, v, if_pos (by decide)]
    · obtain ⟨N1, b1, b2, b3, b4, b5⟩ := takW (k := 10) (a1 := 15) (a2 := 18) (a3 := 0) (a4 := 0) (a5 := 0) hr cm (by decide) (fun _ => rfl)
      refine ⟨N1, fun f hf => ?_, b2, b5 v⟩
      obtain ⟨f', rfl⟩ : ∃ f', f = f' + 1 := ⟨f - 1, by omega⟩
      rw [F_X11_orRow_99_4, b1, cI_s, v, if_pos (by decide)]
  | m + 1, M, p', s', W', x3, hm, cc, h, hd, ho, hx => by
    have hp := h.2.2.2.2.2.1
    obtain ⟨o1, o2, o3, o4, o5, o6⟩ := ho rfl
    have o1' : 3 * hN W' + 1 + p ≤ p' + 3 * hN W := o1
    have hge : p' ≤ sb b n p' := rn_ge b isBl n p'
    obtain ⟨M1, a1, a2, a3, a4, a5⟩ := takC (k := 10) h hd (by decide)
    cases v : wdB b n 10 (sb b n p') with
    | false =>
      refine ⟨M1, wGood (sb b n p') W', fun f hf => ?_, a2.kw, Or.inl ⟨rfl, ⟨s', a5 v⟩, a3⟩, OKo_sb ho hp, fun Mr cm hr => ?_⟩
      · obtain ⟨f', rfl⟩ : ∃ f', f = f' + 1 := ⟨f - 1, by omega⟩
        rw [F_X8_readChoice_88_82_8, if_neg (by rw [show (200 : Int32) = zi 200 from rfl, zi_le (by omega) (by omega)]; omega), a1, cI_s, v, if_pos (by decide)]
      · obtain ⟨N1, b1, b2, b3, b4, b5⟩ := takW (k := 10) (a1 := 15) (a2 := 18) (a3 := 0) (a4 := 0) (a5 := 0) hr cm (by decide) (fun _ => rfl)
        refine ⟨N1, fun f hf => ?_, b2, b5 v⟩
        obtain ⟨f', rfl⟩ : ∃ f', f = f' + 1 := ⟨f - 1, by omega⟩
        rw [F_X11_orRow_99_4, b1, cI_s, v, if_pos (by decide)]
    | true =>
      have hl : wLn 10 = 2 := rfl
      have t1 := a4 v
      rw [hl] at t1
      have hp1 := t1.2.2.2.2.2.1
      obtain ⟨M2, q1, c1, c2, c3, c4, c5⟩ := ih op hop hfu M1 (sb b n p' + 2) (sb b n p') W' (cc.sm a2.sam) t1 a3 o5 (by omega)
      rcases c3 with ⟨u1, ⟨s2, u2⟩, u3⟩ | ⟨u1, ⟨pp, s2, u2⟩, u3⟩
      · -- the part is there
        obtain ⟨e0, p2, W2, rfl⟩ : ∃ e0 p2 W2, q1 = (0, e0, p2, W2) := ⟨q1.2.1, q1.2.2.1, q1.2.2.2, Prod.ext u1 rfl⟩
        have c4' : OKo C n (sb b n p' + 2) W' (wGood p2 W2) := c4
        obtain ⟨d1, d2⟩ := OKo_two (s := 7) hn h3 ho c4' (by omega) (by decide)
        obtain ⟨g1, _, _, _, _, g6⟩ := c4' rfl
        have g1' : 3 * hN W2 + 1 + (sb b n p' + 2) ≤ p2 + 3 * hN W' := g1
        have g2' : hN W' ≤ hN W2 := (c4' rfl).2.1
        have u2' : TC b M2 n p2 s2 0 (-1) := u2
        have u3' : DWC M2 W2 := u3
        have hpl : p2 ≤ n := g6
        have kk := (a2.kw.tr c2).tr (adM_kw (M := M2) (k := hN W2) (x := zi 7) (y := zi 0) (z := zi 0))
        obtain ⟨M', o, x1, x2, x3', x4, x5⟩ := loopO hn ih hop hfu h3 m (adM M2 (hN W2) (zi 7) (zi 0) (zi 0)) p2 s2 (addW W2 7 0 0) (x3 + 1) (by omega) (cc.sm kk.1) (adM_tc u2') (adM_dwc (s := 7) (a := 0) (c := 0) u3') d1 (by omega)
        refine ⟨M', o, fun f hf => ?_, kk.tr x2, x3', x4, fun Mr cm hr => ?_⟩
        · obtain ⟨f', rfl⟩ : ∃ f', f = f' + 1 := ⟨f - 1, by omega⟩
          have x1' := x1 f' (by omega)
          have ad : F_X7_add_82 M2 7 0 0 = rV (adM M2 (hN W2) (zi 7) (zi 0) (zi 0)) := adM_s u3'.1 d2
          rw [F_X8_readChoice_88_82_8, if_neg (by rw [show (200 : Int32) = zi 200 from rfl, zi_le (by omega) (by omega)]; omega), a1, cI_s, v, if_neg (by decide), c1, cV_s, ad, cV_s, show (1 : Int32) = zi 1 from rfl, zi_add, lt_z, zc (show (x3 : Int) + 1 = ((x3 + 1 : Nat) : Int) by omega), x1']
        · obtain ⟨N1, b1, b2, b3, b4, b5⟩ := takW (k := 10) (a1 := 15) (a2 := 18) (a3 := 0) (a4 := 0) (a5 := 0) hr cm (by decide) (fun _ => rfl)
          have hb4 := b4 v
          rw [hl] at hb4
          obtain ⟨N2, y1, y2, y3⟩ := c5 N1 b3 hb4
          have y3' : StWM b n N2 C (wGood p2 W2) op := by
            rcases y3 with ⟨w1, w2, w3, w4⟩ | ⟨w1, _⟩
            · exact Or.inl ⟨rfl, w2, w3, w4⟩
            · exact absurd rfl w1
          obtain ⟨r1, r2, r3⟩ := StWM_in y3'
          obtain ⟨N3, z1, z2, z3, z4, z5⟩ := says_m (s := 7) (a := 0) (c := 0) (C := C) (W := W2) r1 r2.1 (by rw [rtW_add, if_neg (by decide)]; exact r2.2.1) r2.2.2 d2
          obtain ⟨N4, t1', t2', t3'⟩ := x5 N3 ((b3.sm y2.1.1).sm z2.1.1) (Or.inl ⟨rfl, z3, z4, z5.trans r3⟩)
          refine ⟨N4, fun f hf => ?_, ((b2.tr y2).tr z2).tr t2', t3'⟩
          obtain ⟨f', rfl⟩ : ∃ f', f = f' + 1 := ⟨f - 1, by omega⟩
          have z1' : F_X11_says_99 N2 7 0 0 = rV N3 := z1
          rw [F_X11_orRow_99_4, b1, cI_s, v, if_neg (by decide), y1, cV_s, z1', cV_s, t1' f' (by omega)]
      · -- a fault in the part
        obtain ⟨M3, a6, a7, a8, a9⟩ := addF (x := 7) (y := 0) (z := 0) u2 u3 (fun e => absurd e (by decide))
        obtain ⟨vv, M4, w1, w2, w3, w4, w5⟩ := word_c (k := 10) a8 (by decide)
        have hvv : vv = false := by
          cases vv
          · rfl
          · exact absurd (w2.mp rfl).1 u1
        refine ⟨M4, q1, fun f hf => ?_, ((a2.kw.tr c2).tr a7).tr w3.kw, Or.inr ⟨u1, ⟨_, _, w5 hvv⟩, a9.kt w3⟩, fun u => absurd u u1, fun Mr cm hr => ?_⟩
        · obtain ⟨f', rfl⟩ : ∃ f', f = f' + 1 + 1 := ⟨f - 2, by omega⟩
          rw [F_X8_readChoice_88_82_8, if_neg (by rw [show (200 : Int32) = zi 200 from rfl, zi_le (by omega) (by omega)]; omega), a1, cI_s, v, if_neg (by decide), c1, cV_s, a6, cV_s, show (1 : Int32) = zi 1 from rfl, zi_add, lt_z, F_X8_readChoice_88_82_8, if_neg (by rw [show (200 : Int32) = zi 200 from rfl, zi_le (by omega) (by omega)]; omega), w1, cI_s, hvv, if_pos (by decide)]
        · obtain ⟨N1, b1, b2, b3, b4, b5⟩ := takW (k := 10) (a1 := 15) (a2 := 18) (a3 := 0) (a4 := 0) (a5 := 0) hr cm (by decide) (fun _ => rfl)
          have hb4 := b4 v
          rw [hl] at hb4
          obtain ⟨N2, y1, y2, y3⟩ := c5 N1 b3 hb4
          rcases y3 with ⟨z1, _⟩ | ⟨z1, pz, z2⟩
          · exact absurd z1 u1
          · obtain ⟨vz, N3, k1, k2, _, k4⟩ := takes_m (k := 10) (a1 := 15) (a2 := 18) (a3 := 0) (a4 := 0) (a5 := 0) z2 (by decide) (fun _ => rfl)
            obtain ⟨k5, k6⟩ := k4 z1
            subst k5 k6
            refine ⟨N3, fun f hf => ?_, b2.tr y2, Or.inr ⟨z1, pz, z2⟩⟩
            obtain ⟨f', rfl⟩ : ∃ f', f = f' + 1 + 1 := ⟨f - 2, by omega⟩
            rw [F_X11_orRow_99_4, b1, cI_s, v, if_neg (by decide), y1, cV_s, saysF z2 z1, cV_s, F_X11_orRow_99_4, k1, cI_s, if_pos (by decide)]
theorem ptO {b : Nat → Nat} {n g : Nat} {C : Cal} (hn : n ≤ 200) (ih : PT b n C g 1) : PT b n C (g + 1) 0 := fun op hop hfu M p s W cc h hd hw h3 => by
  obtain ⟨M2, q1, c1, c2, c3, c4, c5⟩ := ih op hop (by omega) M p s W cc h hd hw h3
  show ∃ M' o, F_X8_readChoice_88_82 (G_read g) M (zi op) = rV M' ∧ KWc M M' ∧ StWC b n M' o ∧ OKo C n p W o ∧ ∀ Mr, CalM Mr C → StWM b n Mr C (wGood p W) op → ∃ Mr', F_X11_orRow_99 (G_orow g) Mr = rV Mr' ∧ SamM Mr Mr' ∧ StWM b n Mr' C o op
  unfold F_X8_readChoice_88_82
  rw [c1, cV_s]
  rcases c3 with ⟨u1, ⟨s2, u2⟩, u3⟩ | ⟨u1, ⟨pp, s2, u2⟩, u3⟩
  · obtain ⟨e0, p2, W2, rfl⟩ : ∃ e0 p2 W2, q1 = (0, e0, p2, W2) := ⟨q1.2.1, q1.2.2.1, q1.2.2.2, Prod.ext u1 rfl⟩
    have c4' : OKo C n p W (wGood p2 W2) := c4
    obtain ⟨g1, g2, _, _, _, g6⟩ := c4' rfl
    have g1' : 3 * hN W2 + 1 + p ≤ p2 + 3 * hN W := g1
    have g2' : hN W ≤ hN W2 := g2
    obtain ⟨M', o, x1, x2, x3', x4, x5⟩ := loopO hn ih hop (by omega) h3 n M2 p2 s2 W2 0 (by omega) (cc.sm c2.1) u2 u3 c4' (by omega)
    refine ⟨M', o, x1 FUEL (FUEL_gt (by omega)), c2.tr x2, x3', x4, fun Mr cm hr => ?_⟩
    obtain ⟨N2, y1, y2, y3⟩ := c5 Mr cm hr
    have y3' : StWM b n N2 C (wGood p2 W2) op := by
      rcases y3 with ⟨w1, w2, w3, w4⟩ | ⟨w1, _⟩
      · exact Or.inl ⟨rfl, w2, w3, w4⟩
      · exact absurd rfl w1
    obtain ⟨N3, z1, z2, z3⟩ := x5 N2 (cm.sm y2.1.1) y3'
    refine ⟨N3, ?_, y2.tr z2, z3⟩
    unfold F_X11_orRow_99
    rw [y1, cV_s]
    exact z1 FUEL (FUEL_gt (by omega))
  · obtain ⟨vv, M4, w1, w2, w3, w4, w5⟩ := word_c (k := 10) u2 (by decide)
    have hvv : vv = false := by
      cases vv
      · rfl
      · exact absurd (w2.mp rfl).1 u1
    have hcl : F_X8_readChoice_88_82_8 (G_read g) FUEL M2 (zi op) 0 = rV M4 := by
      refine loopS (σ := Unit) (fun f _ => F_X8_readChoice_88_82_8 (G_read g) f M2 (zi op) 0) (fun o => o = rV M4) (fun _ _ => True) ?_ 0 () FUEL trivial (FUEL_gt (by omega))
      rintro f r _ _
      left
      show F_X8_readChoice_88_82_8 (G_read g) (f + 1) M2 (zi op) 0 = _
      rw [F_X8_readChoice_88_82_8, if_neg (by decide), w1, cI_s, hvv, if_pos (by decide)]
    refine ⟨M4, q1, hcl, c2.tr w3.kw, Or.inr ⟨u1, ⟨_, _, w5 hvv⟩, u3.kt w3⟩, fun u => absurd u u1, fun Mr cm hr => ?_⟩
    obtain ⟨N2, y1, y2, y3⟩ := c5 Mr cm hr
    rcases y3 with ⟨z1, _⟩ | ⟨z1, pz, z2⟩
    · exact absurd z1 u1
    · obtain ⟨vz, N3, k1, k2, _, k4⟩ := takes_m (k := 10) (a1 := 15) (a2 := 18) (a3 := 0) (a4 := 0) (a5 := 0) z2 (by decide) (fun _ => rfl)
      obtain ⟨k5, k6⟩ := k4 z1
      subst k5 k6
      refine ⟨N3, ?_, y2, Or.inr ⟨z1, pz, z2⟩⟩
      unfold F_X11_orRow_99
      rw [y1, cV_s]
      refine loopS (σ := Unit) (fun f _ => F_X11_orRow_99_4 (G_orow g) f N3) (fun o => o = rV N3) (fun _ _ => True) ?_ 0 () FUEL trivial (FUEL_gt (by omega))
      rintro f r _ _
      left
      show F_X11_orRow_99_4 (G_orow g) (f + 1) N3 = _
      rw [F_X11_orRow_99_4, k1, cI_s, if_pos (by decide)]
