/-! calendar: the class's clauses -/
theorem nxt_t {b : Nat → Nat} {n : Nat} {C : Cal} {A : Nat → Nat → Nat} {p : Nat} {lo hi : Int} {k : Nat → Nat → Out} (h : nFl b n p lo hi = 0) : nxt b n C A p lo hi k = k (nE b n p) (nV b n p) := if_pos h
theorem nxt_f {b : Nat → Nat} {n : Nat} {C : Cal} {A : Nat → Nat → Nat} {p : Nat} {lo hi : Int} {k : Nat → Nat → Out} (h : nFl b n p lo hi ≠ 0) : nxt b n C A p lo hi k = oBad C A (nFl b n p lo hi) (sb b n p) := if_neg h
theorem bad3_c {b : Nat → Nat} {M : PM} {n p s : Nat} {C : Cal} {A : Nat → Nat → Nat} (h : TC b M n p s 0 (-1)) (hd : DC M C A) (hw : WFD C A) : ∃ M', F_X4_blameTaken_1 M 3 = rV M' ∧ Sam0 M M' ∧ StC b n M' (oBad C A 3 s) := by
  obtain ⟨M1, m1, m2, m3⟩ := blameTaken_c h
  rw [if_pos rfl, if_pos rfl] at m2
  exact ⟨M1, m1, m3.sam, Or.inr ⟨by show (3 : Int) ≠ 0; decide, ⟨p, s, m2⟩, C, A, hd.kt m3, hw⟩⟩
theorem law30_c {b : Nat → Nat} {M : PM} {n p s md : Nat} {C : Cal} {A : Nat → Nat → Nat} (h : TC b M n p s 0 (-1)) (hd : DC M C A) (hw : WFD C A) (hm : md ≤ 1) : ∃ M', F_X0_readLaw_29_1_30 M (zi md) = rV M' ∧ Sam0 M M' ∧ StC b n M' (if md = 0 ∨ cN C = 12 then oBad C A 3 s else o0 b n p C A) := by
  have hn := hw.1.1
  obtain ⟨B, b1, b2, b3⟩ := bad3_c h hd hw
  unfold F_X0_readLaw_29_1_30
  rw [show (-1 : Int32) = zi (-1) from rfl]
  by_cases q0 : md = 0
  · rw [if_pos (by rw [q0]; rfl), b1, cV_s, if_pos (Or.inl q0)]
    exact ⟨B, rfl, b2, b3⟩
  rw [if_neg (by rw [show (0 : Int32) = zi 0 from rfl, zi_eq (by omega) (by omega)]; omega)]
  unfold F_X2_isFull_30
  rw [hd.1.1]
  by_cases q1 : cN C = 12
  · rw [if_neg (by rw [show (12 : Int32) = zi 12 from rfl, zi_lt (by omega) (by omega)]; omega), if_pos (by decide), cI_s, if_neg (by decide), b1, cV_s, if_pos (Or.inr q1)]
    exact ⟨B, rfl, b2, b3⟩
  rw [if_pos (by rw [show (12 : Int32) = zi 12 from rfl, zi_lt (by omega) (by omega)]; omega), if_pos (by decide), cI_s, if_pos (by decide), if_neg (by omega)]
  unfold o0
  obtain ⟨M1, k1, d1, ⟨f1, e1, t1⟩ | ⟨f1, e1, t1⟩⟩ := num_c (lo := 2) (hi := 24) (o := oGood 0 C A) h hd hw (by decide) (by decide)
  · rw [nxt_t f1, show (2 : Int32) = zi 2 from rfl, show (24 : Int32) = zi 24 from rfl, e1, cI_s]
    try dsimp only
    have v1 := nFl_in f1
    rw [if_neg (by rw [zi_eq (by omega) (by omega)]; omega), show (1 : Int32) = zi 1 from rfl, zi_sub]
    generalize nV b n p = w at *
    obtain ⟨M2, k2, d2, ⟨f2, e2, t2⟩ | ⟨f2, e2, t2⟩⟩ := num_c (lo := 0) (hi := (w : Int) - 1) (o := oGood 0 C A) t1 d1 hw (by decide) (by omega)
    · have v2 := nFl_in f2
      rw [nxt_t f2, show (0 : Int32) = zi 0 from rfl, e2, cI_s, if_neg (by rw [zi_eq (by omega) (by omega)]; omega)]
      try dsimp only
      generalize nV b n (nE b n p) = d at *
      obtain ⟨M3, a1, a2, a3, a4, a5⟩ := add30 (w := w) (d := d) d2 (by omega) (by omega) (by omega)
      rw [a1, cV_s]
      exact ⟨M3, rfl, (k1.tr k2).sam.tr a2, Or.inl ⟨rfl, ⟨_, t2.kp (fun k _ _ => a4 k) a5⟩, a3, WFD1 hw (by omega) (by omega) (by omega)⟩⟩
    · rw [nxt_f f2, show (0 : Int32) = zi 0 from rfl, e2, cI_s, if_pos rfl]
      exact ⟨M2, rfl, (k1.tr k2).sam, t2⟩
  · rw [nxt_f f1, show (2 : Int32) = zi 2 from rfl, show (24 : Int32) = zi 24 from rfl, e1, cI_s, if_pos rfl]
    exact ⟨M1, rfl, k1.sam, t1⟩
theorem law35_c {b : Nat → Nat} {M : PM} {n p s md : Nat} {C : Cal} {A : Nat → Nat → Nat} (h : TC b M n p s 0 (-1)) (hd : DC M C A) (hw : WFD C A) (hm : md ≤ 1) : ∃ M', F_X0_readLaw_29_1_35 M (zi md) = rV M' ∧ Sam0 M M' ∧ StC b n M' (if md = 0 ∨ oN C = 6 then oBad C A 3 s else o1 b n p C A) := by
  have hn := hw.1.2.1
  obtain ⟨B, b1, b2, b3⟩ := bad3_c h hd hw
  unfold F_X0_readLaw_29_1_35
  rw [show (-1 : Int32) = zi (-1) from rfl]
  by_cases q0 : md = 0
  · rw [if_pos (by rw [q0]; rfl), b1, cV_s, if_pos (Or.inl q0)]
    exact ⟨B, rfl, b2, b3⟩
  rw [if_neg (by rw [show (0 : Int32) = zi 0 from rfl, zi_eq (by omega) (by omega)]; omega)]
  unfold F_X2_isFull_35
  rw [hd.1.2.1]
  by_cases q1 : oN C = 6
  · rw [if_neg (by rw [show (6 : Int32) = zi 6 from rfl, zi_lt (by omega) (by omega)]; omega), if_pos (by decide), cI_s, if_neg (by decide), b1, cV_s, if_pos (Or.inr q1)]
    exact ⟨B, rfl, b2, b3⟩
  rw [if_pos (by rw [show (6 : Int32) = zi 6 from rfl, zi_lt (by omega) (by omega)]; omega), if_pos (by decide), cI_s, if_pos (by decide), if_neg (by omega)]
  unfold o1
  obtain ⟨M1, k1, d1, ⟨f1, e1, t1⟩ | ⟨f1, e1, t1⟩⟩ := num_c (lo := 2) (hi := 24) (o := oGood 0 C A) h hd hw (by decide) (by decide)
  · rw [nxt_t f1, show (2 : Int32) = zi 2 from rfl, show (24 : Int32) = zi 24 from rfl, e1, cI_s]
    try dsimp only
    have v1 := nFl_in f1
    rw [if_neg (by rw [zi_eq (by omega) (by omega)]; omega), show (1 : Int32) = zi 1 from rfl, zi_sub]
    generalize nV b n p = w at *
    obtain ⟨M2, k2, d2, ⟨f2, e2, t2⟩ | ⟨f2, e2, t2⟩⟩ := num_c (lo := 0) (hi := (w : Int) - 1) (o := oGood 0 C A) t1 d1 hw (by decide) (by omega)
    · have v2 := nFl_in f2
      rw [nxt_t f2, show (0 : Int32) = zi 0 from rfl, e2, cI_s, if_neg (by rw [zi_eq (by omega) (by omega)]; omega)]
      try dsimp only
      generalize nV b n (nE b n p) = d at *
      obtain ⟨M3, a1, a2, a3, a4, a5⟩ := add35 (w := w) (d := d) d2 (by omega) (by omega) (by omega)
      rw [a1, cV_s]
      exact ⟨M3, rfl, (k1.tr k2).sam.tr a2, Or.inl ⟨rfl, ⟨_, t2.kp (fun k _ _ => a4 k) a5⟩, a3, WFD2 hw (by omega) (by omega) (by omega)⟩⟩
    · rw [nxt_f f2, show (0 : Int32) = zi 0 from rfl, e2, cI_s, if_pos rfl]
      exact ⟨M2, rfl, (k1.tr k2).sam, t2⟩
  · rw [nxt_f f1, show (2 : Int32) = zi 2 from rfl, show (24 : Int32) = zi 24 from rfl, e1, cI_s, if_pos rfl]
    exact ⟨M1, rfl, k1.sam, t1⟩
theorem house_c {b : Nat → Nat} {M : PM} {n p s md : Nat} {C : Cal} {A : Nat → Nat → Nat} (h : TC b M n p s 0 (-1)) (hd : DC M C A) (hw : WFD C A) (hm : md ≤ 1) : ∃ M', F_X0_readHouse_29_1 M (zi md) = rV M' ∧ Sam0 M M' ∧ StC b n M' (if md = 0 ∨ cH C = 10 then oBad C A 3 s else oGood p (cal3 C) A) := by
  have hn := hw.1.2.2.1
  obtain ⟨B, b1, b2, b3⟩ := bad3_c h hd hw
  unfold F_X0_readHouse_29_1
  by_cases q0 : md = 0
  · rw [if_pos (by rw [q0]; rfl), b1, cV_s, if_pos (Or.inl q0)]
    exact ⟨B, rfl, b2, b3⟩
  rw [if_neg (by rw [show (0 : Int32) = zi 0 from rfl, zi_eq (by omega) (by omega)]; omega), hd.1.2.2.1]
  by_cases q1 : cH C = 10
  · rw [if_neg (by rw [show (10 : Int32) = zi 10 from rfl, zi_lt (by omega) (by omega)]; omega), b1, cV_s, if_pos (Or.inr q1)]
    exact ⟨B, rfl, b2, b3⟩
  rw [if_pos (by rw [show (10 : Int32) = zi 10 from rfl, zi_lt (by omega) (by omega)]; omega), if_neg (by omega), show (1 : Int32) = zi 1 from rfl, zi_add, zc (show (cH C : Int) + 1 = ((cH C + 1 : Nat) : Int) by omega)]
  obtain ⟨h1, h2, h3, h4, h5⟩ := hd
  exact ⟨_, rfl, (Sam.i 29 4 _ (by decide) Sam.rf).1, Or.inl ⟨rfl, ⟨s, h.kp (fun k _ _ => rI_ne (by decide)) rfl⟩, ⟨⟨(rI_ne (by decide)).trans h1.1, (rI_ne (by decide)).trans h1.2.1, rI_at, (rI_nk (by decide)).trans h1.2.2.2⟩, h2, h3, h4, h5⟩, WFD3 hw (by omega)⟩⟩
theorem slip_c {b : Nat → Nat} {M : PM} {n p s md : Nat} {C : Cal} {A : Nat → Nat → Nat} (h : TC b M n p s 0 (-1)) (hd : DC M C A) (hw : WFD C A) (hm : md ≤ 1) : ∃ M', F_X0_readSlip_29_1 M (zi md) = rV M' ∧ Sam0 M M' ∧ StC b n M' (if md = 0 then oBad C A 3 s else o4 b n p C A) := by
  have hn := hw.1
  obtain ⟨B, b1, b2, b3⟩ := bad3_c h hd hw
  unfold F_X0_readSlip_29_1
  rw [show (-1 : Int32) = zi (-1) from rfl]
  by_cases q0 : md = 0
  · rw [if_pos (by rw [q0]; rfl), b1, cV_s, if_pos q0]
    exact ⟨B, rfl, b2, b3⟩
  rw [if_neg (by rw [show (0 : Int32) = zi 0 from rfl, zi_eq (by omega) (by omega)]; omega), hd.1.2.2.1, if_neg q0]
  have e73 : ∀ (M : PM) (x : Int32), F_X0_readSlip_29_1_73 M x (zi (-1)) (zi (-1)) = rV M := fun M x => by
    unfold F_X0_readSlip_29_1_73
    exact if_pos rfl
  unfold o4
  obtain ⟨M1, k1, d1, ⟨f1, e1, t1⟩ | ⟨f1, e1, t1⟩⟩ := num_c (lo := 0) (hi := (cH C : Int) - 1) (o := oGood 0 C A) h hd hw (by decide) (by omega)
  · have v1 := nFl_in f1
    rw [nxt_t f1, show (0 : Int32) = zi 0 from rfl, show (1 : Int32) = zi 1 from rfl, zi_sub, e1, cI_s, if_neg (by rw [zi_eq (by omega) (by omega)]; omega), d1.1.1, zi_sub]
    try dsimp only
    generalize nV b n p = hh at *
    obtain ⟨M2, k2, d2, ⟨f2, e2, t2⟩ | ⟨f2, e2, t2⟩⟩ := num_c (lo := 0) (hi := (cN C : Int) - 1) (o := oGood 0 C A) t1 d1 hw (by decide) (by omega)
    · have v2 := nFl_in f2
      rw [nxt_t f2, e2, cI_s]
      try dsimp only
      generalize nV b n (nE b n p) = l at *
      have hl : l < cN C := by omega
      have hwl := (hw.2.1 l hl).1
      have hwk : F_X2_weekOf_30 M2 (zi l) = rI (zi (cW C l)) M2 := by
        unfold F_X2_weekOf_30 F_X2_isLaw_30
        rw [d2.1.1, if_neg (by rw [show (0 : Int32) = zi 0 from rfl, zi_lt (by omega) (by omega)]; omega), if_neg (by rw [zi_le (by omega) (by omega)]; omega), if_pos (by decide), cI_s, if_neg (by decide), if_pos (zi_ixT (by omega) (by omega)), zi_natN (by omega), (d2.2.1 l hl).1]
      unfold F_X0_readSlip_29_1_45
      rw [show (-1 : Int32) = zi (-1) from rfl]
      rw [if_neg (by rw [zi_eq (by omega) (by omega)]; omega), hwk, cI_s, show (0 : Int32) = zi 0 from rfl, show (1 : Int32) = zi 1 from rfl, zi_sub]
      obtain ⟨M3, k3, d3, ⟨f3, e3, t3⟩ | ⟨f3, e3, t3⟩⟩ := num_c (lo := 0) (hi := (cW C l : Int) - 1) (o := oGood 0 C A) t2 d2 hw (by decide) (by omega)
      · have v3 := nFl_in f3
        rw [nxt_t f3, e3, cI_s]
        try dsimp only
        generalize nV b n (nE b n (nE b n p)) = x at *
        unfold F_X0_readSlip_29_1_73
        rw [show (-1 : Int32) = zi (-1) from rfl, if_neg (by rw [zi_eq (by omega) (by omega)]; omega), show (12 : Int32) = zi 12 from rfl, zi_mul, zi_add, zc (show (hh : Int) * 12 + l = ((hh * 12 + l : Nat) : Int) by omega), if_pos (zi_ixT (by omega) (by omega)), zi_natN (by omega)]
        have wfd : WFD C (slA A hh l x) := WFDs hw (by omega) hl (by omega)
        obtain ⟨h1, h2, h3, h4, h5⟩ := d3
        refine ⟨_, rfl, ((k1.tr k2).tr k3).sam.tr (Sam.a 40 _ _ (by decide) Sam.rf).1, Or.inl ⟨rfl, ⟨_, t3.kp (fun k _ _ => rfl) (rA_ne (by decide))⟩, ⟨h1, fun i hi => ⟨(congrFun (rA_ne (by decide) : (sA M3 40 (hh * 12 + l) (zi x)).2.2.1 31 = M3.2.2.1 31) i).trans (h2 i hi).1, (congrFun (rA_ne (by decide) : (sA M3 40 (hh * 12 + l) (zi x)).2.2.1 32 = M3.2.2.1 32) i).trans (h2 i hi).2⟩, fun i hi => ⟨(congrFun (rA_ne (by decide) : (sA M3 40 (hh * 12 + l) (zi x)).2.2.1 36 = M3.2.2.1 36) i).trans (h3 i hi).1, (congrFun (rA_ne (by decide) : (sA M3 40 (hh * 12 + l) (zi x)).2.2.1 37 = M3.2.2.1 37) i).trans (h3 i hi).2⟩, fun i hi => (congrFun (rA_ne (by decide) : (sA M3 40 (hh * 12 + l) (zi x)).2.2.1 41 = M3.2.2.1 41) i).trans (h4 i hi), fun h' l' a1 a2 => ?_⟩, wfd⟩⟩
        show (sA M3 40 (hh * 12 + l) (zi x)).2.2.1 40 (h' * 12 + l') = zi ((if h' = hh ∧ l' = l then x else A h' l' : Nat))
        by_cases q : h' = hh ∧ l' = l
        · rw [if_pos q, q.1, q.2]
          exact rA_at
        · rw [if_neg q, rA_nk (by omega)]
          exact h5 h' l' a1 a2
      · rw [nxt_f f3, e3, cI_s]
        unfold F_X0_readSlip_29_1_73
        rw [show (-1 : Int32) = zi (-1) from rfl, if_pos rfl]
        exact ⟨M3, rfl, ((k1.tr k2).tr k3).sam, t3⟩
    · rw [nxt_f f2, e2, cI_s]
      unfold F_X0_readSlip_29_1_45
      rw [show (-1 : Int32) = zi (-1) from rfl]
      rw [if_pos rfl]
      unfold F_X0_readSlip_29_1_73
      rw [show (-1 : Int32) = zi (-1) from rfl, if_pos rfl]
      exact ⟨M2, rfl, (k1.tr k2).sam, t2⟩
  · rw [nxt_f f1, show (0 : Int32) = zi 0 from rfl, show (1 : Int32) = zi 1 from rfl, zi_sub, e1, cI_s, if_pos rfl]
    unfold F_X0_readSlip_29_1_45
    rw [show (-1 : Int32) = zi (-1) from rfl, if_pos rfl, e73]
    exact ⟨M1, rfl, k1.sam, t1⟩
theorem still_c {b : Nat → Nat} {M : PM} {n p s md : Nat} {C : Cal} {A : Nat → Nat → Nat} (h : TC b M n p s 0 (-1)) (hd : DC M C A) (hw : WFD C A) (hm : md ≤ 1) : ∃ M', F_X0_readStill_29_1 M (zi md) = rV M' ∧ Sam0 M M' ∧ StC b n M' (if md = 0 ∨ cK C = 3 then oBad C A 3 s else o3 b n p C A) := by
  have hn := hw.1.2.2.2
  obtain ⟨B, b1, b2, b3⟩ := bad3_c h hd hw
  unfold F_X0_readStill_29_1
  rw [show (-1 : Int32) = zi (-1) from rfl]
  by_cases q0 : md = 0
  · rw [if_pos (by rw [q0]; rfl), b1, cV_s, if_pos (Or.inl q0)]
    exact ⟨B, rfl, b2, b3⟩
  rw [if_neg (by rw [show (0 : Int32) = zi 0 from rfl, zi_eq (by omega) (by omega)]; omega), hd.1.2.2.2]
  by_cases q1 : cK C = 3
  · rw [if_neg (by rw [show (3 : Int32) = zi 3 from rfl, zi_lt (by omega) (by omega)]; omega), b1, cV_s, if_pos (Or.inr q1)]
    exact ⟨B, rfl, b2, b3⟩
  rw [if_pos (by rw [show (3 : Int32) = zi 3 from rfl, zi_lt (by omega) (by omega)]; omega), if_neg (by omega)]
  -- the loop over the stills told
  have loop : ∀ (M1 : PM) (x : Int) (v : Bool), DC M1 C A → -1 ≤ x → x ≤ 99999 → F_X0_readStill_29_1_41 FUEL M1 (zi x) (bb v) (zi ((0 : Nat) : Int)) = (if (v || !noB (fun i => decide ((cS C i : Int) = x)) (cK C)) = true then rV M1 else rV (sI (sA M1 41 (cK C) (zi x)) 29 5 (zi ((cK C + 1 : Nat))))) := fun M1 x v d1 hx1 hx2 => by
    refine loopU (cK C) (fun f i => F_X0_readStill_29_1_41 f M1 (zi x) (bb (v || !noB (fun i => decide ((cS C i : Int) = x)) i)) (zi (i : Nat))) _ (fun f => ?_) (fun f i hi => ?_) 0 FUEL (Nat.zero_le _) (FUEL_gt (by omega)) |> (fun h => by
      rw [show noB (fun i => decide ((cS C i : Int) = x)) 0 = true from rfl, Bool.not_true, Bool.or_false] at h
      exact h)
    · rw [F_X0_readStill_29_1_41, d1.1.2.2.2, if_pos (by rw [zi_le (by omega) (by omega)]; omega)]
      have e5 : mI (sA M1 41 (cK C) (zi x)) 29 5 = zi (cK C) := d1.1.2.2.2
      cases hv : (v || !noB (fun i => decide ((cS C i : Int) = x)) (cK C)) with
      | true => rw [if_neg (by decide), if_pos rfl]
      | false =>
        rw [if_pos (by decide), if_pos (zi_ixT (by omega) (by omega)), if_neg (by decide), zi_natN (by omega), e5, show (1 : Int32) = zi 1 from rfl, zi_add, zc (show (cK C : Int) + 1 = ((cK C + 1 : Nat) : Int) by omega)]
    · have hS := d1.2.2.2.1 i hi
      have hS2 := hw.2.2.2.1 i hi
      rw [F_X0_readStill_29_1_41, d1.1.2.2.2, if_neg (by rw [zi_le (by omega) (by omega)]; omega), if_pos (zi_ixT (by omega) (by omega)), zi_natN (by omega), hS]
      unfold F_X0_readStill_29_1_68
      rw [show (1 : Int32) = zi 1 from rfl, zi_add, zc (show (i : Int) + 1 = ((i + 1 : Nat) : Int) by omega), noB_succ]
      have orT : ∀ v : Bool, bb v ||| zi 1 = bb true := by decide
      have orF : ∀ v : Bool, bb v ||| 0 = bb v := by decide
      by_cases q : (cS C i : Int) = x
      · rw [if_pos (by rw [q]), lt_z, orT, lt_z, decide_eq_true q]
        simp only [Bool.not_true, Bool.and_false, Bool.not_false, Bool.or_true]
      · rw [if_neg (by rw [zi_eq (by omega) (by omega)]; exact q), lt_z, orF, lt_z, decide_eq_false q]
        simp only [Bool.not_false, Bool.and_true]
  unfold o3
  obtain ⟨M1, k1, d1, ⟨f1, e1, t1⟩ | ⟨f1, e1, t1⟩⟩ := num_c (lo := 0) (hi := 99999) (o := oGood 0 C A) h hd hw (by decide) (by decide)
  · have v1 := nFl_in f1
    rw [nxt_t f1, show (0 : Int32) = zi 0 from rfl, show (99999 : Int32) = zi 99999 from rfl, e1, cI_s, if_neg (by rw [zi_eq (by omega) (by omega)]; omega)]
    try dsimp only
    generalize nV b n p = x at *
    have lp := loop M1 (x : Int) false d1 (by omega) (by omega)
    have ek : (false || !noB (fun i => decide ((cS C i : Int) = (x : Int))) (cK C)) = kno C x := by
      unfold kno
      rw [Bool.false_or]
      refine congrArg (fun v => !v) ?_
      unfold noB
      rw [fb_ct_cong (fun k _ => decide_eq_decide.mpr (show (cS C k : Int) = (x : Int) ↔ cS C k = x by omega))]
    rw [ek] at lp
    unfold F_X0_readStill_29_1_36
    have lp' : F_X0_readStill_29_1_41 FUEL M1 (zi x) (zi 0) (zi 0) = _ := lp
    rw [show (0 : Int32) = zi 0 from rfl, lp']
    cases hk : kno C x with
    | true =>
      rw [if_pos rfl, if_pos rfl]
      exact ⟨M1, rfl, k1.sam, Or.inl ⟨rfl, ⟨_, t1⟩, d1, hw⟩⟩
    | false =>
      rw [if_neg (by decide), if_neg (by decide)]
      obtain ⟨h1, h2, h3, h4, h5⟩ := d1
      refine ⟨_, rfl, k1.sam.tr (Sam.i 29 5 _ (by decide) (Sam.a 41 _ _ (by decide) Sam.rf)).1, Or.inl ⟨rfl, ⟨_, t1.kp (fun k _ _ => rI_ne (by decide)) (rA_ne (by decide) : (sA M1 41 (cK C) (zi x)).2.2.1 2 = M1.2.2.1 2)⟩, ⟨⟨(rI_ne (by decide)).trans h1.1, (rI_ne (by decide)).trans h1.2.1, (rI_nk (by decide)).trans h1.2.2.1, rI_at⟩, fun i hi => ⟨(congrFun (rA_ne (by decide) : (sA M1 41 (cK C) (zi x)).2.2.1 31 = M1.2.2.1 31) i).trans (h2 i hi).1, (congrFun (rA_ne (by decide) : (sA M1 41 (cK C) (zi x)).2.2.1 32 = M1.2.2.1 32) i).trans (h2 i hi).2⟩, fun i hi => ⟨(congrFun (rA_ne (by decide) : (sA M1 41 (cK C) (zi x)).2.2.1 36 = M1.2.2.1 36) i).trans (h3 i hi).1, (congrFun (rA_ne (by decide) : (sA M1 41 (cK C) (zi x)).2.2.1 37 = M1.2.2.1 37) i).trans (h3 i hi).2⟩, fun i hi => ?_, fun h' l' a1 a2 => (congrFun (rA_ne (by decide) : (sA M1 41 (cK C) (zi x)).2.2.1 40 = M1.2.2.1 40) _).trans (h5 h' l' a1 a2)⟩, WFD4 hw (by omega) (by omega) (fun i hi e => ?_)⟩⟩
      · have hi' : i < cK C + 1 := hi
        show (sA M1 41 (cK C) (zi x)).2.2.1 41 i = zi ((if i = cK C then x else cS C i : Nat))
        by_cases q : i = cK C
        · rw [if_pos q, q]; exact rA_at
        · rw [if_neg q, rA_nk q]; exact h4 i (by omega)
      · unfold kno at hk
        rw [noB_f hi (decide_eq_true e)] at hk
        exact absurd hk (by decide)
  · rw [nxt_f f1, show (0 : Int32) = zi 0 from rfl, show (99999 : Int32) = zi 99999 from rfl, e1, cI_s, if_pos rfl]
    have lp := loop M1 (-1) true d1 (by decide) (by decide)
    unfold F_X0_readStill_29_1_36
    have lp' : F_X0_readStill_29_1_41 FUEL M1 (zi (-1)) 1 0 = _ := lp
    rw [lp', Bool.true_or, if_pos rfl]
    exact ⟨M1, rfl, k1.sam, t1⟩
theorem semi_c {b : Nat → Nat} {M : PM} {n : Nat} {o : Out} (h : StC b n M o) : ∃ M', F_X0_readClause_29_1_102 M = rV M' ∧ Sam0 M M' ∧ StC b n M' (semi b n o) := by
  unfold F_X0_readClause_29_1_102 semi
  rcases h with ⟨h0, ⟨s, h1⟩, h2, h3⟩ | ⟨h0, ⟨p, s, h1⟩, C, A, h2, h3⟩
  · obtain ⟨v, M1, m1, m2, m3, m4, m5⟩ := sign_c (c := 59) h1 (by decide)
    rw [isFine_c h1, cI_s, decide_eq_true rfl, if_neg (by decide), if_pos h0]
    have m1' : F_X4_takesSign_1 M 59 = rI (bb v) M1 := m1
    rw [m1', cI_s]
    cases v with
    | true =>
      have hv := m2.mp rfl
      rw [if_neg (by decide), if_pos hv.2]
      exact ⟨M1, rfl, m3.sam, Or.inl ⟨rfl, ⟨_, m4 rfl⟩, h2.kt m3, h3⟩⟩
    | false =>
      have t := m5 rfl
      obtain ⟨M2, k1, k2, k3⟩ := blameNext_c t
      have hp := h1.2.2.2.2.2.1
      rw [if_pos rfl, if_pos rfl, sb_sb hp] at k2
      rw [if_pos (by decide), k1, cV_s, if_neg (fun u => absurd (m2.mpr ⟨rfl, u⟩) (by decide))]
      exact ⟨M2, rfl, (m3.tr k3).sam, Or.inr ⟨by show (1 : Int) ≠ 0; decide, ⟨_, _, k2⟩, o.2.2.2.1, o.2.2.2.2, (h2.kt m3).kt k3, h3⟩⟩
  · rw [isFine_c h1, cI_s, decide_eq_false h0, if_pos (by decide), if_neg h0]
    exact ⟨M, rfl, Sam0.rf, Or.inr ⟨h0, ⟨p, s, h1⟩, C, A, h2, h3⟩⟩
theorem semi_bad {b : Nat → Nat} {n : Nat} {C : Cal} {A : Nat → Nat → Nat} {f : Int} {g : Nat} (hf : f ≠ 0) : semi b n (oBad C A f g) = oBad C A f g := if_neg hf
theorem clause_c {b : Nat → Nat} {M : PM} {n p s cl md : Nat} {C : Cal} {A : Nat → Nat → Nat} (h : TC b M n p s 0 (-1)) (hd : DC M C A) (hw : WFD C A) (hm : md = if cl = 60 then 0 else 1) : ∃ M', F_X0_readClause_29_1 M (zi md) = rV M' ∧ Sam0 M M' ∧ StC b n M' (oCl b n cl p C A) := by
  have hm1 : md ≤ 1 := by rw [hm]; split <;> decide
  have hm0 : md = 0 ↔ cl = 60 := by
    rw [hm]
    split
    · exact ⟨fun _ => by assumption, fun _ => rfl⟩
    · exact ⟨fun u => absurd u (by decide), fun u => absurd u (by assumption)⟩
  have hp := h.2.2.2.2.2.1
  unfold F_X0_readClause_29_1 oCl
  -- after a word was taken, or not
  obtain ⟨v0, M0, a1, a2, a3, a4, a5⟩ := word_c (k := 0) h (by decide)
  have a2' : v0 = wdB b n 0 (sb b n p) := wd_eq ⟨fun u => (a2.mp u).2, fun u => a2.mpr ⟨rfl, u⟩⟩
  rw [a1, cI_s, ← a2']
  cases v0 with
  | true =>
    obtain ⟨M1, k1, k2, k3⟩ := law30_c (md := md) (a4 rfl) (hd.kt a3) hw hm1
    obtain ⟨M2, l1, l2, l3⟩ := semi_c k3
    rw [if_neg (by decide), k1, cV_s, l1, if_pos rfl]
    refine ⟨M2, rfl, (a3.sam.tr k2).tr l2, ?_⟩
    by_cases q : cl = 60 ∨ cN C = 12
    · rw [if_pos q]
      rw [if_pos (by rw [hm0]; exact q), semi_bad (by decide)] at l3
      exact l3
    · rw [if_neg q]
      rw [if_neg (by rw [hm0]; exact q)] at l3
      exact l3
  | false =>
  have t0 := a5 rfl
  have d0 := hd.kt a3
  rw [if_pos (by decide), if_neg (by decide)]
  obtain ⟨v1, M1, c1, c2, c3, c4, c5⟩ := word_c (k := 1) t0 (by decide)
  rw [sb_sb hp] at c2 c4 c5
  have c2' : v1 = wdB b n 1 (sb b n p) := wd_eq ⟨fun u => (c2.mp u).2, fun u => c2.mpr ⟨rfl, u⟩⟩
  rw [c1, cI_s, ← c2']
  cases v1 with
  | true =>
    obtain ⟨N1, k1, k2, k3⟩ := law35_c (md := md) (c4 rfl) (d0.kt c3) hw hm1
    obtain ⟨N2, l1, l2, l3⟩ := semi_c k3
    rw [if_neg (by decide), k1, cV_s, l1, if_pos rfl]
    refine ⟨N2, rfl, ((a3.tr c3).sam.tr k2).tr l2, ?_⟩
    by_cases q : cl = 60 ∨ oN C = 6
    · rw [if_pos q]
      rw [if_pos (by rw [hm0]; exact q), semi_bad (by decide)] at l3
      exact l3
    · rw [if_neg q]
      rw [if_neg (by rw [hm0]; exact q)] at l3
      exact l3
  | false =>
  have t1 := c5 rfl
  have d1 := d0.kt c3
  rw [if_pos (by decide), if_neg (by decide)]
  obtain ⟨v2, M2, e1, e2, e3, e4, e5⟩ := word_c (k := 2) t1 (by decide)
  rw [sb_sb hp] at e2 e4 e5
  have e2' : v2 = wdB b n 2 (sb b n p) := wd_eq ⟨fun u => (e2.mp u).2, fun u => e2.mpr ⟨rfl, u⟩⟩
  rw [e1, cI_s, ← e2']
  cases v2 with
  | true =>
    obtain ⟨N1, k1, k2, k3⟩ := house_c (md := md) (e4 rfl) (d1.kt e3) hw hm1
    obtain ⟨N2, l1, l2, l3⟩ := semi_c k3
    rw [if_neg (by decide), k1, cV_s, l1, if_pos rfl]
    refine ⟨N2, rfl, (((a3.tr c3).tr e3).sam.tr k2).tr l2, ?_⟩
    by_cases q : cl = 60 ∨ cH C = 10
    · rw [if_pos q]
      rw [if_pos (by rw [hm0]; exact q), semi_bad (by decide)] at l3
      exact l3
    · rw [if_neg q]
      rw [if_neg (by rw [hm0]; exact q)] at l3
      exact l3
  | false =>
  have t2 := e5 rfl
  have d2 := d1.kt e3
  rw [if_pos (by decide), if_neg (by decide)]
  obtain ⟨v3, M3, f1, f2, f3, f4, f5⟩ := word_c (k := 3) t2 (by decide)
  rw [sb_sb hp] at f2 f4 f5
  have f2' : v3 = wdB b n 3 (sb b n p) := wd_eq ⟨fun u => (f2.mp u).2, fun u => f2.mpr ⟨rfl, u⟩⟩
  rw [f1, cI_s, ← f2']
  cases v3 with
  | true =>
    obtain ⟨N1, k1, k2, k3⟩ := slip_c (md := md) (f4 rfl) (d2.kt f3) hw hm1
    obtain ⟨N2, l1, l2, l3⟩ := semi_c k3
    rw [if_neg (by decide), k1, cV_s, l1, if_pos rfl]
    refine ⟨N2, rfl, ((((a3.tr c3).tr e3).tr f3).sam.tr k2).tr l2, ?_⟩
    by_cases q : cl = 60
    · rw [if_pos q]
      rw [if_pos (by rw [hm0]; exact q), semi_bad (by decide)] at l3
      exact l3
    · rw [if_neg q]
      rw [if_neg (by rw [hm0]; exact q)] at l3
      exact l3
  | false =>
  have t3 := f5 rfl
  have d3 := d2.kt f3
  rw [if_pos (by decide), if_neg (by decide)]
  obtain ⟨v4, M4, g1, g2, g3, g4, g5⟩ := word_c (k := 4) t3 (by decide)
  rw [sb_sb hp] at g2 g4 g5
  have g2' : v4 = wdB b n 4 (sb b n p) := wd_eq ⟨fun u => (g2.mp u).2, fun u => g2.mpr ⟨rfl, u⟩⟩
  rw [g1, cI_s, ← g2']
  cases v4 with
  | true =>
    obtain ⟨N1, k1, k2, k3⟩ := still_c (md := md) (g4 rfl) (d3.kt g3) hw hm1
    obtain ⟨N2, l1, l2, l3⟩ := semi_c k3
    rw [if_neg (by decide), k1, cV_s, l1, if_pos rfl]
    refine ⟨N2, rfl, (((((a3.tr c3).tr e3).tr f3).tr g3).sam.tr k2).tr l2, ?_⟩
    by_cases q : cl = 60 ∨ cK C = 3
    · rw [if_pos q]
      rw [if_pos (by rw [hm0]; exact q), semi_bad (by decide)] at l3
      exact l3
    · rw [if_neg q]
      rw [if_neg (by rw [hm0]; exact q)] at l3
      exact l3
  | false =>
  have t4 := g5 rfl
  have d4 := d3.kt g3
  rw [if_pos (by decide), if_neg (by decide)]
  obtain ⟨N1, k1, k2, k3⟩ := blameNext_c t4
  rw [if_pos rfl, if_pos rfl, sb_sb hp] at k2
  have st : StC b n N1 (oBad C A 1 (sb b n p)) := Or.inr ⟨by show (1 : Int) ≠ 0; decide, ⟨_, _, k2⟩, C, A, d4.kt k3, hw⟩
  obtain ⟨N2, l1, l2, l3⟩ := semi_c st
  rw [semi_bad (by decide)] at l3
  rw [k1, cV_s, l1]
  exact ⟨N2, rfl, (((((a3.tr c3).tr e3).tr f3).tr g3).tr k3).sam.tr l2, l3⟩
