/-! calendar: the reference's other clauses -/
theorem StM_bad {b : Nat → Nat} {M : PM} {n p cl : Nat} {C : Cal} {A : Nat → Nat → Nat} {f : Int} {g : Nat} (hf : f ≠ 0) (t : TM b M n p f (g : Int)) : StM b n M (oBad C A f g) cl := Or.inr ⟨hf, p, t⟩
theorem house_m {b : Nat → Nat} {M : PM} {n p cl : Nat} {C : Cal} {A : Nat → Nat → Nat} (h : TM b M n p 0 (-1)) (hd : DM M C A) (hw : WFD C A) (hcl : mI M 99 7 = zi cl) (hn : cH C < 10) : ∃ M', F_X11_clause_99_338 FUEL M 0 = rV M' ∧ SamM M M' ∧ StM b n M' (semi b n (oGood p (cal3 C) A)) cl := by
  have e2 : (2 : Int32).toNatClampNeg = 2 := by decide
  have loop : ∃ M1, F_X11_clause_99_338 FUEL M (zi ((0 : Nat) : Int)) = (cV (F_X11_sign_99 (sA M1 102 2 (zi ((cH C + 1 : Nat)))) 59) fun M1027 => some (.inl none, M1027)) ∧ SamM M M1 ∧ M1.1 = M.1 ∧ M1.2.2.1 = M.2.2.1 ∧ (∀ h' l, h' ≠ cH C → mG M1 114 h' l = mG M 114 h' l) ∧ ∀ l, l < 12 → mG M1 114 (cH C) l = zi 0 := by
    refine loopS (σ := PM × Nat) (fun f q => F_X11_clause_99_338 f q.1 (zi (q.2 : Nat))) (fun o => ∃ M1, o = (cV (F_X11_sign_99 (sA M1 102 2 (zi ((cH C + 1 : Nat)))) 59) fun M1027 => some (.inl none, M1027)) ∧ SamM M M1 ∧ M1.1 = M.1 ∧ M1.2.2.1 = M.2.2.1 ∧ (∀ h' l, h' ≠ cH C → mG M1 114 h' l = mG M 114 h' l) ∧ ∀ l, l < 12 → mG M1 114 (cH C) l = zi 0) (fun r q => r = 12 - q.2 ∧ q.2 ≤ 12 ∧ SamM M q.1 ∧ q.1.1 = M.1 ∧ q.1.2.2.1 = M.2.2.1 ∧ (∀ h' l, h' ≠ cH C → mG q.1 114 h' l = mG M 114 h' l) ∧ ∀ l, l < q.2 → mG q.1 114 (cH C) l = zi 0) ?_ 12 (M, 0) FUEL ⟨rfl, Nat.zero_le _, SamM.rf, rfl, rfl, fun _ _ _ => rfl, fun l hl => absurd hl (Nat.not_lt_zero l)⟩ (FUEL_gt (by omega))
    rintro f r ⟨M1, l⟩ ⟨i1, i2, i3, i4, i5, i6, i7⟩
    simp only at i1 i2 i3 i4 i5 i6 i7
    have eH : mA M1 102 2 = zi (cH C) := by rw [mA, i5]; exact hd.1.2.2.1
    show (∃ M2, F_X11_clause_99_338 (f + 1) M1 (zi (l : Nat)) = _ ∧ _) ∨ _
    rw [F_X11_clause_99_338, e2, eH]
    by_cases q : l = 12
    · left
      refine ⟨M1, ?_, i3, i4, i5, i6, fun t ht => i7 t (by omega)⟩
      rw [if_pos (by rw [q]; decide), if_pos (by decide), if_pos (by decide), show (1 : Int32) = zi 1 from rfl, zi_add, zc (show (cH C : Int) + 1 = ((cH C + 1 : Nat) : Int) by omega)]
    · right
      refine ⟨12 - (l + 1), (sG M1 114 (cH C) l (zi 0), l + 1), by omega, ⟨rfl, by show l + 1 ≤ 12; omega, i3.tr (SamM.g 114 _ _ _ (by decide)), i4, i5, fun h' t hh => ?_, fun t ht => ?_⟩, ?_⟩
      · show (sG M1 114 (cH C) l (zi 0)).2.2.2.2 114 h' t = _
        rw [rG_nr hh]
        exact i6 h' t hh
      · have ht' : t < l + 1 := ht
        show (sG M1 114 (cH C) l (zi 0)).2.2.2.2 114 (cH C) t = _
        by_cases q2 : t = l
        · rw [q2, rG_at]
        · rw [rG_nk q2]
          exact i7 t (by omega)
      · rw [if_neg (by rw [show (12 : Int32) = zi 12 from rfl, zi_le (by omega) (by omega)]; omega), if_pos (by decide), if_pos (zi_ixT (by omega) (by omega)), if_pos ⟨by rw [zi_natN (by omega)]; omega, zi_ixT (by omega) (by omega)⟩, zi_natN (by omega), zi_natN (by omega), show (1 : Int32) = zi 1 from rfl, zi_add, lt_z, zc (show (l : Int) + 1 = ((l + 1 : Nat) : Int) by omega)]
        rfl
  obtain ⟨M1, l1, l2, l3, l4, l5, l6⟩ := loop
  have ea : ∀ q i, mA M1 q i = mA M q i := fun q i => by rw [mA, mA, l4]
  have al : ∀ q i, q ≠ 102 → mA (sA M1 102 2 (zi ((cH C + 1 : Nat)))) q i = mA M q i := fun q i hq => (congrFun (rA_ne hq : (sA M1 102 2 (zi ((cH C + 1 : Nat)))).2.2.1 q = M1.2.2.1 q) i).trans (ea q i)
  have aN : ∀ j, j ≠ 2 → mA (sA M1 102 2 (zi ((cH C + 1 : Nat)))) 102 j = mA M 102 j := fun j hj => (rA_nk hj).trans (ea 102 j)
  have hst : StM b n (sA M1 102 2 (zi ((cH C + 1 : Nat)))) (oGood p (cal3 C) A) cl := by
    obtain ⟨h1, h2, h3, h4, h5⟩ := hd
    refine Or.inl ⟨rfl, h.kp (fun k _ _ => by show M1.1 99 k = _; rw [l3]) ((rA_ne (by decide) : (sA M1 102 2 (zi ((cH C + 1 : Nat)))).2.2.1 100 = M1.2.2.1 100).trans (by rw [l4])), ⟨⟨(aN 0 (by decide)).trans h1.1, (aN 1 (by decide)).trans h1.2.1, rA_at, (aN 3 (by decide)).trans h1.2.2.2⟩, fun l hl => ⟨(al 106 l (by decide)).trans (h2 l hl).1, (al 108 l (by decide)).trans (h2 l hl).2⟩, fun l hl => ⟨(al 110 l (by decide)).trans (h3 l hl).1, (al 112 l (by decide)).trans (h3 l hl).2⟩, fun i hi => (al 104 i (by decide)).trans (h4 i hi), fun h' l a1 a2 => ?_⟩, by show M1.1 99 7 = _; rw [l3]; exact hcl⟩
    have a1' : h' < cH C + 1 := a1
    show mG M1 114 h' l = zi (A h' l)
    by_cases q : h' = cH C
    · rw [q, l6 l a2, hw.2.2.2.2.2.2 (cH C) l a2 (Or.inl (Nat.le_refl _))]
      rfl
    · rw [l5 h' l q]
      exact h5 h' l (by omega) a2
  obtain ⟨M9, s1, s2, s3⟩ := semi_m hst
  have l1' : F_X11_clause_99_338 FUEL M 0 = _ := l1
  rw [l1', s1, cV_s]
  exact ⟨M9, rfl, (l2.tr (SamM.a 102 _ _ (by decide))).tr s2, s3⟩
theorem still_m {b : Nat → Nat} {M : PM} {n p cl : Nat} {C : Cal} {A : Nat → Nat → Nat} (h : TM b M n p 0 (-1)) (hd : DM M C A) (hw : WFD C A) (hcl : mI M 99 7 = zi cl) (hn : cK C < 3) : ∃ M', (cI (F_X11_number_99 M 0 99999) fun v1035 M1034 => cV (F_X11_stillHere_99 M1034 v1035) fun M1036 => cV (F_X11_sign_99 M1036 59) fun M1037 => some (.inl none, M1037)) = rV M' ∧ SamM M M' ∧ StM b n M' (semi b n (o3 b n p C A)) cl := by
  have e3 : (3 : Int32).toNatClampNeg = 3 := by decide
  have loop : ∀ (M1 : PM) (x : Nat) (f g : Int) (p1 : Nat), TM b M1 n p1 f g → DM M1 C A → x ≤ 99999 → F_X11_stillHere_99 M1 (zi x) = (if kno C x = true then rV M1 else if f = 0 then rV (sA (sA M1 104 (cK C) (zi x)) 102 3 (zi ((cK C + 1 : Nat)))) else rV M1) := fun M1 x f g p1 t1 d1 hx => by
    have hf := t1.2.2.2.2.2.2.1
    unfold F_X11_stillHere_99
    refine loopI (cK C) (fun ff i => F_X11_stillHere_99_2 ff M1 (zi x) (zi (i : Nat))) (fun o => o = (if kno C x = true then rV M1 else if f = 0 then rV (sA (sA M1 104 (cK C) (zi x)) 102 3 (zi ((cK C + 1 : Nat)))) else rV M1)) (fun i => ∀ j, j < i → cS C j ≠ x) (fun ff hI => ?_) (fun ff i hi hI => ?_) 0 FUEL (Nat.zero_le _) (fun j hj => absurd hj (Nat.not_lt_zero j)) (FUEL_gt (by omega))
    · have hk : kno C x = false := by
        unfold kno
        rw [noB_t (fun k hk => decide_eq_false (hI k hk))]
        rfl
      have e5 : mA (sA M1 104 (cK C) (zi x)) 102 3 = zi (cK C) := (congrFun (rA_ne (by decide) : (sA M1 104 (cK C) (zi x)).2.2.1 102 = M1.2.2.1 102) 3).trans d1.1.2.2.2
      rw [F_X11_stillHere_99_2, e3, d1.1.2.2.2, if_pos (by decide), if_pos (by rw [zi_le (by omega) (by omega)]; omega), t1.2.2.1, hk, if_neg (show ¬ false = true by decide)]
      by_cases q : f = 0
      · rw [if_pos (by rw [q]; rfl), if_pos (by decide), if_pos (zi_ixT (by omega) (by omega)), if_pos (by decide), if_pos (by decide), zi_natN (by omega), e5, show (1 : Int32) = zi 1 from rfl, zi_add, zc (show (cK C : Int) + 1 = ((cK C + 1 : Nat) : Int) by omega), lt_z, if_pos q]
      · rw [if_neg (by rw [show (0 : Int32) = zi 0 from rfl, zi_eq (by omega) (by omega)]; exact q), if_neg q]
    · have hS := d1.2.2.2.1 i hi
      have hS2 := hw.2.2.2.1 i hi
      show F_X11_stillHere_99_2 (ff + 1) M1 (zi x) (zi (i : Nat)) = _ ∨ _
      rw [F_X11_stillHere_99_2, e3, d1.1.2.2.2, if_pos (by decide), if_neg (by rw [zi_le (by omega) (by omega)]; omega), if_pos (zi_ixT (by omega) (by omega)), zi_natN (by omega), hS]
      by_cases q : cS C i = x
      · left
        have hk : kno C x = true := by
          unfold kno
          rw [noB_f hi (decide_eq_true q)]
          rfl
        rw [if_pos (by rw [q]), hk, if_pos rfl]
      · right
        refine ⟨fun j hj => ?_, ?_⟩
        · by_cases q2 : j = i
          · rw [q2]; exact q
          · exact hI j (by omega)
        · rw [if_neg (by rw [zi_eq (by omega) (by omega)]; omega), show (1 : Int32) = zi 1 from rfl, zi_add, lt_z, zc (show (i : Int) + 1 = ((i + 1 : Nat) : Int) by omega)]
  unfold o3
  obtain ⟨M1, k1, ⟨f1, e1, t1⟩ | ⟨f1, e1, t1⟩⟩ := num_m (lo := 0) (hi := 99999) h (by decide) (by decide)
  · have v1 := nFl_in f1
    have d1 := hd.e2 k1.2
    rw [nxt_t f1, show (0 : Int32) = zi 0 from rfl, show (99999 : Int32) = zi 99999 from rfl, e1, cI_s]
    generalize nV b n p = x at *
    rw [loop M1 x 0 (-1) _ t1 d1 (by omega)]
    cases hk : kno C x with
    | true =>
      have hst : StM b n M1 (oGood (nE b n p) C A) cl := Or.inl ⟨rfl, t1, d1, (k1.1 99 7 (by decide)).trans hcl⟩
      obtain ⟨M9, s1, s2, s3⟩ := semi_m hst
      rw [if_pos rfl, cV_s, s1, cV_s, if_pos rfl]
      exact ⟨M9, rfl, k1.samM.tr s2, s3⟩
    | false =>
      have hst : StM b n (sA (sA M1 104 (cK C) (zi x)) 102 3 (zi ((cK C + 1 : Nat)))) (oGood (nE b n p) (cal4 C x) A) cl := by
        obtain ⟨h1, h2, h3, h4, h5⟩ := d1
        have al : ∀ q i, q ≠ 102 → q ≠ 104 → mA (sA (sA M1 104 (cK C) (zi x)) 102 3 (zi ((cK C + 1 : Nat)))) q i = mA M1 q i := fun q i q1 q2 => congrFun ((rA_ne q1).trans (rA_ne q2) : (sA (sA M1 104 (cK C) (zi x)) 102 3 (zi ((cK C + 1 : Nat)))).2.2.1 q = M1.2.2.1 q) i
        have aN : ∀ j, j ≠ 3 → mA (sA (sA M1 104 (cK C) (zi x)) 102 3 (zi ((cK C + 1 : Nat)))) 102 j = mA M1 102 j := fun j hj => (rA_nk hj).trans (congrFun (rA_ne (by decide) : (sA M1 104 (cK C) (zi x)).2.2.1 102 = M1.2.2.1 102) j)
        refine Or.inl ⟨rfl, t1.kp (fun k _ _ => rfl) ((rA_ne (by decide)).trans (rA_ne (by decide)) : (sA (sA M1 104 (cK C) (zi x)) 102 3 (zi ((cK C + 1 : Nat)))).2.2.1 100 = M1.2.2.1 100), ⟨⟨(aN 0 (by decide)).trans h1.1, (aN 1 (by decide)).trans h1.2.1, (aN 2 (by decide)).trans h1.2.2.1, rA_at⟩, fun l hl => ⟨(al 106 l (by decide) (by decide)).trans (h2 l hl).1, (al 108 l (by decide) (by decide)).trans (h2 l hl).2⟩, fun l hl => ⟨(al 110 l (by decide) (by decide)).trans (h3 l hl).1, (al 112 l (by decide) (by decide)).trans (h3 l hl).2⟩, fun i hi => ?_, h5⟩, (k1.1 99 7 (by decide)).trans hcl⟩
        have hi' : i < cK C + 1 := hi
        have r1 : mA (sA (sA M1 104 (cK C) (zi x)) 102 3 (zi ((cK C + 1 : Nat)))) 104 i = (sA M1 104 (cK C) (zi x)).2.2.1 104 i := congrFun (rA_ne (by decide)) i
        rw [r1]
        show _ = zi ((if i = cK C then x else cS C i : Nat))
        by_cases q : i = cK C
        · rw [if_pos q, q, rA_at]
        · rw [if_neg q, rA_nk q]; exact h4 i (by omega)
      obtain ⟨M9, s1, s2, s3⟩ := semi_m hst
      rw [if_neg (show ¬ false = true by decide), if_pos rfl, cV_s, s1, cV_s, if_neg (show ¬ false = true by decide)]
      exact ⟨M9, rfl, (k1.samM.tr ((SamM.a 104 _ _ (by decide)).tr (SamM.a 102 _ _ (by decide)))).tr s2, s3⟩
  · have d1 := hd.e2 k1.2
    have lp := loop M1 0 _ _ _ t1 d1 (by decide)
    rw [if_neg f1] at lp
    have lp' : F_X11_stillHere_99 M1 (zi 0) = rV M1 := by
      refine Eq.trans (show _ = F_X11_stillHere_99 M1 (zi ((0 : Nat) : Int)) from rfl) (lp.trans ?_)
      split <;> rfl
    rw [nxt_f f1, semi_bad f1, show (0 : Int32) = zi 0 from rfl, show (99999 : Int32) = zi 99999 from rfl, e1, cI_s, lp', cV_s, signbad_m t1 f1, cV_s]
    exact ⟨M1, rfl, k1.samM, StM_bad f1 t1⟩
theorem slip_m {b : Nat → Nat} {M : PM} {n p cl : Nat} {C : Cal} {A : Nat → Nat → Nat} (h : TM b M n p 0 (-1)) (hd : DM M C A) (hw : WFD C A) (hcl : mI M 99 7 = zi cl) : ∃ M', (cI (F_X11_number_99 M 0 ((mA M 102 (2 : Int32).toNatClampNeg) - 1)) fun v1031 M1030 => if ixOK 0 6 = true then cI (F_X11_number_99 M1030 0 ((mA M1030 102 (0 : Int32).toNatClampNeg) - 1)) fun v1033 M1032 => (if mI M1032 99 5 = 0 then if ixOK v1033 12 = true then F_X11_clause_99_445 M1032 v1031 v1033 0 ((mA M1032 106 v1033.toNatClampNeg) - 1) else none else F_X11_clause_99_445 M1032 v1031 v1033 0 0) else none) = rV M' ∧ SamM M M' ∧ StM b n M' (semi b n (o4 b n p C A)) cl := by
  have hn := hw.1
  have z0 : (0 : Int32).toNatClampNeg = 0 := by decide
  have bad445 : ∀ (M3 : PM) (f g : Int) (p1 : Nat) (x y u v : Int32), TM b M3 n p1 f g → f ≠ 0 → F_X11_clause_99_445 M3 x y u v = rV M3 := fun M3 f g p1 x y u v t hf => by
    have := t.2.2.2.2.2.2.1
    unfold F_X11_clause_99_445
    rw [numbad_m t hf, cI_s, t.2.2.1, if_neg (by rw [show (0 : Int32) = zi 0 from rfl, zi_eq (by omega) (by omega)]; exact hf), signbad_m t hf, cV_s]
  unfold o4
  rw [show (2 : Int32).toNatClampNeg = 2 from by decide, hd.1.2.2.1, show (1 : Int32) = zi 1 from rfl, zi_sub]
  obtain ⟨M1, k1, ⟨f1, e1, t1⟩ | ⟨f1, e1, t1⟩⟩ := num_m (lo := 0) (hi := (cH C : Int) - 1) h (by decide) (by omega)
  · have v1 := nFl_in f1
    have d1 := hd.e2 k1.2
    have e1' : F_X11_number_99 M 0 (zi ((cH C : Int) - 1)) = _ := e1
    rw [nxt_t f1, e1', cI_s, if_pos (by decide), z0, d1.1.1, zi_sub]
    try dsimp only
    generalize nV b n p = hh at *
    obtain ⟨M2, k2, ⟨f2, e2, t2⟩ | ⟨f2, e2, t2⟩⟩ := num_m (lo := 0) (hi := (cN C : Int) - 1) t1 (by decide) (by omega)
    · have v2 := nFl_in f2
      have d2 := d1.e2 k2.2
      have e2' : F_X11_number_99 M1 0 (zi ((cN C : Int) - 1)) = _ := e2
      rw [nxt_t f2, e2', cI_s]
      try dsimp only
      generalize nV b n (nE b n p) = l at *
      have hl : l < cN C := by omega
      have hwl := (hw.2.1 l hl).1
      rw [t2.2.2.1, if_pos (by rfl), if_pos (zi_ixT (by omega) (by omega)), zi_natN (by omega), (d2.2.1 l hl).1, zi_sub]
      unfold F_X11_clause_99_445
      obtain ⟨M3, k3, ⟨f3, e3, t3⟩ | ⟨f3, e3, t3⟩⟩ := num_m (lo := 0) (hi := (cW C l : Int) - 1) t2 (by decide) (by omega)
      · have v3 := nFl_in f3
        have d3 := d2.e2 k3.2
        have e3' : F_X11_number_99 M2 0 (zi ((cW C l : Int) - 1)) = _ := e3
        rw [nxt_t f3, e3', cI_s, t3.2.2.1, if_pos (by rfl), if_pos (zi_ixT (by omega) (by omega)), if_pos ⟨by rw [zi_natN (by omega)]; omega, zi_ixT (by omega) (by omega)⟩, zi_natN (by omega), zi_natN (by omega)]
        try dsimp only
        generalize nV b n (nE b n (nE b n p)) = x at *
        have hst : StM b n (sG M3 114 hh l (zi x)) (oGood (nE b n (nE b n (nE b n p))) C (slA A hh l x)) cl := by
          obtain ⟨h1, h2, h3, h4, h5⟩ := d3
          refine Or.inl ⟨rfl, t3.kp (fun k _ _ => rfl) rfl, ⟨h1, h2, h3, h4, fun h' l' a1 a2 => ?_⟩, ((k3.1 99 7 (by decide)).trans ((k2.1 99 7 (by decide)).trans (k1.1 99 7 (by decide)))).trans hcl⟩
          show (sG M3 114 hh l (zi x)).2.2.2.2 114 h' l' = zi ((if h' = hh ∧ l' = l then x else A h' l' : Nat))
          by_cases q : h' = hh ∧ l' = l
          · rw [if_pos q, q.1, q.2, rG_at]
          · rw [if_neg q]
            by_cases q2 : h' = hh
            · rw [q2, rG_nk (fun e => q ⟨q2, e⟩), ← q2]
              exact h5 h' l' a1 a2
            · rw [rG_nr q2]
              exact h5 h' l' a1 a2
        obtain ⟨M9, s1, s2, s3⟩ := semi_m hst
        rw [s1, cV_s]
        exact ⟨M9, rfl, (((k1.tr k2).tr k3).samM.tr (SamM.g 114 _ _ _ (by decide))).tr s2, s3⟩
      · have e3' : F_X11_number_99 M2 0 (zi ((cW C l : Int) - 1)) = _ := e3
        have hf4 := t3.2.2.2.2.2.2.1
        rw [nxt_f f3, semi_bad f3, e3', cI_s, t3.2.2.1, if_neg (by rw [show (0 : Int32) = zi 0 from rfl, zi_eq (by omega) (by omega)]; exact f3), signbad_m t3 f3, cV_s]
        refine ⟨M3, rfl, ((k1.tr k2).tr k3).samM, ?_⟩
        exact StM_bad f3 t3
    · have e2' : F_X11_number_99 M1 0 (zi ((cN C : Int) - 1)) = _ := e2
      have hf4 := t2.2.2.2.2.2.2.1
      rw [nxt_f f2, semi_bad f2, e2', cI_s, t2.2.2.1, if_neg (by rw [show (0 : Int32) = zi 0 from rfl, zi_eq (by omega) (by omega)]; exact f2), bad445 M2 _ _ _ _ _ _ _ t2 f2]
      exact ⟨M2, rfl, (k1.tr k2).samM, StM_bad f2 t2⟩
  · have e1' : F_X11_number_99 M 0 (zi ((cH C : Int) - 1)) = _ := e1
    have hf4 := t1.2.2.2.2.2.2.1
    rw [nxt_f f1, semi_bad f1, e1', cI_s, if_pos (by decide), numbad_m t1 f1, cI_s, t1.2.2.1, if_neg (by rw [show (0 : Int32) = zi 0 from rfl, zi_eq (by omega) (by omega)]; exact f1), bad445 M1 _ _ _ _ _ _ _ t1 f1]
    exact ⟨M1, rfl, k1.samM, StM_bad f1 t1⟩
