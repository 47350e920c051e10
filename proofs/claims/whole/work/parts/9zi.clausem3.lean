/-! calendar: a clause of the reference -/
theorem wd34 {b : Nat → Nat} {n q : Nat} (h : wdB b n 4 q = true) : wdB b n 3 q = false := by
  have h1 := (wdB_s.mpr h).1
  cases h2 : wdB b n 3 q
  · rfl
  · have h3 := (wdB_s.mpr h2).1
    have l4 : wLn 4 = 5 := rfl
    have l3 : wLn 3 = 4 := rfl
    omega
theorem c180bad {b : Nat → Nat} {M : PM} {n p : Nat} {f g : Int} {x1 : Int32} (h : TM b M n p f g) (hf : f ≠ 0) : F_X11_clause_99_180 M x1 = rV M := by
  have := h.2.2.2.2.2.2.1
  unfold F_X11_clause_99_180
  rw [h.2.2.1, if_neg (by rw [show (0 : Int32) = zi 0 from rfl, zi_eq (by omega) (by omega)]; exact hf)]
theorem c171 {b : Nat → Nat} {M : PM} {n q cl : Nat} {C : Cal} {A : Nat → Nat → Nat} {x1 : Int32} (h : TM b M n q 0 (-1)) : ∃ M', F_X11_clause_99_171 M x1 = rV M' ∧ SamM M M' ∧ StM b n M' (oBad C A 3 q) cl := by
  obtain ⟨M1, w1, w2, w3⟩ := wrong_m (x := 3) (y := ((q : Nat) : Int)) h (by decide)
  rw [if_pos rfl, if_pos rfl] at w2
  unfold F_X11_clause_99_171
  rw [h.2.1, show (3 : Int32) = zi 3 from rfl, w1, cV_s, c180bad w2 (by decide)]
  exact ⟨M1, rfl, w3.samM, StM_bad (by decide) w2⟩
/-- the word is passed, the clause counted -/
theorem c180 {b : Nat → Nat} {M : PM} {n q k cl : Nat} {C : Cal} {A : Nat → Nat → Nat} (h : TM b M n q 0 (-1)) (hd : DM M C A) (hcl : mI M 99 7 = zi cl) (hcl2 : cl ≤ 60) (hk : WD b n k q) : ∃ M1, F_X11_skipWord_99 M = rV M1 ∧ mI M1 99 7 = zi cl ∧ SamM M (sI M1 99 7 (zi ((cl + 1 : Nat)))) ∧ TM b (sI M1 99 7 (zi ((cl + 1 : Nat)))) n (q + wLn k) 0 (-1) ∧ DM (sI M1 99 7 (zi ((cl + 1 : Nat)))) C A ∧ mI (sI M1 99 7 (zi ((cl + 1 : Nat)))) 99 7 = zi ((cl + 1 : Nat)) := by
  obtain ⟨M1, s1, s2, s3⟩ := skipWord_m h
  rw [hk.1] at s2
  refine ⟨M1, s1, (s3.1 99 7 (by decide)).trans hcl, s3.samM.tr ⟨Sam.i 99 7 _ (by decide) Sam.rf, rI_nk (by decide)⟩, s2.kp (fun k h1 h2 => rI_nk (by omega)) rfl, (hd.e2 s3.2).e2 rfl, rI_at⟩
theorem clause_m {b : Nat → Nat} {M : PM} {n p cl : Nat} {C : Cal} {A : Nat → Nat → Nat} (h : TM b M n p 0 (-1)) (hd : DM M C A) (hw : WFD C A) (hcl : mI M 99 7 = zi cl) (hcl2 : cl ≤ 60) : ∃ M', F_X11_clause_99 M = rV M' ∧ SamM M M' ∧ StM b n M' (oCl b n cl p C A) (cl + 1) := by
  have hp := h.2.2.2.2.1
  have hwn := hw.1
  unfold F_X11_clause_99 oCl
  have add1 : zi (cl : Int) + zi 1 = zi ((cl + 1 : Nat)) := by rw [zi_add]; rfl
  obtain ⟨v0, M0, a1, a2, a3, _⟩ := isWord_m (k := 0) (a1 := 12) (a2 := 1) (a3 := 23) (a4 := 0) (a5 := 0) h (by decide) (fun _ => rfl)
  obtain ⟨a4, a5⟩ := a3 rfl
  have a4' := wd_eq a4
  have ad := hd.e2 a2.2
  have ac : mI M0 99 7 = zi cl := (a2.1 99 7 (by decide)).trans hcl
  rw [a1, cI_s, ← a4']
  cases v0 with
  | true =>
    rw [if_neg (by decide), if_pos rfl]
    unfold F_X11_clause_99_100
    rw [if_neg (by decide), ac]
    by_cases q1 : cl = 60
    · rw [if_pos (by rw [q1]; rfl), if_pos (Or.inl q1)]
      obtain ⟨N, n1, n2, n3⟩ := c171 (C := C) (A := A) (cl := cl + 1) (x1 := 0) a5
      exact ⟨N, n1, a2.samM.tr n2, n3⟩
    rw [if_neg (by rw [show (60 : Int32) = zi 60 from rfl, zi_eq (by omega) (by omega)]; omega), if_neg (by decide), if_pos (by decide), if_pos rfl]
    unfold F_X11_clause_99_168
    rw [show (0 : Int32).toNatClampNeg = 0 from by decide, ad.1.1]
    by_cases q2 : cN C = 12
    · rw [if_pos (by rw [q2]; rfl), if_pos (Or.inr q2)]
      obtain ⟨N, n1, n2, n3⟩ := c171 (C := C) (A := A) (cl := cl + 1) (x1 := 0) a5
      exact ⟨N, n1, a2.samM.tr n2, n3⟩
    rw [if_neg (by rw [show (12 : Int32) = zi 12 from rfl, zi_eq (by omega) (by omega)]; omega), if_neg (by omega)]
    obtain ⟨N, n1, n2, n3, n4, n5, n6⟩ := c180 (k := 0) a5 ad ac hcl2 (a4.mp rfl)
    obtain ⟨N2, k1, k2, k3⟩ := law0_m n4 n5 hw n6 (by omega)
    refine ⟨N2, ?_, (a2.samM.tr n3).tr k2, k3⟩
    unfold F_X11_clause_99_180
    rw [a5.2.2.1, if_pos (show zi 0 = 0 from rfl), n1, cV_s, if_pos (show (0 : Int32) = 0 from rfl), n2, show (1 : Int32) = zi 1 from rfl, add1, if_pos (by decide)]
    exact k1
  | false =>
  rw [if_pos (by decide), if_neg (by decide)]
  obtain ⟨v1, M1, b1, b2, b3, _⟩ := isWord_m (k := 1) (a1 := 15) (a2 := 20) (a3 := 8) (a4 := 5) (a5 := 18) a5 (by decide) (fun _ => rfl)
  obtain ⟨b4, b5⟩ := b3 rfl
  rw [sb_sb hp] at b4 b5
  have b4' := wd_eq b4
  have bd := ad.e2 b2.2
  have bc : mI M1 99 7 = zi cl := (b2.1 99 7 (by decide)).trans ac
  rw [b1, cI_s, ← b4']
  cases v1 with
  | true =>
    rw [if_neg (by decide), if_pos rfl]
    unfold F_X11_clause_99_100
    rw [if_neg (by decide), bc]
    by_cases q1 : cl = 60
    · rw [if_pos (by rw [q1]; rfl), if_pos (Or.inl q1)]
      obtain ⟨N, n1, n2, n3⟩ := c171 (C := C) (A := A) (cl := cl + 1) (x1 := 1) b5
      exact ⟨N, n1, (a2.tr b2).samM.tr n2, n3⟩
    rw [if_neg (by rw [show (60 : Int32) = zi 60 from rfl, zi_eq (by omega) (by omega)]; omega), if_neg (by decide), if_pos (by decide), if_neg (by decide), if_pos rfl]
    unfold F_X11_clause_99_168
    rw [show (1 : Int32).toNatClampNeg = 1 from by decide, bd.1.2.1]
    by_cases q2 : oN C = 6
    · rw [if_pos (by rw [q2]; rfl), if_pos (Or.inr q2)]
      obtain ⟨N, n1, n2, n3⟩ := c171 (C := C) (A := A) (cl := cl + 1) (x1 := 1) b5
      exact ⟨N, n1, (a2.tr b2).samM.tr n2, n3⟩
    rw [if_neg (by rw [show (6 : Int32) = zi 6 from rfl, zi_eq (by omega) (by omega)]; omega), if_neg (by omega)]
    obtain ⟨N, n1, n2, n3, n4, n5, n6⟩ := c180 (k := 1) b5 bd bc hcl2 (b4.mp rfl)
    obtain ⟨N2, k1, k2, k3⟩ := law1_m n4 n5 hw n6 (by omega)
    refine ⟨N2, ?_, ((a2.tr b2).samM.tr n3).tr k2, k3⟩
    unfold F_X11_clause_99_180
    rw [b5.2.2.1, if_pos (show zi 0 = 0 from rfl), n1, cV_s, if_neg (show ¬ (1 : Int32) = 0 by decide), if_pos (show (1 : Int32) = 1 from rfl), n2, show zi (cl : Int) + (1 : Int32) = zi ((cl + 1 : Nat)) from add1, if_pos (by decide)]
    exact k1
  | false =>
  rw [if_pos (by decide), if_neg (by decide)]
  obtain ⟨v2, M2, c1, c2, c3, _⟩ := isWord_m (k := 2) (a1 := 8) (a2 := 15) (a3 := 21) (a4 := 19) (a5 := 5) b5 (by decide) (fun _ => rfl)
  obtain ⟨c4, c5⟩ := c3 rfl
  rw [sb_sb hp] at c4 c5
  have c4' := wd_eq c4
  have cd := bd.e2 c2.2
  have cc : mI M2 99 7 = zi cl := (c2.1 99 7 (by decide)).trans bc
  rw [c1, cI_s, ← c4']
  cases v2 with
  | true =>
    rw [if_neg (by decide), if_pos rfl]
    unfold F_X11_clause_99_100
    rw [if_neg (by decide), cc]
    by_cases q1 : cl = 60
    · rw [if_pos (by rw [q1]; rfl), if_pos (Or.inl q1)]
      obtain ⟨N, n1, n2, n3⟩ := c171 (C := C) (A := A) (cl := cl + 1) (x1 := 2) c5
      exact ⟨N, n1, ((a2.tr b2).tr c2).samM.tr n2, n3⟩
    rw [if_neg (by rw [show (60 : Int32) = zi 60 from rfl, zi_eq (by omega) (by omega)]; omega), if_neg (by decide), if_pos (by decide), if_neg (by decide), if_neg (by decide), if_pos rfl]
    unfold F_X11_clause_99_168
    rw [show (2 : Int32).toNatClampNeg = 2 from by decide, cd.1.2.2.1]
    by_cases q2 : cH C = 10
    · rw [if_pos (by rw [q2]; rfl), if_pos (Or.inr q2)]
      obtain ⟨N, n1, n2, n3⟩ := c171 (C := C) (A := A) (cl := cl + 1) (x1 := 2) c5
      exact ⟨N, n1, ((a2.tr b2).tr c2).samM.tr n2, n3⟩
    rw [if_neg (by rw [show (10 : Int32) = zi 10 from rfl, zi_eq (by omega) (by omega)]; omega), if_neg (by omega)]
    obtain ⟨N, n1, n2, n3, n4, n5, n6⟩ := c180 (k := 2) c5 cd cc hcl2 (c4.mp rfl)
    obtain ⟨N2, k1, k2, k3⟩ := house_m n4 n5 hw n6 (by omega)
    refine ⟨N2, ?_, (((a2.tr b2).tr c2).samM.tr n3).tr k2, k3⟩
    unfold F_X11_clause_99_180
    rw [c5.2.2.1, if_pos (show zi 0 = 0 from rfl), n1, cV_s, if_neg (show ¬ (2 : Int32) = 0 by decide), if_neg (show ¬ (2 : Int32) = 1 by decide), if_pos (show (2 : Int32) = 2 from rfl), n2, show zi (cl : Int) + (1 : Int32) = zi ((cl + 1 : Nat)) from add1]
    exact k1
  | false =>
  rw [if_pos (by decide), if_neg (by decide)]
  obtain ⟨v4, M4, d1, d2, d3, _⟩ := isWord_m (k := 4) (a1 := 19) (a2 := 20) (a3 := 9) (a4 := 12) (a5 := 12) c5 (by decide) (fun _ => rfl)
  obtain ⟨d4, d5⟩ := d3 rfl
  rw [sb_sb hp] at d4 d5
  have d4' := wd_eq d4
  have dd := cd.e2 d2.2
  have dc : mI M4 99 7 = zi cl := (d2.1 99 7 (by decide)).trans cc
  rw [d1, cI_s, ← d4']
  cases v4 with
  | true =>
    rw [if_neg (by decide), if_neg (by rw [wd34 d4'.symm]; decide), if_pos rfl]
    unfold F_X11_clause_99_100
    rw [if_neg (by decide), dc]
    by_cases q1 : cl = 60
    · rw [if_pos (by rw [q1]; rfl), if_pos (Or.inl q1)]
      obtain ⟨N, n1, n2, n3⟩ := c171 (C := C) (A := A) (cl := cl + 1) (x1 := 3) d5
      exact ⟨N, n1, (((a2.tr b2).tr c2).tr d2).samM.tr n2, n3⟩
    rw [if_neg (by rw [show (60 : Int32) = zi 60 from rfl, zi_eq (by omega) (by omega)]; omega), if_neg (by decide), if_pos (by decide), if_neg (by decide), if_neg (by decide), if_neg (by decide)]
    unfold F_X11_clause_99_168
    rw [show (3 : Int32).toNatClampNeg = 3 from by decide, dd.1.2.2.2]
    by_cases q2 : cK C = 3
    · rw [if_pos (by rw [q2]; rfl), if_pos (Or.inr q2)]
      obtain ⟨N, n1, n2, n3⟩ := c171 (C := C) (A := A) (cl := cl + 1) (x1 := 3) d5
      exact ⟨N, n1, (((a2.tr b2).tr c2).tr d2).samM.tr n2, n3⟩
    rw [if_neg (by rw [show (3 : Int32) = zi 3 from rfl, zi_eq (by omega) (by omega)]; omega), if_neg (by omega)]
    obtain ⟨N, n1, n2, n3, n4, n5, n6⟩ := c180 (k := 4) d5 dd dc hcl2 (d4.mp rfl)
    obtain ⟨N2, k1, k2, k3⟩ := still_m n4 n5 hw n6 (by omega)
    refine ⟨N2, ?_, ((((a2.tr b2).tr c2).tr d2).samM.tr n3).tr k2, k3⟩
    unfold F_X11_clause_99_180
    rw [d5.2.2.1, if_pos (show zi 0 = 0 from rfl), n1, cV_s, if_neg (show ¬ (3 : Int32) = 0 by decide), if_neg (show ¬ (3 : Int32) = 1 by decide), if_neg (show ¬ (3 : Int32) = 2 by decide), if_pos (show (3 : Int32) = 3 from rfl), n2, show zi (cl : Int) + (1 : Int32) = zi ((cl + 1 : Nat)) from add1]
    exact k1
  | false =>
  rw [if_pos (by decide)]
  obtain ⟨v3, M3, e1, e2, e3, _⟩ := isWord_m (k := 3) (a1 := 19) (a2 := 12) (a3 := 9) (a4 := 16) (a5 := 0) d5 (by decide) (fun _ => rfl)
  obtain ⟨e4, e5⟩ := e3 rfl
  rw [sb_sb hp] at e4 e5
  have e4' := wd_eq e4
  have ed := dd.e2 e2.2
  have ec : mI M3 99 7 = zi cl := (e2.1 99 7 (by decide)).trans dc
  rw [e1, cI_s, ← e4']
  cases v3 with
  | true =>
    rw [if_neg (by decide), if_pos rfl]
    unfold F_X11_clause_99_100
    rw [if_neg (by decide), ec]
    by_cases q1 : cl = 60
    · rw [if_pos (by rw [q1]; rfl), if_pos q1]
      obtain ⟨N, n1, n2, n3⟩ := c171 (C := C) (A := A) (cl := cl + 1) (x1 := 4) e5
      exact ⟨N, n1, ((((a2.tr b2).tr c2).tr d2).tr e2).samM.tr n2, n3⟩
    rw [if_neg (by rw [show (60 : Int32) = zi 60 from rfl, zi_eq (by omega) (by omega)]; omega), if_pos (by decide), if_neg q1]
    obtain ⟨N, n1, n2, n3, n4, n5, n6⟩ := c180 (k := 3) e5 ed ec hcl2 (e4.mp rfl)
    obtain ⟨N2, k1, k2, k3⟩ := slip_m n4 n5 hw n6
    refine ⟨N2, ?_, (((((a2.tr b2).tr c2).tr d2).tr e2).samM.tr n3).tr k2, k3⟩
    unfold F_X11_clause_99_180
    rw [e5.2.2.1, if_pos (show zi 0 = 0 from rfl), n1, cV_s, if_neg (show ¬ (4 : Int32) = 0 by decide), if_neg (show ¬ (4 : Int32) = 1 by decide), if_neg (show ¬ (4 : Int32) = 2 by decide), if_neg (show ¬ (4 : Int32) = 3 by decide), n2, show zi (cl : Int) + (1 : Int32) = zi ((cl + 1 : Nat)) from add1, if_pos (by decide)]
    exact k1
  | false =>
    rw [if_pos (by decide), if_neg (by decide), if_neg (by decide)]
    unfold F_X11_clause_99_100
    obtain ⟨N, w1, w2, w3⟩ := wrong_m (x := 1) (y := ((sb b n p : Nat) : Int)) e5 (by decide)
    rw [if_pos rfl, if_pos rfl] at w2
    have w1' : F_X11_wrong_99 M3 1 (zi (sb b n p)) = rV N := w1
    rw [if_pos rfl, e5.2.1, w1', cV_s, c180bad w2 (by decide)]
    exact ⟨N, rfl, (((((a2.tr b2).tr c2).tr d2).tr e2).tr w3).samM, StM_bad (by decide) w2⟩
