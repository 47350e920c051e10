/-! calendar: the reference's clauses -/
def SamM (M M' : PM) : Prop := Sam M M' ∧ M'.1 99 0 = M.1 99 0
theorem SamM.rf {M : PM} : SamM M M := ⟨Sam.rf, rfl⟩
theorem SamM.tr {M M1 M2 : PM} (h : SamM M M1) (g : SamM M1 M2) : SamM M M2 := ⟨h.1.tr g.1, g.2.trans h.2⟩
theorem KR.samM {M M' : PM} (h : KR M M') : SamM M M' := ⟨h.sam, h.1 99 0 (by decide)⟩
theorem SamM.a {M : PM} (q k : Nat) (x : Int32) (hk : kAl.contains q = false) : SamM M (sA M q k x) := ⟨Sam.a q k x hk Sam.rf, rfl⟩
theorem SamM.g {M : PM} (q i k : Nat) (x : Int32) (hk : kGl.contains q = false) : SamM M (sG M q i k x) := ⟨Sam.g q i k x hk Sam.rf, rfl⟩
/-- the reference's draft -/
def DM (M : PM) (C : Cal) (A : Nat → Nat → Nat) : Prop := (mA M 102 0 = zi (cN C) ∧ mA M 102 1 = zi (oN C) ∧ mA M 102 2 = zi (cH C) ∧ mA M 102 3 = zi (cK C)) ∧ (∀ l, l < cN C → mA M 106 l = zi (cW C l) ∧ mA M 108 l = zi (cD C l)) ∧ (∀ l, l < oN C → mA M 110 l = zi (oW C l) ∧ mA M 112 l = zi (oD C l)) ∧ (∀ i, i < cK C → mA M 104 i = zi (cS C i)) ∧ (∀ h l, h < cH C → l < 12 → mG M 114 h l = zi (A h l))
theorem DM.e2 {M M' : PM} {C : Cal} {A : Nat → Nat → Nat} (h : DM M C A) (k : M'.2 = M.2) : DM M' C A := by
  have ea : ∀ q i, mA M' q i = mA M q i := fun q i => by rw [mA, mA, k]
  have eg : ∀ q i j, mG M' q i j = mG M q i j := fun q i j => by rw [mG, mG, k]
  obtain ⟨h1, h2, h3, h4, h5⟩ := h
  exact ⟨⟨(ea 102 0).trans h1.1, (ea 102 1).trans h1.2.1, (ea 102 2).trans h1.2.2.1, (ea 102 3).trans h1.2.2.2⟩, fun l hl => ⟨(ea 106 l).trans (h2 l hl).1, (ea 108 l).trans (h2 l hl).2⟩, fun l hl => ⟨(ea 110 l).trans (h3 l hl).1, (ea 112 l).trans (h3 l hl).2⟩, fun i hi => (ea 104 i).trans (h4 i hi), fun h' l a1 a2 => (eg 114 h' l).trans (h5 h' l a1 a2)⟩
theorem num_m {b : Nat → Nat} {M : PM} {n p : Nat} {lo hi : Int} (h : TM b M n p 0 (-1)) (hlo : -2147483648 ≤ lo ∧ lo < 2147483648) (hhi : -2147483648 ≤ hi ∧ hi < 2147483648) : ∃ M', KR M M' ∧ ((nFl b n p lo hi = 0 ∧ F_X11_number_99 M (zi lo) (zi hi) = rI (zi (nV b n p)) M' ∧ TM b M' n (nE b n p) 0 (-1)) ∨ (nFl b n p lo hi ≠ 0 ∧ F_X11_number_99 M (zi lo) (zi hi) = rI (zi 0) M' ∧ TM b M' n (nE b n p) (nFl b n p lo hi) ((sb b n p : Nat) : Int))) := by
  obtain ⟨M1, k, c1 | c1 | c1⟩ := number_m h hlo hhi
  · exact ⟨M1, k, Or.inl ⟨c1.2.1, c1.2.2.1, c1.2.2.2⟩⟩
  · exact ⟨M1, k, Or.inr ⟨c1.2.1, c1.2.2.1, c1.2.2.2⟩⟩
  · exact absurd rfl c1.1
theorem numbad_m {b : Nat → Nat} {M : PM} {n p : Nat} {f g : Int} (h : TM b M n p f g) (hf : f ≠ 0) (x y : Int32) : F_X11_number_99 M x y = rI (zi 0) M := by
  have := h.2.2.2.2.2.2.1
  unfold F_X11_number_99
  rw [h.2.2.1, if_neg (by rw [show (0 : Int32) = zi 0 from rfl, zi_eq (by omega) (by omega)]; exact hf)]
  rfl
theorem signbad_m {b : Nat → Nat} {M : PM} {n p : Nat} {f g : Int} (h : TM b M n p f g) (hf : f ≠ 0) (x : Int32) : F_X11_sign_99 M x = rV M := by
  have := h.2.2.2.2.2.2.1
  unfold F_X11_sign_99
  rw [h.2.2.1, if_neg (by rw [show (0 : Int32) = zi 0 from rfl, zi_eq (by omega) (by omega)]; exact hf)]
/-- the reference stands where o says -/
def StM (b : Nat → Nat) (n : Nat) (M : PM) (o : Out) (cl : Nat) : Prop := (o.1 = 0 ∧ TM b M n o.2.2.1 0 (-1) ∧ DM M o.2.2.2.1 o.2.2.2.2 ∧ mI M 99 7 = zi cl) ∨ (o.1 ≠ 0 ∧ ∃ p, TM b M n p o.1 o.2.1)
theorem semi_m {b : Nat → Nat} {M : PM} {n cl : Nat} {o : Out} (h : StM b n M o cl) : ∃ M', F_X11_sign_99 M 59 = rV M' ∧ SamM M M' ∧ StM b n M' (semi b n o) cl := by
  unfold semi
  rcases h with ⟨h0, h1, h2, h3⟩ | ⟨h0, p, h1⟩
  · obtain ⟨M1, m1, m2, m3, m4, m5⟩ := sign_m (c := 59) h1 (by decide)
    rw [if_pos h0]
    refine ⟨M1, m1, m2.samM, ?_⟩
    by_cases q : sb b n o.2.2.1 < n ∧ b (sb b n o.2.2.1) = 59
    · rw [if_pos q]
      exact Or.inl ⟨rfl, m3 rfl q, h2.e2 m2.2, (m2.1 99 7 (by decide)).trans h3⟩
    · rw [if_neg q]
      exact Or.inr ⟨by show (1 : Int) ≠ 0; decide, _, m4 rfl q⟩
  · rw [if_neg h0]
    exact ⟨M, signbad_m h1 h0 59, SamM.rf, Or.inr ⟨h0, p, h1⟩⟩
theorem law0_m {b : Nat → Nat} {M : PM} {n p cl : Nat} {C : Cal} {A : Nat → Nat → Nat} (h : TM b M n p 0 (-1)) (hd : DM M C A) (hw : WFD C A) (hcl : mI M 99 7 = zi cl) (hn : cN C < 12) : ∃ M', (cI (F_X11_number_99 M 2 24) fun v M4 => if ixOK (mA M 102 (0 : Int32).toNatClampNeg) 12 = true then if ixOK 0 6 = true then if ixOK 0 6 = true then if ixOK (mA (sA M4 106 (mA M 102 (0 : Int32).toNatClampNeg).toNatClampNeg v) 102 (0 : Int32).toNatClampNeg) 12 = true then cI (F_X11_number_99 (sA M4 106 (mA M 102 (0 : Int32).toNatClampNeg).toNatClampNeg v) 0 ((mA (sA M4 106 (mA M 102 (0 : Int32).toNatClampNeg).toNatClampNeg v) 106 (mA (sA M4 106 (mA M 102 (0 : Int32).toNatClampNeg).toNatClampNeg v) 102 (0 : Int32).toNatClampNeg).toNatClampNeg) - 1)) fun v2 M6 => if ixOK (mA (sA M4 106 (mA M 102 (0 : Int32).toNatClampNeg).toNatClampNeg v) 102 (0 : Int32).toNatClampNeg) 12 = true then lt (sA M6 108 (mA (sA M4 106 (mA M 102 (0 : Int32).toNatClampNeg).toNatClampNeg v) 102 (0 : Int32).toNatClampNeg).toNatClampNeg v2) fun M8 => if ixOK 0 6 = true then if ixOK 0 6 = true then cV (F_X11_sign_99 (sA M8 102 (0 : Int32).toNatClampNeg ((mA M8 102 (0 : Int32).toNatClampNeg) + 1)) 59) fun M9 => some (.inl none, M9) else none else none else none else none else none else none else none) = rV M' ∧ SamM M M' ∧ StM b n M' (semi b n (o0 b n p C A)) cl := by
  have hN : mA M 102 0 = zi (cN C) := hd.1.1
  have fin : ∀ (M4 : PM) (w : Int), KR M M4 → ∀ (f g : Int) (p1 : Nat), TM b M4 n p1 f g → f ≠ 0 → o0 b n p C A = oBad C A f (sb b n p) → g = ((sb b n p : Nat) : Int) → ∃ M', (if ixOK (mA M 102 (0 : Int32).toNatClampNeg) 12 = true then if ixOK 0 6 = true then if ixOK 0 6 = true then if ixOK (mA (sA M4 106 (mA M 102 (0 : Int32).toNatClampNeg).toNatClampNeg (zi w)) 102 (0 : Int32).toNatClampNeg) 12 = true then cI (F_X11_number_99 (sA M4 106 (mA M 102 (0 : Int32).toNatClampNeg).toNatClampNeg (zi w)) 0 ((mA (sA M4 106 (mA M 102 (0 : Int32).toNatClampNeg).toNatClampNeg (zi w)) 106 (mA (sA M4 106 (mA M 102 (0 : Int32).toNatClampNeg).toNatClampNeg (zi w)) 102 (0 : Int32).toNatClampNeg).toNatClampNeg) - 1)) fun v2 M6 => if ixOK (mA (sA M4 106 (mA M 102 (0 : Int32).toNatClampNeg).toNatClampNeg (zi w)) 102 (0 : Int32).toNatClampNeg) 12 = true then lt (sA M6 108 (mA (sA M4 106 (mA M 102 (0 : Int32).toNatClampNeg).toNatClampNeg (zi w)) 102 (0 : Int32).toNatClampNeg).toNatClampNeg v2) fun M8 => if ixOK 0 6 = true then if ixOK 0 6 = true then cV (F_X11_sign_99 (sA M8 102 (0 : Int32).toNatClampNeg ((mA M8 102 (0 : Int32).toNatClampNeg) + 1)) 59) fun M9 => some (.inl none, M9) else none else none else none else none else none else none else none) = rV M' ∧ SamM M M' ∧ StM b n M' (semi b n (o0 b n p C A)) cl := fun M4 w k4 f g p1 t4 hf ho hg => by
    have e1 : ∀ x, mA (sA M4 106 (cN C) x) 102 0 = zi (cN C) := fun x => (congrFun (rA_ne (by decide) : (sA M4 106 (cN C) x).2.2.1 102 = M4.2.2.1 102) 0).trans ((congrArg (fun m => m.2.1 102 0) k4.2).trans hN)
    have t5 : TM b (sA M4 106 (cN C) (zi w)) n p1 f g := t4.kp (fun k _ _ => rfl) (rA_ne (by decide))
    have t6 : ∀ x y, TM b (sA (sA (sA M4 106 (cN C) (zi w)) 108 (cN C) x) 102 0 y) n p1 f g := fun x y => t5.kp (fun k _ _ => rfl) ((rA_ne (by decide)).trans (rA_ne (by decide)) : (sA (sA (sA M4 106 (cN C) (zi w)) 108 (cN C) x) 102 0 y).2.2.1 100 = (sA M4 106 (cN C) (zi w)).2.2.1 100)
    rw [show (0 : Int32).toNatClampNeg = 0 from by decide, hN, zi_natN (by omega), e1, zi_natN (by omega), if_pos (zi_ixT (by omega) (by omega)), if_pos (by decide), if_pos (by decide), if_pos (zi_ixT (by omega) (by omega)), numbad_m t5 hf, cI_s, if_pos (zi_ixT (by omega) (by omega)), lt_z, if_pos (by decide), if_pos (by decide), signbad_m (t6 _ _) hf, cV_s]
    refine ⟨_, rfl, k4.samM.tr (((SamM.a 106 _ _ (by decide)).tr (SamM.a 108 _ _ (by decide))).tr (SamM.a 102 _ _ (by decide))), ?_⟩
    rw [ho, semi_bad hf]
    exact Or.inr ⟨hf, p1, by subst hg; exact t6 _ _⟩
  obtain ⟨M4, k4, ⟨f1, e1, t1⟩ | ⟨f1, e1, t1⟩⟩ := num_m (lo := 2) (hi := 24) h (by decide) (by decide)
  · have v1 := nFl_in f1
    rw [show (2 : Int32) = zi 2 from rfl, show (24 : Int32) = zi 24 from rfl, e1, cI_s]
    have ho : o0 b n p C A = nxt b n C A (nE b n p) 0 ((nV b n p : Int) - 1) (fun p2 d => oGood p2 (cal1 C (nV b n p) d) A) := nxt_t f1
    generalize nV b n p = w at *
    have e2 : ∀ x, mA (sA M4 106 (cN C) x) 102 0 = zi (cN C) := fun x => (congrFun (rA_ne (by decide) : (sA M4 106 (cN C) x).2.2.1 102 = M4.2.2.1 102) 0).trans ((congrArg (fun m => m.2.1 102 0) k4.2).trans hN)
    have e3 : ∀ x, mA (sA M4 106 (cN C) x) 106 (cN C) = x := fun x => rA_at
    have t5 : TM b (sA M4 106 (cN C) (zi w)) n (nE b n p) 0 (-1) := t1.kp (fun k _ _ => rfl) (rA_ne (by decide))
    obtain ⟨M6, k6, ⟨f2, e6, t6⟩ | ⟨f2, e6, t6⟩⟩ := num_m (lo := 0) (hi := (w : Int) - 1) t5 (by decide) (by omega)
    · have v2 := nFl_in f2
      have e7 : mA (sA M6 108 (cN C) (zi (nV b n (nE b n p)))) 102 0 = zi (cN C) := (congrFun (rA_ne (by decide) : (sA M6 108 (cN C) (zi (nV b n (nE b n p)))).2.2.1 102 = M6.2.2.1 102) 0).trans ((congrArg (fun m => m.2.1 102 0) k6.2).trans (e2 _))
      rw [show (0 : Int32).toNatClampNeg = 0 from by decide, hN, zi_natN (by omega), e2, zi_natN (by omega), e3, show (1 : Int32) = zi 1 from rfl, zi_sub, if_pos (zi_ixT (by omega) (by omega)), if_pos (by decide), if_pos (by decide), if_pos (zi_ixT (by omega) (by omega)), show (0 : Int32) = zi 0 from rfl, e6, cI_s, if_pos (zi_ixT (by omega) (by omega)), lt_z, if_pos (by decide), if_pos (by decide), e7, zi_add, zc (show (cN C : Int) + 1 = ((cN C + 1 : Nat) : Int) by omega)]
      rw [ho, nxt_t f2]
      generalize nV b n (nE b n p) = x at *
      have hst : StM b n (sA (sA M6 108 (cN C) (zi x)) 102 0 (zi ((cN C + 1 : Nat)))) (oGood (nE b n (nE b n p)) (cal1 C w x) A) cl := by
        have d6 : DM M6 C A → True := fun _ => trivial
        have hd4 : DM M4 C A := hd.e2 k4.2
        obtain ⟨h1, h2, h3, h4, h5⟩ := hd4
        have a6 : ∀ q i, mA M6 q i = mA (sA M4 106 (cN C) (zi w)) q i := fun q i => by rw [mA, mA, k6.2]
        have g6 : ∀ q i j, mG M6 q i j = mG M4 q i j := fun q i j => by rw [mG, mG, k6.2]; rfl
        have al : ∀ q i, q ≠ 102 → q ≠ 108 → q ≠ 106 → mA (sA (sA M6 108 (cN C) (zi x)) 102 0 (zi ((cN C + 1 : Nat)))) q i = mA M4 q i := fun q i q1 q2 q3 => (congrFun ((rA_ne q1).trans (rA_ne q2) : (sA (sA M6 108 (cN C) (zi x)) 102 0 (zi ((cN C + 1 : Nat)))).2.2.1 q = M6.2.2.1 q) i).trans ((a6 q i).trans (congrFun (rA_ne q3 : (sA M4 106 (cN C) (zi w)).2.2.1 q = M4.2.2.1 q) i))
        have aN : ∀ j, j ≠ 0 → mA (sA (sA M6 108 (cN C) (zi x)) 102 0 (zi ((cN C + 1 : Nat)))) 102 j = mA M4 102 j := fun j hj => (rA_nk hj).trans ((congrFun (rA_ne (by decide) : (sA M6 108 (cN C) (zi x)).2.2.1 102 = M6.2.2.1 102) j).trans ((a6 102 j).trans (congrFun (rA_ne (by decide) : (sA M4 106 (cN C) (zi w)).2.2.1 102 = M4.2.2.1 102) j)))
        have aD : ∀ l, mA (sA (sA M6 108 (cN C) (zi x)) 102 0 (zi ((cN C + 1 : Nat)))) 108 l = if l = cN C then zi x else mA M4 108 l := fun l => by
          have r1 : mA (sA (sA M6 108 (cN C) (zi x)) 102 0 (zi ((cN C + 1 : Nat)))) 108 l = (sA M6 108 (cN C) (zi x)).2.2.1 108 l := congrFun (rA_ne (by decide)) l
          rw [r1]
          by_cases q : l = cN C
          · rw [if_pos q, q, rA_at]
          · rw [if_neg q, rA_nk q]
            exact (a6 108 l).trans (congrFun (rA_ne (by decide) : (sA M4 106 (cN C) (zi w)).2.2.1 108 = M4.2.2.1 108) l)
        have aW : ∀ l, mA (sA (sA M6 108 (cN C) (zi x)) 102 0 (zi ((cN C + 1 : Nat)))) 106 l = if l = cN C then zi w else mA M4 106 l := fun l => by
          have r1 : mA (sA (sA M6 108 (cN C) (zi x)) 102 0 (zi ((cN C + 1 : Nat)))) 106 l = mA (sA M4 106 (cN C) (zi w)) 106 l := (congrFun ((rA_ne (by decide)).trans (rA_ne (by decide)) : (sA (sA M6 108 (cN C) (zi x)) 102 0 (zi ((cN C + 1 : Nat)))).2.2.1 106 = M6.2.2.1 106) l).trans (a6 106 l)
          rw [r1]
          show (sA M4 106 (cN C) (zi w)).2.2.1 106 l = _
          by_cases q : l = cN C
          · rw [if_pos q, q, rA_at]
          · rw [if_neg q, rA_nk q]
        have hnew : ∀ l, l < cN C + 1 → mA (sA (sA M6 108 (cN C) (zi x)) 102 0 (zi ((cN C + 1 : Nat)))) 106 l = zi ((if l = cN C then w else cW C l : Nat)) ∧ mA (sA (sA M6 108 (cN C) (zi x)) 102 0 (zi ((cN C + 1 : Nat)))) 108 l = zi ((if l = cN C then x else cD C l : Nat)) := fun l hl => by
          rw [aD l, aW l]
          by_cases q : l = cN C
          · rw [if_pos q, if_pos q, if_pos q, if_pos q]; exact ⟨rfl, rfl⟩
          · rw [if_neg q, if_neg q, if_neg q, if_neg q]; exact h2 l (by omega)
        refine Or.inl ⟨rfl, t6.kp (fun k _ _ => rfl) ((rA_ne (by decide)).trans (rA_ne (by decide)) : (sA (sA M6 108 (cN C) (zi x)) 102 0 (zi ((cN C + 1 : Nat)))).2.2.1 100 = M6.2.2.1 100), ⟨⟨rA_at, (aN 1 (by decide)).trans h1.2.1, (aN 2 (by decide)).trans h1.2.2.1, (aN 3 (by decide)).trans h1.2.2.2⟩, hnew, fun l hl => ⟨(al 110 l (by decide) (by decide) (by decide)).trans (h3 l hl).1, (al 112 l (by decide) (by decide) (by decide)).trans (h3 l hl).2⟩, fun i hi => (al 104 i (by decide) (by decide) (by decide)).trans (h4 i hi), fun h' l a1 a2 => (g6 114 h' l).trans (h5 h' l a1 a2)⟩, ?_⟩
        exact (k6.1 99 7 (by decide)).trans ((k4.1 99 7 (by decide)).trans hcl)
      obtain ⟨M9, s1, s2, s3⟩ := semi_m hst
      rw [s1, cV_s]
      exact ⟨M9, rfl, (((k4.samM.tr (SamM.a 106 _ _ (by decide))).tr k6.samM).tr ((SamM.a 108 _ _ (by decide)).tr (SamM.a 102 _ _ (by decide)))).tr s2, s3⟩
    · have e7 : ∀ x, mA (sA M6 108 (cN C) x) 102 0 = zi (cN C) := fun x => (congrFun (rA_ne (by decide) : (sA M6 108 (cN C) x).2.2.1 102 = M6.2.2.1 102) 0).trans ((congrArg (fun m => m.2.1 102 0) k6.2).trans (e2 _))
      have t7 : ∀ x y, TM b (sA (sA M6 108 (cN C) x) 102 0 y) n (nE b n (nE b n p)) (nFl b n (nE b n p) 0 ((w : Int) - 1)) ((sb b n (nE b n p) : Nat) : Int) := fun x y => t6.kp (fun k _ _ => rfl) ((rA_ne (by decide)).trans (rA_ne (by decide)) : (sA (sA M6 108 (cN C) x) 102 0 y).2.2.1 100 = M6.2.2.1 100)
      rw [show (0 : Int32).toNatClampNeg = 0 from by decide, hN, zi_natN (by omega), e2, zi_natN (by omega), e3, show (1 : Int32) = zi 1 from rfl, zi_sub, if_pos (zi_ixT (by omega) (by omega)), if_pos (by decide), if_pos (by decide), if_pos (zi_ixT (by omega) (by omega)), show (0 : Int32) = zi 0 from rfl, e6, cI_s, if_pos (zi_ixT (by omega) (by omega)), lt_z, if_pos (by decide), if_pos (by decide), signbad_m (t7 _ _) f2, cV_s]
      refine ⟨_, rfl, ((k4.samM.tr (SamM.a 106 _ _ (by decide))).tr k6.samM).tr ((SamM.a 108 _ _ (by decide)).tr (SamM.a 102 _ _ (by decide))), ?_⟩
      rw [ho, nxt_f f2, semi_bad f2]
      exact Or.inr ⟨f2, _, t7 _ _⟩
  · rw [show (2 : Int32) = zi 2 from rfl, show (24 : Int32) = zi 24 from rfl, e1, cI_s]
    exact fin M4 0 k4 _ _ _ t1 f1 (nxt_f f1) rfl
theorem law1_m {b : Nat → Nat} {M : PM} {n p cl : Nat} {C : Cal} {A : Nat → Nat → Nat} (h : TM b M n p 0 (-1)) (hd : DM M C A) (hw : WFD C A) (hcl : mI M 99 7 = zi cl) (hn : oN C < 6) : ∃ M', (cI (F_X11_number_99 M 2 24) fun v M4 => if ixOK (mA M 102 (1 : Int32).toNatClampNeg) 6 = true then if ixOK 1 6 = true then if ixOK 1 6 = true then if ixOK (mA (sA M4 110 (mA M 102 (1 : Int32).toNatClampNeg).toNatClampNeg v) 102 (1 : Int32).toNatClampNeg) 6 = true then cI (F_X11_number_99 (sA M4 110 (mA M 102 (1 : Int32).toNatClampNeg).toNatClampNeg v) 0 ((mA (sA M4 110 (mA M 102 (1 : Int32).toNatClampNeg).toNatClampNeg v) 110 (mA (sA M4 110 (mA M 102 (1 : Int32).toNatClampNeg).toNatClampNeg v) 102 (1 : Int32).toNatClampNeg).toNatClampNeg) - 1)) fun v2 M6 => if ixOK (mA (sA M4 110 (mA M 102 (1 : Int32).toNatClampNeg).toNatClampNeg v) 102 (1 : Int32).toNatClampNeg) 6 = true then lt (sA M6 112 (mA (sA M4 110 (mA M 102 (1 : Int32).toNatClampNeg).toNatClampNeg v) 102 (1 : Int32).toNatClampNeg).toNatClampNeg v2) fun M8 => if ixOK 1 6 = true then if ixOK 1 6 = true then cV (F_X11_sign_99 (sA M8 102 (1 : Int32).toNatClampNeg ((mA M8 102 (1 : Int32).toNatClampNeg) + 1)) 59) fun M9 => some (.inl none, M9) else none else none else none else none else none else none else none) = rV M' ∧ SamM M M' ∧ StM b n M' (semi b n (o1 b n p C A)) cl := by
  have hN : mA M 102 1 = zi (oN C) := hd.1.2.1
  have fin : ∀ (M4 : PM) (w : Int), KR M M4 → ∀ (f g : Int) (p1 : Nat), TM b M4 n p1 f g → f ≠ 0 → o1 b n p C A = oBad C A f (sb b n p) → g = ((sb b n p : Nat) : Int) → ∃ M', (if ixOK (mA M 102 (1 : Int32).toNatClampNeg) 6 = true then if ixOK 1 6 = true then if ixOK 1 6 = true then if ixOK (mA (sA M4 110 (mA M 102 (1 : Int32).toNatClampNeg).toNatClampNeg (zi w)) 102 (1 : Int32).toNatClampNeg) 6 = true then cI (F_X11_number_99 (sA M4 110 (mA M 102 (1 : Int32).toNatClampNeg).toNatClampNeg (zi w)) 0 ((mA (sA M4 110 (mA M 102 (1 : Int32).toNatClampNeg).toNatClampNeg (zi w)) 110 (mA (sA M4 110 (mA M 102 (1 : Int32).toNatClampNeg).toNatClampNeg (zi w)) 102 (1 : Int32).toNatClampNeg).toNatClampNeg) - 1)) fun v2 M6 => if ixOK (mA (sA M4 110 (mA M 102 (1 : Int32).toNatClampNeg).toNatClampNeg (zi w)) 102 (1 : Int32).toNatClampNeg) 6 = true then lt (sA M6 112 (mA (sA M4 110 (mA M 102 (1 : Int32).toNatClampNeg).toNatClampNeg (zi w)) 102 (1 : Int32).toNatClampNeg).toNatClampNeg v2) fun M8 => if ixOK 1 6 = true then if ixOK 1 6 = true then cV (F_X11_sign_99 (sA M8 102 (1 : Int32).toNatClampNeg ((mA M8 102 (1 : Int32).toNatClampNeg) + 1)) 59) fun M9 => some (.inl none, M9) else none else none else none else none else none else none else none) = rV M' ∧ SamM M M' ∧ StM b n M' (semi b n (o1 b n p C A)) cl := fun M4 w k4 f g p1 t4 hf ho hg => by
    have e1 : ∀ x, mA (sA M4 110 (oN C) x) 102 1 = zi (oN C) := fun x => (congrFun (rA_ne (by decide) : (sA M4 110 (oN C) x).2.2.1 102 = M4.2.2.1 102) 1).trans ((congrArg (fun m => m.2.1 102 1) k4.2).trans hN)
    have t5 : TM b (sA M4 110 (oN C) (zi w)) n p1 f g := t4.kp (fun k _ _ => rfl) (rA_ne (by decide))
    have t6 : ∀ x y, TM b (sA (sA (sA M4 110 (oN C) (zi w)) 112 (oN C) x) 102 1 y) n p1 f g := fun x y => t5.kp (fun k _ _ => rfl) ((rA_ne (by decide)).trans (rA_ne (by decide)) : (sA (sA (sA M4 110 (oN C) (zi w)) 112 (oN C) x) 102 1 y).2.2.1 100 = (sA M4 110 (oN C) (zi w)).2.2.1 100)
    rw [show (1 : Int32).toNatClampNeg = 1 from by decide, hN, zi_natN (by omega), e1, zi_natN (by omega), if_pos (zi_ixT (by omega) (by omega)), if_pos (by decide), if_pos (by decide), if_pos (zi_ixT (by omega) (by omega)), numbad_m t5 hf, cI_s, if_pos (zi_ixT (by omega) (by omega)), lt_z, if_pos (by decide), if_pos (by decide), signbad_m (t6 _ _) hf, cV_s]
    refine ⟨_, rfl, k4.samM.tr (((SamM.a 110 _ _ (by decide)).tr (SamM.a 112 _ _ (by decide))).tr (SamM.a 102 _ _ (by decide))), ?_⟩
    rw [ho, semi_bad hf]
    exact Or.inr ⟨hf, p1, by subst hg; exact t6 _ _⟩
  obtain ⟨M4, k4, ⟨f1, e1, t1⟩ | ⟨f1, e1, t1⟩⟩ := num_m (lo := 2) (hi := 24) h (by decide) (by decide)
  · have v1 := nFl_in f1
    rw [show (2 : Int32) = zi 2 from rfl, show (24 : Int32) = zi 24 from rfl, e1, cI_s]
    have ho : o1 b n p C A = nxt b n C A (nE b n p) 0 ((nV b n p : Int) - 1) (fun p2 d => oGood p2 (cal2 C (nV b n p) d) A) := nxt_t f1
    generalize nV b n p = w at *
    have e2 : ∀ x, mA (sA M4 110 (oN C) x) 102 1 = zi (oN C) := fun x => (congrFun (rA_ne (by decide) : (sA M4 110 (oN C) x).2.2.1 102 = M4.2.2.1 102) 1).trans ((congrArg (fun m => m.2.1 102 1) k4.2).trans hN)
    have e3 : ∀ x, mA (sA M4 110 (oN C) x) 110 (oN C) = x := fun x => rA_at
    have t5 : TM b (sA M4 110 (oN C) (zi w)) n (nE b n p) 0 (-1) := t1.kp (fun k _ _ => rfl) (rA_ne (by decide))
    obtain ⟨M6, k6, ⟨f2, e6, t6⟩ | ⟨f2, e6, t6⟩⟩ := num_m (lo := 0) (hi := (w : Int) - 1) t5 (by decide) (by omega)
    · have v2 := nFl_in f2
      have e7 : mA (sA M6 112 (oN C) (zi (nV b n (nE b n p)))) 102 1 = zi (oN C) := (congrFun (rA_ne (by decide) : (sA M6 112 (oN C) (zi (nV b n (nE b n p)))).2.2.1 102 = M6.2.2.1 102) 1).trans ((congrArg (fun m => m.2.1 102 1) k6.2).trans (e2 _))
      rw [show (1 : Int32).toNatClampNeg = 1 from by decide, hN, zi_natN (by omega), e2, zi_natN (by omega), e3, show (1 : Int32) = zi 1 from rfl, zi_sub, if_pos (zi_ixT (by omega) (by omega)), if_pos (by decide), if_pos (by decide), if_pos (zi_ixT (by omega) (by omega)), show (0 : Int32) = zi 0 from rfl, e6, cI_s, if_pos (zi_ixT (by omega) (by omega)), lt_z, if_pos (by decide), if_pos (by decide), e7, zi_add, zc (show (oN C : Int) + 1 = ((oN C + 1 : Nat) : Int) by omega)]
      rw [ho, nxt_t f2]
      generalize nV b n (nE b n p) = x at *
      have hst : StM b n (sA (sA M6 112 (oN C) (zi x)) 102 1 (zi ((oN C + 1 : Nat)))) (oGood (nE b n (nE b n p)) (cal2 C w x) A) cl := by
        have d6 : DM M6 C A → True := fun _ => trivial
        have hd4 : DM M4 C A := hd.e2 k4.2
        obtain ⟨h1, h2, h3, h4, h5⟩ := hd4
        have a6 : ∀ q i, mA M6 q i = mA (sA M4 110 (oN C) (zi w)) q i := fun q i => by rw [mA, mA, k6.2]
        have g6 : ∀ q i j, mG M6 q i j = mG M4 q i j := fun q i j => by rw [mG, mG, k6.2]; rfl
        have al : ∀ q i, q ≠ 102 → q ≠ 112 → q ≠ 110 → mA (sA (sA M6 112 (oN C) (zi x)) 102 1 (zi ((oN C + 1 : Nat)))) q i = mA M4 q i := fun q i q1 q2 q3 => (congrFun ((rA_ne q1).trans (rA_ne q2) : (sA (sA M6 112 (oN C) (zi x)) 102 1 (zi ((oN C + 1 : Nat)))).2.2.1 q = M6.2.2.1 q) i).trans ((a6 q i).trans (congrFun (rA_ne q3 : (sA M4 110 (oN C) (zi w)).2.2.1 q = M4.2.2.1 q) i))
        have aN : ∀ j, j ≠ 1 → mA (sA (sA M6 112 (oN C) (zi x)) 102 1 (zi ((oN C + 1 : Nat)))) 102 j = mA M4 102 j := fun j hj => (rA_nk hj).trans ((congrFun (rA_ne (by decide) : (sA M6 112 (oN C) (zi x)).2.2.1 102 = M6.2.2.1 102) j).trans ((a6 102 j).trans (congrFun (rA_ne (by decide) : (sA M4 110 (oN C) (zi w)).2.2.1 102 = M4.2.2.1 102) j)))
        have aD : ∀ l, mA (sA (sA M6 112 (oN C) (zi x)) 102 1 (zi ((oN C + 1 : Nat)))) 112 l = if l = oN C then zi x else mA M4 112 l := fun l => by
          have r1 : mA (sA (sA M6 112 (oN C) (zi x)) 102 1 (zi ((oN C + 1 : Nat)))) 112 l = (sA M6 112 (oN C) (zi x)).2.2.1 112 l := congrFun (rA_ne (by decide)) l
          rw [r1]
          by_cases q : l = oN C
          · rw [if_pos q, q, rA_at]
          · rw [if_neg q, rA_nk q]
            exact (a6 112 l).trans (congrFun (rA_ne (by decide) : (sA M4 110 (oN C) (zi w)).2.2.1 112 = M4.2.2.1 112) l)
        have aW : ∀ l, mA (sA (sA M6 112 (oN C) (zi x)) 102 1 (zi ((oN C + 1 : Nat)))) 110 l = if l = oN C then zi w else mA M4 110 l := fun l => by
          have r1 : mA (sA (sA M6 112 (oN C) (zi x)) 102 1 (zi ((oN C + 1 : Nat)))) 110 l = mA (sA M4 110 (oN C) (zi w)) 110 l := (congrFun ((rA_ne (by decide)).trans (rA_ne (by decide)) : (sA (sA M6 112 (oN C) (zi x)) 102 1 (zi ((oN C + 1 : Nat)))).2.2.1 110 = M6.2.2.1 110) l).trans (a6 110 l)
          rw [r1]
          show (sA M4 110 (oN C) (zi w)).2.2.1 110 l = _
          by_cases q : l = oN C
          · rw [if_pos q, q, rA_at]
          · rw [if_neg q, rA_nk q]
        have hnew : ∀ l, l < oN C + 1 → mA (sA (sA M6 112 (oN C) (zi x)) 102 1 (zi ((oN C + 1 : Nat)))) 110 l = zi ((if l = oN C then w else oW C l : Nat)) ∧ mA (sA (sA M6 112 (oN C) (zi x)) 102 1 (zi ((oN C + 1 : Nat)))) 112 l = zi ((if l = oN C then x else oD C l : Nat)) := fun l hl => by
          rw [aD l, aW l]
          by_cases q : l = oN C
          · rw [if_pos q, if_pos q, if_pos q, if_pos q]; exact ⟨rfl, rfl⟩
          · rw [if_neg q, if_neg q, if_neg q, if_neg q]; exact h3 l (by omega)
        refine Or.inl ⟨rfl, t6.kp (fun k _ _ => rfl) ((rA_ne (by decide)).trans (rA_ne (by decide)) : (sA (sA M6 112 (oN C) (zi x)) 102 1 (zi ((oN C + 1 : Nat)))).2.2.1 100 = M6.2.2.1 100), ⟨⟨(aN 0 (by decide)).trans h1.1, rA_at, (aN 2 (by decide)).trans h1.2.2.1, (aN 3 (by decide)).trans h1.2.2.2⟩, fun l hl => ⟨(al 106 l (by decide) (by decide) (by decide)).trans (h2 l hl).1, (al 108 l (by decide) (by decide) (by decide)).trans (h2 l hl).2⟩, hnew, fun i hi => (al 104 i (by decide) (by decide) (by decide)).trans (h4 i hi), fun h' l a1 a2 => (g6 114 h' l).trans (h5 h' l a1 a2)⟩, ?_⟩
        exact (k6.1 99 7 (by decide)).trans ((k4.1 99 7 (by decide)).trans hcl)
      obtain ⟨M9, s1, s2, s3⟩ := semi_m hst
      rw [s1, cV_s]
      exact ⟨M9, rfl, (((k4.samM.tr (SamM.a 110 _ _ (by decide))).tr k6.samM).tr ((SamM.a 112 _ _ (by decide)).tr (SamM.a 102 _ _ (by decide)))).tr s2, s3⟩
    · have e7 : ∀ x, mA (sA M6 112 (oN C) x) 102 1 = zi (oN C) := fun x => (congrFun (rA_ne (by decide) : (sA M6 112 (oN C) x).2.2.1 102 = M6.2.2.1 102) 1).trans ((congrArg (fun m => m.2.1 102 1) k6.2).trans (e2 _))
      have t7 : ∀ x y, TM b (sA (sA M6 112 (oN C) x) 102 1 y) n (nE b n (nE b n p)) (nFl b n (nE b n p) 0 ((w : Int) - 1)) ((sb b n (nE b n p) : Nat) : Int) := fun x y => t6.kp (fun k _ _ => rfl) ((rA_ne (by decide)).trans (rA_ne (by decide)) : (sA (sA M6 112 (oN C) x) 102 1 y).2.2.1 100 = M6.2.2.1 100)
      rw [show (1 : Int32).toNatClampNeg = 1 from by decide, hN, zi_natN (by omega), e2, zi_natN (by omega), e3, show (1 : Int32) = zi 1 from rfl, zi_sub, if_pos (zi_ixT (by omega) (by omega)), if_pos (by decide), if_pos (by decide), if_pos (zi_ixT (by omega) (by omega)), show (0 : Int32) = zi 0 from rfl, e6, cI_s, if_pos (zi_ixT (by omega) (by omega)), lt_z, if_pos (by decide), if_pos (by decide), signbad_m (t7 _ _) f2, cV_s]
      refine ⟨_, rfl, ((k4.samM.tr (SamM.a 110 _ _ (by decide))).tr k6.samM).tr ((SamM.a 112 _ _ (by decide)).tr (SamM.a 102 _ _ (by decide))), ?_⟩
      rw [ho, nxt_f f2, semi_bad f2]
      exact Or.inr ⟨f2, _, t7 _ _⟩
  · rw [show (2 : Int32) = zi 2 from rfl, show (24 : Int32) = zi 24 from rfl, e1, cI_s]
    exact fin M4 0 k4 _ _ _ t1 f1 (nxt_f f1) rfl
