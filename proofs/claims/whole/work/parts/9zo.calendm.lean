/-! calendar: the reference takes the draft over -/
def KE (S : List Nat) (M M' : PM) : Prop := M'.1 = M.1 ∧ (∀ q, q ∉ S → M'.2.2.1 q = M.2.2.1 q) ∧ M'.2.2.2.1 = M.2.2.2.1 ∧ M'.2.2.2.2 = M.2.2.2.2
theorem KE.rf {S : List Nat} {M : PM} : KE S M M := ⟨rfl, fun _ _ => rfl, rfl, rfl⟩
theorem KE.tr {S : List Nat} {M M1 M2 : PM} (h : KE S M M1) (g : KE S M1 M2) : KE S M M2 := ⟨g.1.trans h.1, fun q hq => (g.2.1 q hq).trans (h.2.1 q hq), g.2.2.1.trans h.2.2.1, g.2.2.2.trans h.2.2.2⟩
theorem KE.a {S : List Nat} {M : PM} {q k : Nat} {x : Int32} (h : q ∈ S) : KE S M (sA M q k x) := ⟨rfl, fun p hp => rA_ne (fun e => hp (e ▸ h)), rfl, rfl⟩
theorem KE.mA {S : List Nat} {M M' : PM} (h : KE S M M') {q i : Nat} (hq : q ∉ S) : mA M' q i = mA M q i := congrFun (h.2.1 q hq) i
theorem m243 {M : PM} : ∃ M1, F_X11_calendar_99_243 FUEL M 0 = F_X11_calendar_99_269 FUEL M1 0 ∧ KE [103] M M1 ∧ ∀ j, j < 6 → mA M1 103 j = mA M 102 j := by
  refine loopS (σ := PM × Nat) (fun f q => F_X11_calendar_99_243 f q.1 (zi (q.2 : Nat))) (fun o => ∃ M1, o = F_X11_calendar_99_269 FUEL M1 0 ∧ KE [103] M M1 ∧ ∀ j, j < 6 → mA M1 103 j = mA M 102 j) (fun r q => r = 6 - q.2 ∧ q.2 ≤ 6 ∧ KE [103] M q.1 ∧ ∀ j, j < q.2 → mA q.1 103 j = mA M 102 j) ?_ 6 (M, 0) FUEL ⟨rfl, Nat.zero_le _, KE.rf, fun j hj => absurd hj (Nat.not_lt_zero j)⟩ (FUEL_gt (by omega))
  rintro f r ⟨M1, i⟩ ⟨i1, i2, i3, i4⟩
  simp only at i1 i2 i3 i4
  show (∃ M2, F_X11_calendar_99_243 (f + 1) M1 (zi (i : Nat)) = _ ∧ _) ∨ _
  rw [F_X11_calendar_99_243]
  by_cases q : i = 6
  · left
    exact ⟨M1, by rw [if_pos (by rw [q]; decide)], i3, q ▸ i4⟩
  · right
    refine ⟨6 - (i + 1), (sA M1 103 i (mA M1 102 i), i + 1), by omega, ⟨rfl, by show i + 1 ≤ 6; omega, i3.tr (KE.a (by decide)), fun j hj => ?_⟩, ?_⟩
    · have hj' : j < i + 1 := hj
      by_cases q2 : j = i
      · rw [q2]
        exact (rA_at : (sA M1 103 i (mA M1 102 i)).2.2.1 103 i = _).trans (i3.mA (by decide))
      · exact (rA_nk q2).trans (i4 j (by omega))
    · rw [if_neg (by rw [show (6 : Int32) = zi 6 from rfl, zi_le (by omega) (by omega)]; omega), if_pos (zi_ixT (by omega) (by omega)), if_pos (zi_ixT (by omega) (by omega)), zi_natN (by omega), show (1 : Int32) = zi 1 from rfl, zi_add, lt_z, zc (show (i : Int) + 1 = ((i + 1 : Nat) : Int) by omega)]
theorem m269 {M : PM} {m : Nat} (hm : mA M 103 0 = zi m) (hm2 : m ≤ 12) : ∃ M1, F_X11_calendar_99_269 FUEL M 0 = F_X11_calendar_99_311 FUEL M1 0 ∧ KE [107, 109] M M1 ∧ ∀ j, j < m → mA M1 107 j = mA M 106 j ∧ mA M1 109 j = mA M 108 j := by
  refine loopS (σ := PM × Nat) (fun f q => F_X11_calendar_99_269 f q.1 (zi (q.2 : Nat))) (fun o => ∃ M1, o = F_X11_calendar_99_311 FUEL M1 0 ∧ KE [107, 109] M M1 ∧ ∀ j, j < m → mA M1 107 j = mA M 106 j ∧ mA M1 109 j = mA M 108 j) (fun r q => r = m - q.2 ∧ q.2 ≤ m ∧ KE [107, 109] M q.1 ∧ ∀ j, j < q.2 → mA q.1 107 j = mA M 106 j ∧ mA q.1 109 j = mA M 108 j) ?_ m (M, 0) FUEL ⟨rfl, Nat.zero_le _, KE.rf, fun j hj => absurd hj (Nat.not_lt_zero j)⟩ (FUEL_gt (by omega))
  rintro f r ⟨M1, i⟩ ⟨i1, i2, i3, i4⟩
  simp only at i1 i2 i3 i4
  show (∃ M2, F_X11_calendar_99_269 (f + 1) M1 (zi (i : Nat)) = _ ∧ _) ∨ _
  rw [F_X11_calendar_99_269, show (0 : Int32).toNatClampNeg = 0 from by decide, i3.mA (by decide), hm, if_pos (by decide)]
  by_cases q : i = m
  · left
    exact ⟨M1, by rw [if_pos (by rw [zi_le (by omega) (by omega)]; omega)], i3, q ▸ i4⟩
  · right
    have e1 : mA (sA M1 107 i (mA M1 106 i)) 108 i = mA M1 108 i := congrFun (rA_ne (by decide) : (sA M1 107 i (mA M1 106 i)).2.2.1 108 = M1.2.2.1 108) i
    refine ⟨m - (i + 1), (sA (sA M1 107 i (mA M1 106 i)) 109 i (mA M1 108 i), i + 1), by omega, ⟨rfl, by show i + 1 ≤ m; omega, i3.tr ((KE.a (by decide)).tr (KE.a (by decide))), fun j hj => ?_⟩, ?_⟩
    · have hj' : j < i + 1 := hj
      have r1 : mA (sA (sA M1 107 i (mA M1 106 i)) 109 i (mA M1 108 i)) 107 j = (sA M1 107 i (mA M1 106 i)).2.2.1 107 j := congrFun (rA_ne (by decide)) j
      rw [r1]
      show _ ∧ (sA (sA M1 107 i (mA M1 106 i)) 109 i (mA M1 108 i)).2.2.1 109 j = _
      by_cases q2 : j = i
      · rw [q2, rA_at, rA_at]
        exact ⟨i3.mA (by decide), i3.mA (by decide)⟩
      · rw [rA_nk q2, rA_nk q2]
        exact ⟨(i4 j (by omega)).1, (congrFun (rA_ne (by decide) : (sA M1 107 i (mA M1 106 i)).2.2.1 109 = M1.2.2.1 109) j).trans (i4 j (by omega)).2⟩
    · rw [if_neg (by rw [zi_le (by omega) (by omega)]; omega), if_pos (zi_ixT (by omega) (by omega)), if_pos (zi_ixT (by omega) (by omega)), if_pos (zi_ixT (by omega) (by omega)), if_pos (zi_ixT (by omega) (by omega)), zi_natN (by omega), e1, lt_z, show (1 : Int32) = zi 1 from rfl, zi_add, lt_z, zc (show (i : Int) + 1 = ((i + 1 : Nat) : Int) by omega)]
theorem m311 {M : PM} {m : Nat} (hm : mA M 103 1 = zi m) (hm2 : m ≤ 6) : ∃ M1, F_X11_calendar_99_311 FUEL M 0 = F_X11_calendar_99_353 FUEL M1 0 ∧ KE [111, 113] M M1 ∧ ∀ j, j < m → mA M1 111 j = mA M 110 j ∧ mA M1 113 j = mA M 112 j := by
  refine loopS (σ := PM × Nat) (fun f q => F_X11_calendar_99_311 f q.1 (zi (q.2 : Nat))) (fun o => ∃ M1, o = F_X11_calendar_99_353 FUEL M1 0 ∧ KE [111, 113] M M1 ∧ ∀ j, j < m → mA M1 111 j = mA M 110 j ∧ mA M1 113 j = mA M 112 j) (fun r q => r = m - q.2 ∧ q.2 ≤ m ∧ KE [111, 113] M q.1 ∧ ∀ j, j < q.2 → mA q.1 111 j = mA M 110 j ∧ mA q.1 113 j = mA M 112 j) ?_ m (M, 0) FUEL ⟨rfl, Nat.zero_le _, KE.rf, fun j hj => absurd hj (Nat.not_lt_zero j)⟩ (FUEL_gt (by omega))
  rintro f r ⟨M1, i⟩ ⟨i1, i2, i3, i4⟩
  simp only at i1 i2 i3 i4
  show (∃ M2, F_X11_calendar_99_311 (f + 1) M1 (zi (i : Nat)) = _ ∧ _) ∨ _
  rw [F_X11_calendar_99_311, show (1 : Int32).toNatClampNeg = 1 from by decide, i3.mA (by decide), hm, if_pos (by decide)]
  by_cases q : i = m
  · left
    exact ⟨M1, by rw [if_pos (by rw [zi_le (by omega) (by omega)]; omega)], i3, q ▸ i4⟩
  · right
    have e1 : mA (sA M1 111 i (mA M1 110 i)) 112 i = mA M1 112 i := congrFun (rA_ne (by decide) : (sA M1 111 i (mA M1 110 i)).2.2.1 112 = M1.2.2.1 112) i
    refine ⟨m - (i + 1), (sA (sA M1 111 i (mA M1 110 i)) 113 i (mA M1 112 i), i + 1), by omega, ⟨rfl, by show i + 1 ≤ m; omega, i3.tr ((KE.a (by decide)).tr (KE.a (by decide))), fun j hj => ?_⟩, ?_⟩
    · have hj' : j < i + 1 := hj
      have r1 : mA (sA (sA M1 111 i (mA M1 110 i)) 113 i (mA M1 112 i)) 111 j = (sA M1 111 i (mA M1 110 i)).2.2.1 111 j := congrFun (rA_ne (by decide)) j
      rw [r1]
      show _ ∧ (sA (sA M1 111 i (mA M1 110 i)) 113 i (mA M1 112 i)).2.2.1 113 j = _
      by_cases q2 : j = i
      · rw [q2, rA_at, rA_at]
        exact ⟨i3.mA (by decide), i3.mA (by decide)⟩
      · rw [rA_nk q2, rA_nk q2]
        exact ⟨(i4 j (by omega)).1, (congrFun (rA_ne (by decide) : (sA M1 111 i (mA M1 110 i)).2.2.1 113 = M1.2.2.1 113) j).trans (i4 j (by omega)).2⟩
    · rw [if_neg (by rw [zi_le (by omega) (by omega)]; omega), if_pos (zi_ixT (by omega) (by omega)), if_pos (zi_ixT (by omega) (by omega)), if_pos (zi_ixT (by omega) (by omega)), if_pos (zi_ixT (by omega) (by omega)), zi_natN (by omega), e1, lt_z, show (1 : Int32) = zi 1 from rfl, zi_add, lt_z, zc (show (i : Int) + 1 = ((i + 1 : Nat) : Int) by omega)]
def KG (M M' : PM) : Prop := M'.1 = M.1 ∧ M'.2.2.1 = M.2.2.1 ∧ M'.2.2.2.1 = M.2.2.2.1 ∧ ∀ i j, mG M' 114 i j = mG M 114 i j
theorem KG.tr {M M1 M2 : PM} (h : KG M M1) (g : KG M1 M2) : KG M M2 := ⟨g.1.trans h.1, g.2.1.trans h.2.1, g.2.2.1.trans h.2.2.1, fun i j => (g.2.2.2 i j).trans (h.2.2.2 i j)⟩
theorem KG.rf {M : PM} : KG M M := ⟨rfl, rfl, rfl, fun _ _ => rfl⟩
theorem KG.g {M : PM} {i k : Nat} {x : Int32} : KG M (sG M 115 i k x) := ⟨rfl, rfl, rfl, fun a b => congrFun (rG_ne (by decide) : (sG M 115 i k x).2.2.2.2 114 a = M.2.2.2.2 114 a) b⟩
theorem m365 {M : PM} {h : Nat} {k : PM → Int32 → Option PR} (hh : h < 10) : ∃ M1, F_X11_calendar_99_365 k FUEL M (zi h) 0 = k M1 (zi ((h + 1 : Nat))) ∧ KG M M1 ∧ (∀ i j, i ≠ h → mG M1 115 i j = mG M 115 i j) ∧ ∀ l, l < 12 → mG M1 115 h l = mG M 114 h l := by
  refine loopS (σ := PM × Nat) (fun f q => F_X11_calendar_99_365 k f q.1 (zi h) (zi (q.2 : Nat))) (fun o => ∃ M1, o = k M1 (zi ((h + 1 : Nat))) ∧ KG M M1 ∧ (∀ i j, i ≠ h → mG M1 115 i j = mG M 115 i j) ∧ ∀ l, l < 12 → mG M1 115 h l = mG M 114 h l) (fun r q => r = 12 - q.2 ∧ q.2 ≤ 12 ∧ KG M q.1 ∧ (∀ i j, i ≠ h → mG q.1 115 i j = mG M 115 i j) ∧ ∀ l, l < q.2 → mG q.1 115 h l = mG M 114 h l) ?_ 12 (M, 0) FUEL ⟨rfl, Nat.zero_le _, KG.rf, fun _ _ _ => rfl, fun j hj => absurd hj (Nat.not_lt_zero j)⟩ (FUEL_gt (by omega))
  rintro f r ⟨M1, l⟩ ⟨i1, i2, i3, i4, i5⟩
  simp only at i1 i2 i3 i4 i5
  show (∃ M2, F_X11_calendar_99_365 k (f + 1) M1 (zi h) (zi (l : Nat)) = _ ∧ _) ∨ _
  rw [F_X11_calendar_99_365]
  by_cases q : l = 12
  · left
    refine ⟨M1, ?_, i3, i4, q ▸ i5⟩
    rw [if_pos (by rw [q]; decide), show (1 : Int32) = zi 1 from rfl, zi_add, lt_z, zc (show (h : Int) + 1 = ((h + 1 : Nat) : Int) by omega)]
  · right
    refine ⟨12 - (l + 1), (sG M1 115 h l (mG M1 114 h l), l + 1), by omega, ⟨rfl, by show l + 1 ≤ 12; omega, i3.tr KG.g, fun i j hi => ?_, fun t ht => ?_⟩, ?_⟩
    · exact (congrFun (rG_nr hi : (sG M1 115 h l (mG M1 114 h l)).2.2.2.2 115 i = M1.2.2.2.2 115 i) j).trans (i4 i j hi)
    · have ht' : t < l + 1 := ht
      show (sG M1 115 h l (mG M1 114 h l)).2.2.2.2 115 h t = _
      by_cases q2 : t = l
      · rw [q2, rG_at]; exact i3.2.2.2 h l
      · rw [rG_nk q2]; exact i5 t (by omega)
    · rw [if_neg (by rw [show (12 : Int32) = zi 12 from rfl, zi_le (by omega) (by omega)]; omega), if_pos (zi_ixT (by omega) (by omega)), if_pos (zi_ixT (by omega) (by omega)), if_pos ⟨by rw [zi_natN (by omega)]; omega, zi_ixT (by omega) (by omega)⟩, if_pos ⟨by rw [zi_natN (by omega)]; omega, zi_ixT (by omega) (by omega)⟩, zi_natN (by omega), zi_natN (by omega), show (1 : Int32) = zi 1 from rfl, zi_add, lt_z, zc (show (l : Int) + 1 = ((l + 1 : Nat) : Int) by omega)]
theorem m353 {M : PM} {m : Nat} (hm : mA M 103 2 = zi m) (hm2 : m ≤ 10) : ∃ M1, F_X11_calendar_99_353 FUEL M 0 = F_X11_calendar_99_401 FUEL M1 0 ∧ KG M M1 ∧ ∀ h l, h < m → l < 12 → mG M1 115 h l = mG M 114 h l := by
  refine loopS (σ := PM × Nat) (fun f q => F_X11_calendar_99_353 f q.1 (zi (q.2 : Nat))) (fun o => ∃ M1, o = F_X11_calendar_99_401 FUEL M1 0 ∧ KG M M1 ∧ ∀ h l, h < m → l < 12 → mG M1 115 h l = mG M 114 h l) (fun r q => r = m - q.2 ∧ q.2 ≤ m ∧ KG M q.1 ∧ ∀ h l, h < q.2 → l < 12 → mG q.1 115 h l = mG M 114 h l) ?_ m (M, 0) FUEL ⟨rfl, Nat.zero_le _, KG.rf, fun j l hj => absurd hj (Nat.not_lt_zero j)⟩ (FUEL_gt (by omega))
  rintro f r ⟨M1, i⟩ ⟨i1, i2, i3, i4⟩
  simp only at i1 i2 i3 i4
  show (∃ M2, F_X11_calendar_99_353 (f + 1) M1 (zi (i : Nat)) = _ ∧ _) ∨ _
  have eH : mA M1 103 2 = zi m := by rw [mA, i3.2.1]; exact hm
  rw [F_X11_calendar_99_353, show (2 : Int32).toNatClampNeg = 2 from by decide, eH, if_pos (by decide)]
  by_cases q : i = m
  · left
    exact ⟨M1, by rw [if_pos (by rw [zi_le (by omega) (by omega)]; omega)], i3, q ▸ i4⟩
  · right
    obtain ⟨M2, a1, a2, a3, a4⟩ := m365 (M := M1) (h := i) (k := F_X11_calendar_99_353 f) (by omega)
    refine ⟨m - (i + 1), (M2, i + 1), by omega, ⟨rfl, by show i + 1 ≤ m; omega, i3.tr a2, fun h l h1 h2 => ?_⟩, ?_⟩
    · have h1' : h < i + 1 := h1
      by_cases q2 : h = i
      · rw [q2, a4 l h2]; exact i3.2.2.2 i l
      · rw [a3 h l q2]; exact i4 h l (by omega) h2
    · rw [if_neg (by rw [zi_le (by omega) (by omega)]; omega), a1]
theorem m401 {M : PM} {m : Nat} (hm : mA M 103 3 = zi m) (hm2 : m ≤ 3) : ∃ M1, F_X11_calendar_99_401 FUEL M 0 = rI (mA M 103 0) (sI (sI (sI (sI (sI (sI M1 99 24 0) 99 27 (mA M 103 5)) 99 32 0) 99 33 0) 99 34 0) 99 35 0) ∧ KE [105] M M1 ∧ ∀ j, j < m → mA M1 105 j = mA M 104 j := by
  refine loopS (σ := PM × Nat) (fun f q => F_X11_calendar_99_401 f q.1 (zi (q.2 : Nat))) (fun o => ∃ M1, o = rI (mA M 103 0) (sI (sI (sI (sI (sI (sI M1 99 24 0) 99 27 (mA M 103 5)) 99 32 0) 99 33 0) 99 34 0) 99 35 0) ∧ KE [105] M M1 ∧ ∀ j, j < m → mA M1 105 j = mA M 104 j) (fun r q => r = m - q.2 ∧ q.2 ≤ m ∧ KE [105] M q.1 ∧ ∀ j, j < q.2 → mA q.1 105 j = mA M 104 j) ?_ m (M, 0) FUEL ⟨rfl, Nat.zero_le _, KE.rf, fun j hj => absurd hj (Nat.not_lt_zero j)⟩ (FUEL_gt (by omega))
  rintro f r ⟨M1, i⟩ ⟨i1, i2, i3, i4⟩
  simp only at i1 i2 i3 i4
  show (∃ M2, F_X11_calendar_99_401 (f + 1) M1 (zi (i : Nat)) = _ ∧ _) ∨ _
  rw [F_X11_calendar_99_401, show (3 : Int32).toNatClampNeg = 3 from by decide, i3.mA (by decide), hm, if_pos (by decide)]
  by_cases q : i = m
  · left
    refine ⟨M1, ?_, i3, q ▸ i4⟩
    rw [if_pos (by rw [zi_le (by omega) (by omega)]; omega), if_pos (by decide), if_pos (by decide), show (5 : Int32).toNatClampNeg = 5 from by decide, show (0 : Int32).toNatClampNeg = 0 from by decide]
    have e5 : mA (sI M1 99 24 0) 103 5 = mA M 103 5 := i3.mA (by decide)
    have e0 : ∀ x, mA (sI (sI (sI (sI (sI (sI M1 99 24 0) 99 27 x) 99 32 0) 99 33 0) 99 34 0) 99 35 0) 103 0 = mA M 103 0 := fun x => i3.mA (by decide)
    rw [e5, e0]
  · right
    refine ⟨m - (i + 1), (sA M1 105 i (mA M1 104 i), i + 1), by omega, ⟨rfl, by show i + 1 ≤ m; omega, i3.tr (KE.a (by decide)), fun j hj => ?_⟩, ?_⟩
    · have hj' : j < i + 1 := hj
      show (sA M1 105 i (mA M1 104 i)).2.2.1 105 j = _
      by_cases q2 : j = i
      · rw [q2, rA_at]; exact i3.mA (by decide)
      · rw [rA_nk q2]; exact i4 j (by omega)
    · rw [if_neg (by rw [zi_le (by omega) (by omega)]; omega), if_pos (zi_ixT (by omega) (by omega)), if_pos (zi_ixT (by omega) (by omega)), zi_natN (by omega), show (1 : Int32) = zi 1 from rfl, zi_add, lt_z, zc (show (i : Int) + 1 = ((i + 1 : Nat) : Int) by omega)]
theorem KE.ky {S : List Nat} {M M' : PM} (h : KE S M M') (hS : ∀ q, q ∈ S → 102 ≤ q) : KY M M' := ⟨fun q k _ => by rw [h.1], fun q hq => h.2.1 q (fun e => by have := hS q e; omega), h.2.2.1, fun k _ => by rw [h.1], h.2.1 101 (fun e => by have := hS 101 e; omega)⟩
theorem calM_s {M : PM} {C : Cal} {A : Nat → Nat → Nat} (hd : DM M C A) (hw : WFD C A) (h4 : mA M 102 4 = zi (t4 C)) (h5 : mA M 102 5 = zi (t5 C)) : ∃ M', F_X11_calendar_99_243 FUEL M 0 = rI (zi (cN C)) M' ∧ KY M M' ∧ CalM M' C ∧ StaM M' C (S00 A) ∧ WisM M' C W00 ∧ mI M' 99 35 = zi 0 := by
  have hn := hw.1
  obtain ⟨M1, a1, a2, a3⟩ := m243 (M := M)
  have n0 : mA M1 103 0 = zi (cN C) := (a3 0 (by decide)).trans hd.1.1
  obtain ⟨M2, b1, b2, b3⟩ := m269 (M := M1) n0 (by omega)
  have n1 : mA M2 103 1 = zi (oN C) := (b2.mA (by decide)).trans ((a3 1 (by decide)).trans hd.1.2.1)
  obtain ⟨M3, c1, c2, c3⟩ := m311 (M := M2) n1 (by omega)
  have n2 : mA M3 103 2 = zi (cH C) := (c2.mA (by decide)).trans ((b2.mA (by decide)).trans ((a3 2 (by decide)).trans hd.1.2.2.1))
  obtain ⟨M4, d1, d2, d3⟩ := m353 (M := M3) n2 (by omega)
  have e34 : ∀ q i, mA M4 q i = mA M3 q i := fun q i => by rw [mA, mA, d2.2.1]
  have t3 : ∀ j, mA M4 103 j = mA M1 103 j := fun j => (e34 103 j).trans ((c2.mA (by decide)).trans (b2.mA (by decide)))
  have n3 : mA M4 103 3 = zi (cK C) := (t3 3).trans ((a3 3 (by decide)).trans hd.1.2.2.2)
  obtain ⟨M5, e1, e2, e3⟩ := m401 (M := M4) n3 (by omega)
  rw [a1, b1, c1, d1, e1, show mA M4 103 0 = zi (cN C) from (t3 0).trans n0, show mA M4 103 5 = zi (t5 C) from (t3 5).trans ((a3 5 (by decide)).trans h5)]
  have ky : KY M M5 := ((((a2.ky (by decide)).tr (b2.ky (by decide))).tr (c2.ky (by decide))).tr ⟨fun q k _ => by rw [d2.1], fun q _ => by rw [d2.2.1], d2.2.2.1, fun k _ => by rw [d2.1], by rw [d2.2.1]⟩).tr (e2.ky (by decide))
  have ky2 : KY M (sI (sI (sI (sI (sI (sI M5 99 24 0) 99 27 (zi (t5 C))) 99 32 0) 99 33 0) 99 34 0) 99 35 0) := ky.tr ((((((KY.i (by decide)).tr (KY.i (by decide))).tr (KY.i (by decide))).tr (KY.i (by decide))).tr (KY.i (by decide))).tr (KY.i (by decide)))
  have f103 : ∀ j, j < 6 → mA M5 103 j = mA M 102 j := fun j hj => (e2.mA (by decide)).trans ((t3 j).trans (a3 j hj))
  refine ⟨_, rfl, ky2, ⟨⟨(f103 0 (by decide)).trans hd.1.1, (f103 1 (by decide)).trans hd.1.2.1, (f103 2 (by decide)).trans hd.1.2.2.1, (f103 3 (by decide)).trans hd.1.2.2.2, (f103 4 (by decide)).trans h4, (f103 5 (by decide)).trans h5⟩, fun l hl => ?_, fun l hl => ?_, fun l hl => ?_, fun l hl => ?_, fun i hi => ?_⟩, ⟨fun h l h1 h2 => ?_, ⟨rfl, rfl, rfl⟩, fun i hi => absurd hi (Nat.not_lt_zero i), fun i hi => absurd hi (Nat.not_lt_zero i), fun i hi => absurd hi (Nat.not_lt_zero i)⟩, ⟨rfl, rfl, fun i hi => absurd hi (Nat.not_lt_zero i)⟩, rfl⟩
  · show mA M5 107 l = _
    exact (e2.mA (by decide)).trans ((e34 107 l).trans ((c2.mA (by decide)).trans ((b3 l hl).1.trans ((a2.mA (by decide)).trans (hd.2.1 l hl).1))))
  · show mA M5 109 l = _
    exact (e2.mA (by decide)).trans ((e34 109 l).trans ((c2.mA (by decide)).trans ((b3 l hl).2.trans ((a2.mA (by decide)).trans (hd.2.1 l hl).2))))
  · show mA M5 111 l = _
    exact (e2.mA (by decide)).trans ((e34 111 l).trans ((c3 l hl).1.trans ((b2.mA (by decide)).trans ((a2.mA (by decide)).trans (hd.2.2.1 l hl).1))))
  · show mA M5 113 l = _
    exact (e2.mA (by decide)).trans ((e34 113 l).trans ((c3 l hl).2.trans ((b2.mA (by decide)).trans ((a2.mA (by decide)).trans (hd.2.2.1 l hl).2))))
  · show mA M5 105 i = _
    exact (e3 i hi).trans ((e34 104 i).trans ((c2.mA (by decide)).trans ((b2.mA (by decide)).trans ((a2.mA (by decide)).trans (hd.2.2.2.1 i hi)))))
  · show mG M5 115 h l = zi (A h l)
    have g5 : mG M5 115 h l = mG M4 115 h l := by rw [mG, mG, e2.2.2.2]
    have g3 : mG M3 114 h l = mG M 114 h l := by rw [mG, mG, c2.2.2.2, b2.2.2.2, a2.2.2.2]
    rw [g5, d3 h l h1 h2, g3]
    exact hd.2.2.2.2 h l h1 h2
