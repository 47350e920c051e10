/-! calendar: what is read -/
def wdB (b : Nat → Nat) (n k q : Nat) : Bool := decide (rn b isLw n q = q + wLn k) && noB (fun i => !decide (b (q + i) = wB k i)) (wLn k)
theorem wdB_s {b : Nat → Nat} {n k q : Nat} : WD b n k q ↔ wdB b n k q = true := by
  unfold WD wdB
  rw [Bool.and_eq_true, decide_eq_true_eq]
  constructor
  · rintro ⟨h1, h2⟩
    exact ⟨h1, noB_t (fun i hi => by rw [decide_eq_true (h2 i hi)]; rfl)⟩
  · rintro ⟨h1, h2⟩
    refine ⟨h1, fun i hi => ?_⟩
    have := fb_ct_zero.mp (of_decide_eq_true h2) i hi
    rw [Bool.not_eq_false', decide_eq_true_eq] at this
    exact this
theorem wd_eq {b : Nat → Nat} {n k q : Nat} {v : Bool} (h : v = true ↔ WD b n k q) : v = wdB b n k q := by
  rw [wdB_s] at h
  cases v <;> cases hw : wdB b n k q
  · rfl
  · exact absurd (h.mpr hw) (by decide)
  · rw [hw] at h
    exact absurd (h.mp rfl) (by decide)
  · rfl
def cal1 (C : Cal) (w d : Nat) : Cal := ((cN C + 1, fun i => if i = cN C then w else cW C i, fun i => if i = cN C then d else cD C i), C.2)
def cal2 (C : Cal) (w d : Nat) : Cal := (C.1, (oN C + 1, fun i => if i = oN C then w else oW C i, fun i => if i = oN C then d else oD C i), C.2.2)
def cal3 (C : Cal) : Cal := (C.1, C.2.1, cH C + 1, C.2.2.2)
def cal4 (C : Cal) (x : Nat) : Cal := (C.1, C.2.1, cH C, cK C + 1, fun i => if i = cK C then x else cS C i)
def slA (A : Nat → Nat → Nat) (h l s : Nat) : Nat → Nat → Nat := fun h' l' => if h' = h ∧ l' = l then s else A h' l'
def WFD (C : Cal) (A : Nat → Nat → Nat) : Prop := (cN C ≤ 12 ∧ oN C ≤ 6 ∧ cH C ≤ 10 ∧ cK C ≤ 3) ∧ (∀ l, l < cN C → (2 ≤ cW C l ∧ cW C l ≤ 24) ∧ cD C l < cW C l) ∧ (∀ l, l < oN C → (2 ≤ oW C l ∧ oW C l ≤ 24) ∧ oD C l < oW C l) ∧ (∀ i, i < cK C → cS C i ≤ 99999) ∧ (∀ i j, i < j → j < cK C → cS C i ≠ cS C j) ∧ (∀ h l, h < cH C → l < cN C → A h l < cW C l) ∧ (∀ h l, l < 12 → cH C ≤ h ∨ cN C ≤ l → A h l = 0)
theorem WFD1 {C : Cal} {A : Nat → Nat → Nat} {w d : Nat} (h : WFD C A) (hn : cN C < 12) (hw : 2 ≤ w ∧ w ≤ 24) (hd : d < w) : WFD (cal1 C w d) A := by
  obtain ⟨h1, h2, h3, h4, h5, h6, h7⟩ := h
  refine ⟨⟨by show cN C + 1 ≤ 12; omega, h1.2⟩, fun l hl => ?_, h3, h4, h5, fun h' l hh hl => ?_, fun h' l hl hq => ?_⟩
  · have hl' : l < cN C + 1 := hl
    show (2 ≤ (if l = cN C then w else cW C l) ∧ (if l = cN C then w else cW C l) ≤ 24) ∧ (if l = cN C then d else cD C l) < (if l = cN C then w else cW C l)
    by_cases q : l = cN C
    · rw [if_pos q, if_pos q]; exact ⟨hw, hd⟩
    · rw [if_neg q, if_neg q]; exact h2 l (by omega)
  · have hl' : l < cN C + 1 := hl
    show A h' l < (if l = cN C then w else cW C l)
    by_cases q : l = cN C
    · rw [if_pos q, h7 h' l (by omega) (Or.inr (by omega))]; omega
    · rw [if_neg q]; exact h6 h' l hh (by omega)
  · have hq' : cH C ≤ h' ∨ cN C + 1 ≤ l := hq
    exact h7 h' l hl (by omega)
theorem WFD2 {C : Cal} {A : Nat → Nat → Nat} {w d : Nat} (h : WFD C A) (hn : oN C < 6) (hw : 2 ≤ w ∧ w ≤ 24) (hd : d < w) : WFD (cal2 C w d) A := by
  obtain ⟨h1, h2, h3, h4, h5, h6, h7⟩ := h
  refine ⟨⟨h1.1, by show oN C + 1 ≤ 6; omega, h1.2.2⟩, h2, fun l hl => ?_, h4, h5, h6, h7⟩
  have hl' : l < oN C + 1 := hl
  show (2 ≤ (if l = oN C then w else oW C l) ∧ (if l = oN C then w else oW C l) ≤ 24) ∧ (if l = oN C then d else oD C l) < (if l = oN C then w else oW C l)
  by_cases q : l = oN C
  · rw [if_pos q, if_pos q]; exact ⟨hw, hd⟩
  · rw [if_neg q, if_neg q]; exact h3 l (by omega)
theorem WFD3 {C : Cal} {A : Nat → Nat → Nat} (h : WFD C A) (hn : cH C < 10) : WFD (cal3 C) A := by
  obtain ⟨h1, h2, h3, h4, h5, h6, h7⟩ := h
  refine ⟨⟨h1.1, h1.2.1, by show cH C + 1 ≤ 10; omega, h1.2.2.2⟩, h2, h3, h4, h5, fun h' l hh hl => ?_, fun h' l hl hq => ?_⟩
  · have hh' : h' < cH C + 1 := hh
    by_cases q : h' = cH C
    · rw [h7 h' l (by have : l < cN C := hl; omega) (Or.inl (by omega))]
      have := h2 l hl
      show 0 < cW C l
      omega
    · exact h6 h' l (by omega) hl
  · have hq' : cH C + 1 ≤ h' ∨ cN C ≤ l := hq
    exact h7 h' l hl (by omega)
theorem WFD4 {C : Cal} {A : Nat → Nat → Nat} {x : Nat} (h : WFD C A) (hn : cK C < 3) (hx : x ≤ 99999) (hno : ∀ i, i < cK C → cS C i ≠ x) : WFD (cal4 C x) A := by
  obtain ⟨h1, h2, h3, h4, h5, h6, h7⟩ := h
  refine ⟨⟨h1.1, h1.2.1, h1.2.2.1, by show cK C + 1 ≤ 3; omega⟩, h2, h3, fun i hi => ?_, fun i j hij hj => ?_, h6, h7⟩
  · have hi' : i < cK C + 1 := hi
    show (if i = cK C then x else cS C i) ≤ 99999
    by_cases q : i = cK C
    · rw [if_pos q]; exact hx
    · rw [if_neg q]; exact h4 i (by omega)
  · have hj' : j < cK C + 1 := hj
    show (if i = cK C then x else cS C i) ≠ (if j = cK C then x else cS C j)
    rw [if_neg (by omega)]
    by_cases q : j = cK C
    · rw [if_pos q]; exact hno i (by omega)
    · rw [if_neg q]; exact h5 i j hij (by omega)
theorem WFDs {C : Cal} {A : Nat → Nat → Nat} {h l s : Nat} (hd : WFD C A) (h1 : h < cH C) (h2 : l < cN C) (h3 : s < cW C l) : WFD C (slA A h l s) := by
  obtain ⟨k1, k2, k3, k4, k5, k6, k7⟩ := hd
  refine ⟨k1, k2, k3, k4, k5, fun h' l' hh hl => ?_, fun h' l' hl hq => ?_⟩
  · show (if h' = h ∧ l' = l then s else A h' l') < cW C l'
    by_cases q : h' = h ∧ l' = l
    · rw [if_pos q, q.2]; exact h3
    · rw [if_neg q]; exact k6 h' l' hh hl
  · show (if h' = h ∧ l' = l then s else A h' l') = 0
    rw [if_neg (by omega)]
    exact k7 h' l' hl hq
/-- the class's draft -/
def DC (M : PM) (C : Cal) (A : Nat → Nat → Nat) : Prop := (mI M 30 4 = zi (cN C) ∧ mI M 35 4 = zi (oN C) ∧ mI M 29 4 = zi (cH C) ∧ mI M 29 5 = zi (cK C)) ∧ (∀ l, l < cN C → mA M 31 l = zi (cW C l) ∧ mA M 32 l = zi (cD C l)) ∧ (∀ l, l < oN C → mA M 36 l = zi (oW C l) ∧ mA M 37 l = zi (oD C l)) ∧ (∀ i, i < cK C → mA M 41 i = zi (cS C i)) ∧ (∀ h l, h < 10 → l < 12 → mA M 40 (h * 12 + l) = zi (A h l))
theorem DC.kt {M M' : PM} {C : Cal} {A : Nat → Nat → Nat} (h : DC M C A) (k : KT M M') : DC M' C A := by
  have ea : ∀ q i, mA M' q i = mA M q i := fun q i => by rw [mA, mA, k.2]
  have ei : ∀ q j, q ≠ 1 → mI M' q j = mI M q j := fun q j hq => k.1 q j (fun e => hq e.1)
  obtain ⟨h1, h2, h3, h4, h5⟩ := h
  exact ⟨⟨(ei 30 4 (by decide)).trans h1.1, (ei 35 4 (by decide)).trans h1.2.1, (ei 29 4 (by decide)).trans h1.2.2.1, (ei 29 5 (by decide)).trans h1.2.2.2⟩, fun l hl => ⟨(ea 31 l).trans (h2 l hl).1, (ea 32 l).trans (h2 l hl).2⟩, fun l hl => ⟨(ea 36 l).trans (h3 l hl).1, (ea 37 l).trans (h3 l hl).2⟩, fun i hi => (ea 41 i).trans (h4 i hi), fun h' l a1 a2 => (ea 40 _).trans (h5 h' l a1 a2)⟩
/-- what comes of reading: fault and place, or place, laws and wheels -/
def Out : Type := Int × Int × Nat × Cal × (Nat → Nat → Nat)
def oBad (C : Cal) (A : Nat → Nat → Nat) (f : Int) (g : Nat) : Out := (f, (g : Int), 0, C, A)
def oGood (p : Nat) (C : Cal) (A : Nat → Nat → Nat) : Out := (0, -1, p, C, A)
def nxt (b : Nat → Nat) (n : Nat) (C : Cal) (A : Nat → Nat → Nat) (p : Nat) (lo hi : Int) (k : Nat → Nat → Out) : Out := if nFl b n p lo hi = 0 then k (nE b n p) (nV b n p) else oBad C A (nFl b n p lo hi) (sb b n p)
def o0 (b : Nat → Nat) (n p : Nat) (C : Cal) (A : Nat → Nat → Nat) : Out := nxt b n C A p 2 24 (fun p1 w => nxt b n C A p1 0 ((w : Int) - 1) (fun p2 d => oGood p2 (cal1 C w d) A))
def o1 (b : Nat → Nat) (n p : Nat) (C : Cal) (A : Nat → Nat → Nat) : Out := nxt b n C A p 2 24 (fun p1 w => nxt b n C A p1 0 ((w : Int) - 1) (fun p2 d => oGood p2 (cal2 C w d) A))
def kno (C : Cal) (x : Nat) : Bool := !noB (fun i => decide (cS C i = x)) (cK C)
def o3 (b : Nat → Nat) (n p : Nat) (C : Cal) (A : Nat → Nat → Nat) : Out := nxt b n C A p 0 99999 (fun p1 x => oGood p1 (if kno C x = true then C else cal4 C x) A)
def o4 (b : Nat → Nat) (n p : Nat) (C : Cal) (A : Nat → Nat → Nat) : Out := nxt b n C A p 0 ((cH C : Int) - 1) (fun p1 h => nxt b n C A p1 0 ((cN C : Int) - 1) (fun p2 l => nxt b n C A p2 0 ((cW C l : Int) - 1) (fun p3 s => oGood p3 C (slA A h l s))))
def semi (b : Nat → Nat) (n : Nat) (o : Out) : Out := if o.1 = 0 then (if sb b n o.2.2.1 < n ∧ b (sb b n o.2.2.1) = 59 then oGood (sb b n o.2.2.1 + 1) o.2.2.2.1 o.2.2.2.2 else oBad o.2.2.2.1 o.2.2.2.2 1 (sb b n o.2.2.1)) else o
def oCl (b : Nat → Nat) (n cl p : Nat) (C : Cal) (A : Nat → Nat → Nat) : Out :=
  if wdB b n 0 (sb b n p) = true then (if cl = 60 ∨ cN C = 12 then oBad C A 3 (sb b n p) else semi b n (o0 b n (sb b n p + wLn 0) C A))
  else if wdB b n 1 (sb b n p) = true then (if cl = 60 ∨ oN C = 6 then oBad C A 3 (sb b n p) else semi b n (o1 b n (sb b n p + wLn 1) C A))
  else if wdB b n 2 (sb b n p) = true then (if cl = 60 ∨ cH C = 10 then oBad C A 3 (sb b n p) else semi b n (oGood (sb b n p + wLn 2) (cal3 C) A))
  else if wdB b n 3 (sb b n p) = true then (if cl = 60 then oBad C A 3 (sb b n p) else semi b n (o4 b n (sb b n p + wLn 3) C A))
  else if wdB b n 4 (sb b n p) = true then (if cl = 60 ∨ cK C = 3 then oBad C A 3 (sb b n p) else semi b n (o3 b n (sb b n p + wLn 4) C A))
  else oBad C A 1 (sb b n p)
/-- the class stands where o says -/
def StC (b : Nat → Nat) (n : Nat) (M : PM) (o : Out) : Prop := (o.1 = 0 ∧ (∃ s, TC b M n o.2.2.1 s 0 (-1)) ∧ DC M o.2.2.2.1 o.2.2.2.2 ∧ WFD o.2.2.2.1 o.2.2.2.2) ∨ (o.1 ≠ 0 ∧ (∃ p s, TC b M n p s o.1 o.2.1) ∧ ∃ C A, DC M C A ∧ WFD C A)
theorem nFl_rng {b : Nat → Nat} {n p : Nat} {lo hi : Int} : nFl b n p lo hi = 0 ∨ nFl b n p lo hi = 1 ∨ nFl b n p lo hi = 2 := by
  unfold nFl
  split
  · exact Or.inr (Or.inl rfl)
  · split
    · exact Or.inl rfl
    · exact Or.inr (Or.inr rfl)
theorem nFl_in {b : Nat → Nat} {n p : Nat} {lo hi : Int} (h : nFl b n p lo hi = 0) : lo ≤ nV b n p ∧ nV b n p ≤ hi := by
  unfold nFl at h
  split at h
  · exact absurd h (by decide)
  · split at h
    · assumption
    · exact absurd h (by decide)
theorem nV_le {b : Nat → Nat} {n p : Nat} : nV b n p ≤ 1000000 := nv_le _
/-- a number is read: what follows in the good case, what in the bad -/
theorem num_c {b : Nat → Nat} {M : PM} {n p s : Nat} {lo hi : Int} {C : Cal} {A : Nat → Nat → Nat} {o : Out} (h : TC b M n p s 0 (-1)) (hd : DC M C A) (hw : WFD C A) (hlo : -2147483648 ≤ lo ∧ lo < 2147483648) (hhi : -2147483648 ≤ hi ∧ hi < 2147483648) : ∃ M', KT M M' ∧ DC M' C A ∧ ((nFl b n p lo hi = 0 ∧ F_X4_takeNumber_1 M (zi lo) (zi hi) = rI (zi (nV b n p)) M' ∧ TC b M' n (nE b n p) (sb b n p) 0 (-1)) ∨ (nFl b n p lo hi ≠ 0 ∧ F_X4_takeNumber_1 M (zi lo) (zi hi) = rI (zi (-1)) M' ∧ StC b n M' (oBad C A (nFl b n p lo hi) (sb b n p)))) := by
  obtain ⟨M1, k, c1 | c1 | c1⟩ := number_c h hlo hhi
  · exact ⟨M1, k, hd.kt k, Or.inl ⟨c1.2.1, c1.2.2.1, c1.2.2.2⟩⟩
  · exact ⟨M1, k, hd.kt k, Or.inr ⟨c1.2.1, c1.2.2.1, Or.inr ⟨c1.2.1, ⟨_, _, c1.2.2.2⟩, C, A, hd.kt k, hw⟩⟩⟩
  · exact absurd rfl c1.1
theorem add30 {M : PM} {C : Cal} {A : Nat → Nat → Nat} {w d : Nat} (hd : DC M C A) (hn : cN C < 12) (hw : 2 ≤ w ∧ w ≤ 24) (hdw : d < w) : ∃ M', F_X2_add_30 M (zi w) (zi d) = rV M' ∧ Sam0 M M' ∧ DC M' (cal1 C w d) A ∧ (∀ k, M'.1 1 k = M.1 1 k) ∧ M'.2.2.1 2 = M.2.2.1 2 := by
  obtain ⟨h1, h2, h3, h4, h5⟩ := hd
  obtain ⟨y, y1, y2⟩ := everyOf_s (M := sA (sA M 31 (cN C) (zi w)) 32 (cN C) (zi d)) (w := w) (by omega)
  unfold F_X2_add_30 F_X2_isFull_30
  have e1 : mI (sA M 31 (cN C) (zi w)) 30 4 = zi (cN C) := h1.1
  have e2 : mI (sA (sA M 31 (cN C) (zi w)) 32 (cN C) (zi d)) 30 4 = zi (cN C) := h1.1
  have e3 : ∀ y, mI (sB (sA (sA M 31 (cN C) (zi w)) 32 (cN C) (zi d)) 33 (cN C) y) 30 4 = zi (cN C) := fun y => h1.1
  rw [h1.1, if_pos (by rw [show (12 : Int32) = zi 12 from rfl, zi_lt (by omega) (by omega)]; omega), if_pos (by decide), cI_s, if_pos (by decide), h1.1, zi_natN (by omega), e1, zi_natN (by omega), e2, if_pos (zi_ixT (by omega) (by omega)), if_pos (zi_ixT (by omega) (by omega)), y1, cJ_s, if_pos (zi_ixT (by omega) (by omega)), zi_natN (by omega), e3, show (1 : Int32) = zi 1 from rfl, zi_add, zc (show (cN C : Int) + 1 = ((cN C + 1 : Nat) : Int) by omega), lt_z]
  refine ⟨_, rfl, (Sam.i 30 4 _ (by decide) (Sam.b 33 _ _ (by decide) (Sam.a 32 _ _ (by decide) (Sam.a 31 _ _ (by decide) Sam.rf)))).1, ⟨⟨rI_at, (rI_ne (by decide)).trans h1.2.1, (rI_ne (by decide)).trans h1.2.2.1, (rI_ne (by decide)).trans h1.2.2.2⟩, fun l hl => ?_, fun l hl => ⟨(congrFun ((rA_ne (by decide)).trans (rA_ne (by decide)) : (sA (sA M 31 (cN C) (zi w)) 32 (cN C) (zi d)).2.2.1 36 = M.2.2.1 36) l).trans (h3 l hl).1, (congrFun ((rA_ne (by decide)).trans (rA_ne (by decide)) : (sA (sA M 31 (cN C) (zi w)) 32 (cN C) (zi d)).2.2.1 37 = M.2.2.1 37) l).trans (h3 l hl).2⟩, fun i hi => (congrFun ((rA_ne (by decide)).trans (rA_ne (by decide)) : (sA (sA M 31 (cN C) (zi w)) 32 (cN C) (zi d)).2.2.1 41 = M.2.2.1 41) i).trans (h4 i hi), fun h l a1 a2 => (congrFun ((rA_ne (by decide)).trans (rA_ne (by decide)) : (sA (sA M 31 (cN C) (zi w)) 32 (cN C) (zi d)).2.2.1 40 = M.2.2.1 40) _).trans (h5 h l a1 a2)⟩, fun k => rI_ne (by decide), ((rA_ne (by decide)).trans (rA_ne (by decide)) : (sA (sA M 31 (cN C) (zi w)) 32 (cN C) (zi d)).2.2.1 2 = M.2.2.1 2)⟩
  have hl' : l < cN C + 1 := hl
  show (sA (sA M 31 (cN C) (zi w)) 32 (cN C) (zi d)).2.2.1 31 l = zi ((if l = cN C then w else cW C l : Nat)) ∧ (sA (sA M 31 (cN C) (zi w)) 32 (cN C) (zi d)).2.2.1 32 l = zi ((if l = cN C then d else cD C l : Nat))
  rw [rA_ne (by decide)]
  by_cases q : l = cN C
  · rw [if_pos q, if_pos q, q]
    exact ⟨rA_at, rA_at⟩
  · rw [if_neg q, if_neg q, rA_nk q, rA_nk q, rA_ne (by decide)]
    exact h2 l (by omega)
theorem add35 {M : PM} {C : Cal} {A : Nat → Nat → Nat} {w d : Nat} (hd : DC M C A) (hn : oN C < 6) (hw : 2 ≤ w ∧ w ≤ 24) (hdw : d < w) : ∃ M', F_X2_add_35 M (zi w) (zi d) = rV M' ∧ Sam0 M M' ∧ DC M' (cal2 C w d) A ∧ (∀ k, M'.1 1 k = M.1 1 k) ∧ M'.2.2.1 2 = M.2.2.1 2 := by
  obtain ⟨h1, h2, h3, h4, h5⟩ := hd
  obtain ⟨y, y1, y2⟩ := everyOf_s (M := sA (sA M 36 (oN C) (zi w)) 37 (oN C) (zi d)) (w := w) (by omega)
  unfold F_X2_add_35 F_X2_isFull_35
  have e1 : mI (sA M 36 (oN C) (zi w)) 35 4 = zi (oN C) := h1.2.1
  have e2 : mI (sA (sA M 36 (oN C) (zi w)) 37 (oN C) (zi d)) 35 4 = zi (oN C) := h1.2.1
  have e3 : ∀ y, mI (sB (sA (sA M 36 (oN C) (zi w)) 37 (oN C) (zi d)) 38 (oN C) y) 35 4 = zi (oN C) := fun y => h1.2.1
  rw [h1.2.1, if_pos (by rw [show (6 : Int32) = zi 6 from rfl, zi_lt (by omega) (by omega)]; omega), if_pos (by decide), cI_s, if_pos (by decide), h1.2.1, zi_natN (by omega), e1, zi_natN (by omega), e2, if_pos (zi_ixT (by omega) (by omega)), if_pos (zi_ixT (by omega) (by omega)), y1, cJ_s, if_pos (zi_ixT (by omega) (by omega)), zi_natN (by omega), e3, show (1 : Int32) = zi 1 from rfl, zi_add, zc (show (oN C : Int) + 1 = ((oN C + 1 : Nat) : Int) by omega), lt_z]
  refine ⟨_, rfl, (Sam.i 35 4 _ (by decide) (Sam.b 38 _ _ (by decide) (Sam.a 37 _ _ (by decide) (Sam.a 36 _ _ (by decide) Sam.rf)))).1, ⟨⟨(rI_ne (by decide)).trans h1.1, rI_at, (rI_ne (by decide)).trans h1.2.2.1, (rI_ne (by decide)).trans h1.2.2.2⟩, fun l hl => ⟨(congrFun ((rA_ne (by decide)).trans (rA_ne (by decide)) : (sA (sA M 36 (oN C) (zi w)) 37 (oN C) (zi d)).2.2.1 31 = M.2.2.1 31) l).trans (h2 l hl).1, (congrFun ((rA_ne (by decide)).trans (rA_ne (by decide)) : (sA (sA M 36 (oN C) (zi w)) 37 (oN C) (zi d)).2.2.1 32 = M.2.2.1 32) l).trans (h2 l hl).2⟩, fun l hl => ?_, fun i hi => (congrFun ((rA_ne (by decide)).trans (rA_ne (by decide)) : (sA (sA M 36 (oN C) (zi w)) 37 (oN C) (zi d)).2.2.1 41 = M.2.2.1 41) i).trans (h4 i hi), fun h l a1 a2 => (congrFun ((rA_ne (by decide)).trans (rA_ne (by decide)) : (sA (sA M 36 (oN C) (zi w)) 37 (oN C) (zi d)).2.2.1 40 = M.2.2.1 40) _).trans (h5 h l a1 a2)⟩, fun k => rI_ne (by decide), ((rA_ne (by decide)).trans (rA_ne (by decide)) : (sA (sA M 36 (oN C) (zi w)) 37 (oN C) (zi d)).2.2.1 2 = M.2.2.1 2)⟩
  have hl' : l < oN C + 1 := hl
  show (sA (sA M 36 (oN C) (zi w)) 37 (oN C) (zi d)).2.2.1 36 l = zi ((if l = oN C then w else oW C l : Nat)) ∧ (sA (sA M 36 (oN C) (zi w)) 37 (oN C) (zi d)).2.2.1 37 l = zi ((if l = oN C then d else oD C l : Nat))
  rw [rA_ne (by decide)]
  by_cases q : l = oN C
  · rw [if_pos q, if_pos q, q]
    exact ⟨rA_at, rA_at⟩
  · rw [if_neg q, if_neg q, rA_nk q, rA_nk q, rA_ne (by decide)]
    exact h3 l (by omega)
