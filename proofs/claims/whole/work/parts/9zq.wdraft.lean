/-! wish: what is read -/
def addW (W : Wsh) (s a c : Nat) : Wsh := (hN W + 1, fun i => if i = hN W then s else hS W i, fun i => if i = hN W then a else hA W i, fun i => if i = hN W then c else hB W i)
theorem hDep_cong {W W' : Wsh} : ∀ k, (∀ i, i < k → hS W i = hS W' i) → hDep W k = hDep W' k
  | 0, _ => rfl
  | k + 1, h => by rw [hDep, hDep, hDep_cong k (fun i hi => h i (by omega)), h k (by omega)]
theorem addW_dep {W : Wsh} {s a c : Nat} : hDep (addW W s a c) (hN W) = hDep W (hN W) := hDep_cong _ (fun i hi => by
  show (if i = hN W then s else hS W i) = hS W i
  rw [if_neg (by omega)])
theorem addW_dep1 {W : Wsh} {s a c : Nat} : hDep (addW W s a c) (hN W + 1) = if s < 5 then hDep W (hN W) + 1 else if s = 5 then hDep W (hN W) else hDep W (hN W) - 1 := by
  rw [hDep, addW_dep]
  have e : hS (addW W s a c) (hN W) = s := by show (if hN W = hN W then s else _) = s; rw [if_pos rfl]
  rw [e]
/-- what a code must be -/
def cOK (C : Cal) (s a c d : Nat) : Prop := s ≤ 7 ∧ (s = 0 → a < cN C) ∧ (s = 1 → a ≤ 12) ∧ (s = 2 → (2 ≤ a ∧ a ≤ 99) ∧ c < a) ∧ (s = 3 → a < cH C ∧ c < cN C) ∧ (s = 4 → a < oN C) ∧ (s = 5 → 1 ≤ d) ∧ (5 < s → 2 ≤ d)
def WFd (C : Cal) (W : Wsh) : Prop := hN W ≤ 100 ∧ ∀ i, i < hN W → cOK C (hS W i) (hA W i) (hB W i) (hDep W i)
theorem WFd_add {C : Cal} {W : Wsh} {s a c : Nat} (h : WFd C W) (hn : hN W < 100) (hc : cOK C s a c (hDep W (hN W))) : WFd C (addW W s a c) := by
  refine ⟨by show hN W + 1 ≤ 100; omega, fun i hi => ?_⟩
  have hi' : i < hN W + 1 := hi
  show cOK C (if i = hN W then s else hS W i) (if i = hN W then a else hA W i) (if i = hN W then c else hB W i) (hDep (addW W s a c) i)
  by_cases q : i = hN W
  · rw [if_pos q, if_pos q, if_pos q, q, addW_dep]; exact hc
  · rw [if_neg q, if_neg q, if_neg q, hDep_cong (W := addW W s a c) (W' := W) i (fun j hj => by
      show (if j = hN W then s else hS W j) = hS W j
      rw [if_neg (by omega)])]
    exact h.2 i (by omega)
/-- the reference's turn -/
def rtW (C : Cal) (W : Wsh) : Nat → Nat
  | 0 => t5 C
  | k + 1 => if hS W k = 2 then (if 100000 < rtW C W k then rtW C W k else if 100000 < Nat.lcm (rtW C W k) (hA W k) then 100001 else Nat.lcm (rtW C W k) (hA W k)) else rtW C W k
theorem rtW_cong {C : Cal} {W W' : Wsh} : ∀ k, (∀ i, i < k → hS W i = hS W' i ∧ hA W i = hA W' i) → rtW C W k = rtW C W' k
  | 0, _ => rfl
  | k + 1, h => by rw [rtW, rtW, rtW_cong k (fun i hi => h i (by omega)), (h k (by omega)).1, (h k (by omega)).2]
theorem rtW_add {C : Cal} {W : Wsh} {s a c : Nat} : rtW C (addW W s a c) (hN W + 1) = if s = 2 then (if 100000 < rtW C W (hN W) then rtW C W (hN W) else if 100000 < Nat.lcm (rtW C W (hN W)) a then 100001 else Nat.lcm (rtW C W (hN W)) a) else rtW C W (hN W) := by
  have e1 : hS (addW W s a c) (hN W) = s := by show (if hN W = hN W then s else _) = s; rw [if_pos rfl]
  have e2 : hA (addW W s a c) (hN W) = a := by show (if hN W = hN W then a else _) = a; rw [if_pos rfl]
  have e3 : rtW C (addW W s a c) (hN W) = rtW C W (hN W) := rtW_cong _ (fun i hi => by
    show (if i = hN W then s else hS W i) = hS W i ∧ (if i = hN W then a else hA W i) = hA W i
    rw [if_neg (by omega), if_neg (by omega)]
    exact ⟨rfl, rfl⟩)
  rw [rtW, e1, e2, e3]
theorem rtW_rng {C : Cal} {W : Wsh} (hc : WFC C) : ∀ k, (∀ i, i < k → hS W i = 2 → 2 ≤ hA W i ∧ hA W i ≤ 99) → 0 < rtW C W k ∧ rtW C W k ≤ 100001
  | 0, _ => ⟨t5_pos hc, by have := hc.2.2.2.2.2; show t5 C ≤ 100001; omega⟩
  | k + 1, h => by
    have ih := rtW_rng hc k (fun i hi => h i (by omega))
    rw [rtW]
    split
    · rename_i u
      have hw := h k (by omega) u
      split
      · exact ih
      · split
        · decide
        · exact ⟨Nat.lcm_pos ih.1 (by omega), by omega⟩
    · exact ih
theorem WFd_day {C : Cal} {W : Wsh} (h : WFd C W) : ∀ i, i < hN W → hS W i = 2 → 2 ≤ hA W i ∧ hA W i ≤ 99 := fun i hi hs => ((h.2 i hi).2.2.2.1 hs).1
def DWC (M : PM) (W : Wsh) : Prop := mI M 82 7 = zi (hN W) ∧ ∀ i, i < hN W → mA M 83 i = zi (hS W i) ∧ mA M 84 i = zi (hA W i) ∧ mA M 85 i = zi (hB W i)
def DWM (M : PM) (C : Cal) (W : Wsh) : Prop := mI M 99 25 = zi (hN W) ∧ mI M 99 28 = zi (rtW C W (hN W)) ∧ ∀ i, i < hN W → mG M 117 i 0 = zi (hS W i) ∧ mG M 117 i 1 = zi (hA W i) ∧ mG M 117 i 2 = zi (hB W i)
/-- what the class's draft is even after a fault -/
def WKc (M : PM) : Prop := ∃ k : Nat, k ≤ 100 ∧ mI M 82 7 = zi k ∧ ∀ i, i < k → mA M 83 i = zi 2 → ∃ a : Nat, 2 ≤ a ∧ a ≤ 99 ∧ mA M 84 i = zi a
theorem DWC.wk {M : PM} {C : Cal} {W : Wsh} (h : DWC M W) (hw : WFd C W) : WKc M := ⟨hN W, hw.1, h.1, fun i hi e => by
  obtain ⟨h1, h2, h3⟩ := h.2 i hi
  have c := hw.2 i hi
  have e2 : hS W i = 2 := by
    rw [h1, zi_eq (by have := c.1; omega) (by omega)] at e
    omega
  have c2 := c.2.2.2.1 e2
  exact ⟨hA W i, c2.1.1, c2.1.2, h2⟩⟩
theorem DWC.kt {M M' : PM} {W : Wsh} (h : DWC M W) (k : KT M M') : DWC M' W := by
  have ea : ∀ q i, mA M' q i = mA M q i := fun q i => by rw [mA, mA, k.2]
  exact ⟨(k.1 82 7 (by decide)).trans h.1, fun i hi => ⟨(ea 83 i).trans (h.2 i hi).1, (ea 84 i).trans (h.2 i hi).2.1, (ea 85 i).trans (h.2 i hi).2.2⟩⟩
theorem WKc.kt {M M' : PM} (h : WKc M) (k : KT M M') : WKc M' := by
  have ea : ∀ q i, mA M' q i = mA M q i := fun q i => by rw [mA, mA, k.2]
  obtain ⟨m, h1, h2, h3⟩ := h
  exact ⟨m, h1, (k.1 82 7 (by decide)).trans h2, fun i hi e => by
    obtain ⟨a, a1, a2, a3⟩ := h3 i hi ((ea 83 i).symm.trans e)
    exact ⟨a, a1, a2, (ea 84 i).trans a3⟩⟩
theorem DWM.kr {M M' : PM} {C : Cal} {W : Wsh} (h : DWM M C W) (k : KR M M') : DWM M' C W := by
  have eg : ∀ q i j, mG M' q i j = mG M q i j := fun q i j => by rw [mG, mG, k.2]
  exact ⟨(k.1 99 25 (by decide)).trans h.1, (k.1 99 28 (by decide)).trans h.2.1, fun i hi => ⟨(eg 117 i 0).trans (h.2.2 i hi).1, (eg 117 i 1).trans (h.2.2 i hi).2.1, (eg 117 i 2).trans (h.2.2 i hi).2.2⟩⟩
def KWc (M M' : PM) : Prop := Sam0 M M' ∧ M'.1 82 8 = M.1 82 8 ∧ M'.1 82 9 = M.1 82 9
theorem KWc.rf {M : PM} : KWc M M := ⟨Sam0.rf, rfl, rfl⟩
theorem KWc.tr {M M1 M2 : PM} (h : KWc M M1) (g : KWc M1 M2) : KWc M M2 := ⟨h.1.tr g.1, g.2.1.trans h.2.1, g.2.2.trans h.2.2⟩
theorem KT.kw {M M' : PM} (h : KT M M') : KWc M M' := ⟨h.sam, h.1 82 8 (by decide), h.1 82 9 (by decide)⟩
/-- a code is added: the class's memory -/
def adM (M : PM) (k : Nat) (x y z : Int32) : PM := sI (sA (sA (sA M 83 k x) 84 k y) 85 k z) 82 7 (zi ((k + 1 : Nat)))
theorem adM_s {M : PM} {k : Nat} {x y z : Int32} (h : mI M 82 7 = zi k) (hk : k < 100) : F_X7_add_82 M x y z = rV (adM M k x y z) := by
  unfold F_X7_add_82
  have e1 : mI (sA M 83 k x) 82 7 = zi k := h
  have e2 : mI (sA (sA M 83 k x) 84 k y) 82 7 = zi k := h
  have e3 : mI (sA (sA (sA M 83 k x) 84 k y) 85 k z) 82 7 = zi k := h
  rw [h, if_pos (by rw [show (100 : Int32) = zi 100 from rfl, zi_lt (by omega) (by omega)]; omega), if_pos (zi_ixT (by omega) (by omega)), zi_natN (by omega), e1, if_pos (zi_ixT (by omega) (by omega)), zi_natN (by omega), e2, if_pos (zi_ixT (by omega) (by omega)), zi_natN (by omega), lt_z, e3, show (1 : Int32) = zi 1 from rfl, zi_add, zc (show (k : Int) + 1 = ((k + 1 : Nat) : Int) by omega)]
  rfl
theorem adM_kw {M : PM} {k : Nat} {x y z : Int32} : KWc M (adM M k x y z) := ⟨(Sam.i 82 7 _ (by decide) (Sam.a 85 _ _ (by decide) (Sam.a 84 _ _ (by decide) (Sam.a 83 _ _ (by decide) Sam.rf)))).1, rI_nk (by decide), rI_nk (by decide)⟩
theorem adM_tc {b : Nat → Nat} {M : PM} {n p s k : Nat} {f g : Int} {x y z : Int32} (h : TC b M n p s f g) : TC b (adM M k x y z) n p s f g := h.kp (fun j _ _ => rI_ne (by decide)) (((rA_ne (by decide)).trans ((rA_ne (by decide)).trans (rA_ne (by decide)))) : (sA (sA (sA M 83 k x) 84 k y) 85 k z).2.2.1 2 = M.2.2.1 2)
theorem adM_83 {M : PM} {k i : Nat} {x y z : Int32} : mA (adM M k x y z) 83 i = if i = k then x else mA M 83 i := by
  have r1 : mA (adM M k x y z) 83 i = (sA M 83 k x).2.2.1 83 i := congrFun (((rA_ne (by decide)).trans (rA_ne (by decide))) : (sA (sA (sA M 83 k x) 84 k y) 85 k z).2.2.1 83 = (sA M 83 k x).2.2.1 83) i
  rw [r1]
  by_cases q : i = k
  · rw [if_pos q, q, rA_at]
  · rw [if_neg q, rA_nk q]
theorem adM_84 {M : PM} {k i : Nat} {x y z : Int32} : mA (adM M k x y z) 84 i = if i = k then y else mA M 84 i := by
  have r1 : mA (adM M k x y z) 84 i = (sA (sA M 83 k x) 84 k y).2.2.1 84 i := congrFun ((rA_ne (by decide)) : (sA (sA (sA M 83 k x) 84 k y) 85 k z).2.2.1 84 = (sA (sA M 83 k x) 84 k y).2.2.1 84) i
  rw [r1]
  by_cases q : i = k
  · rw [if_pos q, q, rA_at]
  · rw [if_neg q, rA_nk q]
    exact congrFun (rA_ne (by decide) : (sA M 83 k x).2.2.1 84 = M.2.2.1 84) i
theorem adM_85 {M : PM} {k i : Nat} {x y z : Int32} : mA (adM M k x y z) 85 i = if i = k then z else mA M 85 i := by
  show (sA (sA (sA M 83 k x) 84 k y) 85 k z).2.2.1 85 i = _
  by_cases q : i = k
  · rw [if_pos q, q, rA_at]
  · rw [if_neg q, rA_nk q]
    exact congrFun ((rA_ne (by decide)).trans (rA_ne (by decide)) : (sA (sA M 83 k x) 84 k y).2.2.1 85 = M.2.2.1 85) i
theorem adM_dwc {M : PM} {W : Wsh} {s a c : Nat} (h : DWC M W) : DWC (adM M (hN W) (zi s) (zi a) (zi c)) (addW W s a c) := by
  refine ⟨rI_at, fun i hi => ?_⟩
  have hi' : i < hN W + 1 := hi
  rw [adM_83, adM_84, adM_85]
  show _ = zi ((if i = hN W then s else hS W i : Nat)) ∧ _ = zi ((if i = hN W then a else hA W i : Nat)) ∧ _ = zi ((if i = hN W then c else hB W i : Nat))
  by_cases q : i = hN W
  · rw [if_pos q, if_pos q, if_pos q, if_pos q, if_pos q, if_pos q]; exact ⟨rfl, rfl, rfl⟩
  · rw [if_neg q, if_neg q, if_neg q, if_neg q, if_neg q, if_neg q]; exact h.2 i (by omega)
/-- after a fault a code may still be added -/
theorem addF {b : Nat → Nat} {M : PM} {n p s : Nat} {f g : Int} {x y z : Int32} (h : TC b M n p s f g) (hk : WKc M) (hx : x = zi 2 → ∃ a : Nat, 2 ≤ a ∧ a ≤ 99 ∧ y = zi a) : ∃ M', F_X7_add_82 M x y z = rV M' ∧ KWc M M' ∧ TC b M' n p s f g ∧ WKc M' := by
  obtain ⟨k, h1, h2, h3⟩ := hk
  by_cases q : k < 100
  · refine ⟨_, adM_s h2 q, adM_kw, adM_tc h, k + 1, by omega, rI_at, fun i hi e => ?_⟩
    rw [adM_83] at e
    rw [adM_84]
    by_cases q2 : i = k
    · rw [if_pos q2] at e ⊢; exact hx e
    · rw [if_neg q2] at e ⊢; exact h3 i (by omega) e
  · refine ⟨M, ?_, KWc.rf, h, k, h1, h2, h3⟩
    unfold F_X7_add_82
    rw [h2, if_neg (by rw [show (100 : Int32) = zi 100 from rfl, zi_lt (by omega) (by omega)]; omega)]
theorem says_m {b : Nat → Nat} {M : PM} {n p s a c : Nat} {C : Cal} {W : Wsh} (h : TM b M n p 0 (-1)) (h1 : mI M 99 25 = zi (hN W)) (h2 : mI M 99 28 = zi (rtW C (addW W s a c) (hN W + 1))) (h3 : ∀ i, i < hN W → mG M 117 i 0 = zi (hS W i) ∧ mG M 117 i 1 = zi (hA W i) ∧ mG M 117 i 2 = zi (hB W i)) (hk : hN W < 100) : ∃ M', F_X11_says_99 M (zi s) (zi a) (zi c) = rV M' ∧ SamM M M' ∧ TM b M' n p 0 (-1) ∧ DWM M' C (addW W s a c) ∧ M'.1 99 26 = M.1 99 26 := by
  unfold F_X11_says_99
  have z0 : (0 : Int32).toNatClampNeg = 0 := by decide
  have z1 : (1 : Int32).toNatClampNeg = 1 := by decide
  have z2 : (2 : Int32).toNatClampNeg = 2 := by decide
  have e1 : ∀ x, mI (sG M 117 (hN W) 0 x) 99 25 = zi (hN W) := fun x => h1
  have e2 : ∀ x y, mI (sG (sG M 117 (hN W) 0 x) 117 (hN W) 1 y) 99 25 = zi (hN W) := fun x y => h1
  have e3 : ∀ x y z, mI (sG (sG (sG M 117 (hN W) 0 x) 117 (hN W) 1 y) 117 (hN W) 2 z) 99 25 = zi (hN W) := fun x y z => h1
  rw [h.2.2.1, if_pos (show zi 0 = 0 from rfl), h1, if_pos (zi_ixT (by omega) (by omega)), zi_natN (by omega), if_pos ⟨by omega, by decide⟩, z0, z1, z2, e1, zi_natN (by omega), if_pos (zi_ixT (by omega) (by omega)), if_pos ⟨by omega, by decide⟩, lt_z, e2, zi_natN (by omega), if_pos (zi_ixT (by omega) (by omega)), if_pos ⟨by omega, by decide⟩, e3, show (1 : Int32) = zi 1 from rfl, zi_add, zc (show (hN W : Int) + 1 = ((hN W + 1 : Nat) : Int) by omega), lt_z]
  refine ⟨_, rfl, ((SamM.g 117 _ _ _ (by decide)).tr ((SamM.g 117 _ _ _ (by decide)).tr (SamM.g 117 _ _ _ (by decide)))).tr ⟨Sam.i 99 25 _ (by decide) Sam.rf, rI_nk (by decide)⟩, h.kp (fun k k1 k2 => rI_nk (by omega)) rfl, ⟨rI_at, (rI_nk (by decide)).trans h2, fun i hi => ?_⟩, rI_nk (by decide)⟩
  have hi' : i < hN W + 1 := hi
  show (sG (sG (sG M 117 (hN W) 0 (zi s)) 117 (hN W) 1 (zi a)) 117 (hN W) 2 (zi c)).2.2.2.2 117 i 0 = zi ((if i = hN W then s else hS W i : Nat)) ∧ (sG (sG (sG M 117 (hN W) 0 (zi s)) 117 (hN W) 1 (zi a)) 117 (hN W) 2 (zi c)).2.2.2.2 117 i 1 = zi ((if i = hN W then a else hA W i : Nat)) ∧ (sG (sG (sG M 117 (hN W) 0 (zi s)) 117 (hN W) 1 (zi a)) 117 (hN W) 2 (zi c)).2.2.2.2 117 i 2 = zi ((if i = hN W then c else hB W i : Nat))
  by_cases q : i = hN W
  · rw [if_pos q, if_pos q, if_pos q, q, rG_nk (by decide), rG_nk (by decide), rG_at, rG_nk (by decide), rG_at, rG_at]
    exact ⟨rfl, rfl, rfl⟩
  · rw [if_neg q, if_neg q, if_neg q, rG_nr q, rG_nr q, rG_nr q]
    exact h3 i (by omega)
theorem saysF {b : Nat → Nat} {M : PM} {n p : Nat} {f g : Int} {x y z : Int32} (h : TM b M n p f g) (hf : f ≠ 0) : F_X11_says_99 M x y z = rV M := by
  have := h.2.2.2.2.2.2.1
  unfold F_X11_says_99
  rw [h.2.2.1, if_neg (by rw [show (0 : Int32) = zi 0 from rfl, zi_eq (by omega) (by omega)]; exact hf)]
