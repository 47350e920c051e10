/-! arrays -/
def ixOK (i : Int32) (n : Nat) : Bool := !(decide (i < 0)) && decide (i.toNatClampNeg < n)
theorem ixOK_in {i : Int32} {n : Nat} (h : ixOK i n = true) : vp_in i n := by
  simp only [ixOK, Bool.and_eq_true, Bool.not_eq_true', decide_eq_false_iff_not, decide_eq_true_eq] at h
  exact fun e => e.elim h.1 (fun z => by omega)
theorem upd_u1 (f : Nat → Int32) (k : Nat) (x : Int32) : upd f k x = u1 f k x := rfl
section Arrays
variable {l : Launch} {d : Nat} {Y : MD} {pc : Nat} {is : List CI} {ls st : List PV} {M : PM} {r : PR} {q n z : Nat} {i : Int32} {X : Option PR}
theorem p_iald (hq : gT q = some (1, n, z)) (h : (if ixOK i n = true then X else none) = some r) (k : X = some r → PW l d Y is ls (vI (mA M q i.toNatClampNeg) :: st) M r) : PW l d Y ((pc, .iaload, 1) :: is) ls (vI i :: vR q :: st) M r := by
  by_cases hi : ixOK i n = true
  · rw [if_pos hi] at h
    have kk := k h
    refine ⟨by simp, fun p e R s m args below meth c sz D cy ad H locs rl hC hs hK hH hS hl => ?_⟩
    have hc := suf_cok hs hC.2.2.2.2.2.2.2.2.2.2.2.2.2
    have h1 := kk.2 p e R s m args below meth c sz D cy ad H locs rl hC (suf_next hs) hK hH hS hl
    rw [COK.next hc kk.1] at h1
    obtain ⟨j, hj, -⟩ := wl_at (key0 hq) cy ad M
    have hj : (wl cy ad M)[j]? = some (ad q 0, .inl (cy 0, n, .inl (M.2.2.1 q))) := by rw [hj]; exact congrArg (fun z => some (ad q 0, z)) (cE_int hq)
    exact va_iald hC.2.1 hC.2.2.1 hK.1 hH.1 j 0 hj rfl (ixOK_in hi) (COK.here hc) h1
  · rw [if_neg hi] at h; cases h
theorem p_lald (hq : gT q = some (2, n, z)) (h : (if ixOK i n = true then X else none) = some r) (k : X = some r → PW l d Y is ls (vJ (mB M q i.toNatClampNeg) :: st) M r) : PW l d Y ((pc, .laload, 1) :: is) ls (vI i :: vR q :: st) M r := by
  by_cases hi : ixOK i n = true
  · rw [if_pos hi] at h
    have kk := k h
    refine ⟨by simp, fun p e R s m args below meth c sz D cy ad H locs rl hC hs hK hH hS hl => ?_⟩
    have hc := suf_cok hs hC.2.2.2.2.2.2.2.2.2.2.2.2.2
    have h1 := kk.2 p e R s m args below meth c sz D cy ad H locs rl hC (suf_next hs) hK hH hS hl
    rw [COK.next hc kk.1] at h1
    obtain ⟨j, hj, -⟩ := wl_at (key0 hq) cy ad M
    have hj : (wl cy ad M)[j]? = some (ad q 0, .inl (cy 1, n, .inr (.inl (M.2.2.2.1 q)))) := by rw [hj]; exact congrArg (fun z => some (ad q 0, z)) (cE_long hq)
    exact va_lald hC.2.1 hC.2.2.1 hK.1 hH.1 j 1 hj rfl (ixOK_in hi) (COK.here hc) h1
  · rw [if_neg hi] at h; cases h
theorem p_zald (hq : gT q = some (3, n, z)) (h : (if ixOK i n = true then X else none) = some r) (k : X = some r → PW l d Y is ls (vI (mA M q i.toNatClampNeg) :: st) M r) : PW l d Y ((pc, .baload, 1) :: is) ls (vI i :: vR q :: st) M r := by
  by_cases hi : ixOK i n = true
  · rw [if_pos hi] at h
    have kk := k h
    refine ⟨by simp, fun p e R s m args below meth c sz D cy ad H locs rl hC hs hK hH hS hl => ?_⟩
    have hc := suf_cok hs hC.2.2.2.2.2.2.2.2.2.2.2.2.2
    have h1 := kk.2 p e R s m args below meth c sz D cy ad H locs rl hC (suf_next hs) hK hH hS hl
    rw [COK.next hc kk.1] at h1
    obtain ⟨j, hj, -⟩ := wl_at (key0 hq) cy ad M
    have hj : (wl cy ad M)[j]? = some (ad q 0, .inl (cy 2, n, .inl (M.2.2.1 q))) := by rw [hj]; exact congrArg (fun z => some (ad q 0, z)) (cE_bool hq)
    exact va_zald hC.2.1 hC.2.2.1 hK.1 hH.1 j 2 hj rfl (ixOK_in hi) (COK.here hc) h1
  · rw [if_neg hi] at h; cases h
theorem p_iast {x : Int32} (hq : gT q = some (1, n, z)) (h : (if ixOK i n = true then X else none) = some r) (k : X = some r → PW l d Y is ls st (sA M q i.toNatClampNeg x) r) : PW l d Y ((pc, .iastore, 1) :: is) ls (vI x :: vI i :: vR q :: st) M r := by
  by_cases hi : ixOK i n = true
  · rw [if_pos hi] at h
    have kk := k h
    refine ⟨by simp, fun p e R s m args below meth c sz D cy ad H locs rl hC hs hK hH hS hl => ?_⟩
    have hc := suf_cok hs hC.2.2.2.2.2.2.2.2.2.2.2.2.2
    obtain ⟨j, hj, hkj⟩ := wl_at (key0 hq) cy ad M
    have hj : (wl cy ad M)[j]? = some (ad q 0, .inl (cy 0, n, .inl (M.2.2.1 q))) := by rw [hj]; exact congrArg (fun z => some (ad q 0, z)) (cE_int hq)
    have hset : (wl cy ad M).set j (ad q 0, .inl (cy 0, n, .inl (upd (M.2.2.1 q) i.toNatClampNeg x))) = wl cy ad (sA M q i.toNatClampNeg x) := wl_set (κ := (q, 0)) (M' := sA M q i.toNatClampNeg x) hH.2 hkj (by show cE cy ad _ q 0 = _; rw [cE_int hq]; show Sum.inl (cy 0, n, Sum.inl (u1 M.2.2.1 q _ q)) = _; rw [u1_eq]; rfl) (fun a b hab => cE_same (fun h0 => ⟨fun _ => rfl, fun _ => rfl, u1_ne (fun e => hab (by rw [e, h0])), rfl⟩) (fun _ _ => rfl))
    refine va_iast hC.2.1 hC.2.2.1 hK.1 hH.1 hH.2 hS j 0 hj rfl (ixOK_in hi) (COK.here hc) (fun H1 locs1 a1 a2 a3 => ?_)
    rw [hset] at a1 a2
    have h1 := kk.2 p e R s m args below meth c sz D cy ad H1 locs1 rl hC (suf_next hs) hK ⟨a1, a2⟩ a3 hl
    rw [COK.next hc kk.1] at h1
    exact h1
  · rw [if_neg hi] at h; cases h
theorem p_zast {x : Int32} (hq : gT q = some (3, n, z)) (h : (if ixOK i n = true then X else none) = some r) (k : X = some r → PW l d Y is ls st (sA M q i.toNatClampNeg (x &&& 1)) r) : PW l d Y ((pc, .bastore, 1) :: is) ls (vI x :: vI i :: vR q :: st) M r := by
  by_cases hi : ixOK i n = true
  · rw [if_pos hi] at h
    have kk := k h
    refine ⟨by simp, fun p e R s m args below meth c sz D cy ad H locs rl hC hs hK hH hS hl => ?_⟩
    have hc := suf_cok hs hC.2.2.2.2.2.2.2.2.2.2.2.2.2
    obtain ⟨j, hj, hkj⟩ := wl_at (key0 hq) cy ad M
    have hj : (wl cy ad M)[j]? = some (ad q 0, .inl (cy 2, n, .inl (M.2.2.1 q))) := by rw [hj]; exact congrArg (fun z => some (ad q 0, z)) (cE_bool hq)
    have hset : (wl cy ad M).set j (ad q 0, .inl (cy 2, n, .inl (upd (M.2.2.1 q) i.toNatClampNeg (vp_nar .boolean x)))) = wl cy ad (sA M q i.toNatClampNeg (x &&& 1)) := wl_set (κ := (q, 0)) (M' := sA M q i.toNatClampNeg (x &&& 1)) hH.2 hkj (by show cE cy ad _ q 0 = _; rw [cE_bool hq]; show Sum.inl (cy 2, n, Sum.inl (u1 M.2.2.1 q _ q)) = _; rw [u1_eq]; rfl) (fun a b hab => cE_same (fun h0 => ⟨fun _ => rfl, fun _ => rfl, u1_ne (fun e => hab (by rw [e, h0])), rfl⟩) (fun _ _ => rfl))
    refine va_zast hC.2.1 hC.2.2.1 hK.1 hH.1 hH.2 hS j 2 hj rfl (ixOK_in hi) (COK.here hc) (fun H1 locs1 a1 a2 a3 => ?_)
    rw [hset] at a1 a2
    have h1 := kk.2 p e R s m args below meth c sz D cy ad H1 locs1 rl hC (suf_next hs) hK ⟨a1, a2⟩ a3 hl
    rw [COK.next hc kk.1] at h1
    exact h1
  · rw [if_neg hi] at h; cases h
theorem p_last {x : Int64} (hq : gT q = some (2, n, z)) (h : (if ixOK i n = true then X else none) = some r) (k : X = some r → PW l d Y is ls st (sB M q i.toNatClampNeg x) r) : PW l d Y ((pc, .lastore, 1) :: is) ls (vJ x :: vI i :: vR q :: st) M r := by
  by_cases hi : ixOK i n = true
  · rw [if_pos hi] at h
    have kk := k h
    refine ⟨by simp, fun p e R s m args below meth c sz D cy ad H locs rl hC hs hK hH hS hl => ?_⟩
    have hc := suf_cok hs hC.2.2.2.2.2.2.2.2.2.2.2.2.2
    obtain ⟨j, hj, hkj⟩ := wl_at (key0 hq) cy ad M
    have hj : (wl cy ad M)[j]? = some (ad q 0, .inl (cy 1, n, .inr (.inl (M.2.2.2.1 q)))) := by rw [hj]; exact congrArg (fun z => some (ad q 0, z)) (cE_long hq)
    have hset : (wl cy ad M).set j (ad q 0, .inl (cy 1, n, .inr (.inl (vp_updL (M.2.2.2.1 q) i.toNatClampNeg x)))) = wl cy ad (sB M q i.toNatClampNeg x) := wl_set (κ := (q, 0)) (M' := sB M q i.toNatClampNeg x) hH.2 hkj (by show cE cy ad _ q 0 = _; rw [cE_long hq]; show Sum.inl (cy 1, n, Sum.inr (Sum.inl (u1 M.2.2.2.1 q _ q))) = _; rw [u1_eq]; rfl) (fun a b hab => cE_same (fun h0 => ⟨fun _ => rfl, fun _ => rfl, rfl, u1_ne (fun e => hab (by rw [e, h0]))⟩) (fun _ _ => rfl))
    refine va_last hC.2.1 hC.2.2.1 hK.1 hH.1 hH.2 hS j 1 hj rfl (ixOK_in hi) (COK.here hc) (fun H1 locs1 a1 a2 a3 => ?_)
    rw [hset] at a1 a2
    have h1 := kk.2 p e R s m args below meth c sz D cy ad H1 locs1 rl hC (suf_next hs) hK ⟨a1, a2⟩ a3 hl
    rw [COK.next hc kk.1] at h1
    exact h1
  · rw [if_neg hi] at h; cases h
/-- the row i of a grid -/
theorem p_aldG {kk0 : Nat} (hq : gT q = some (5, n, kk0)) (h : (if ixOK i n = true then X else none) = some r) (k : X = some r → PW l d Y is ls (vG q i.toNatClampNeg :: st) M r) : PW l d Y ((pc, .aaload, 1) :: is) ls (vI i :: vR q :: st) M r := by
  by_cases hi : ixOK i n = true
  · rw [if_pos hi] at h
    have kk := k h
    refine ⟨by simp, fun p e R s m args below meth c sz D cy ad H locs rl hC hs hK hH hS hl => ?_⟩
    have hc := suf_cok hs hC.2.2.2.2.2.2.2.2.2.2.2.2.2
    have h1 := kk.2 p e R s m args below meth c sz D cy ad H locs rl hC (suf_next hs) hK hH hS hl
    rw [COK.next hc kk.1] at h1
    obtain ⟨j, hj, -⟩ := wl_at (key0 hq) cy ad M
    have hj : (wl cy ad M)[j]? = some (ad q 0, .inl (cy 4, n, .inr (.inr (.inr (.inr fun j => if j < n then some (ad q (j + 1)) else none))))) := by rw [hj]; exact congrArg (fun z => some (ad q 0, z)) (cE_grid hq)
    have hin := ixOK_in hi
    have hlt : i.toNatClampNeg < n := Nat.not_le.mp fun q => hin (Or.inr q)
    refine W.aald (v := .ref (ad q (i.toNatClampNeg + 1))) (ty := .array .int) hC.2.1 hC.2.2.1 (hH.1 j _ hj) ((hK.1.2 4 _ rfl).1 n (fun j => va_rf (if j < n then some (ad q (j + 1)) else none))) rfl (fun q => by cases q) (by show ¬ (i < 0 ∨ (arrV _ _ _).slots.size ≤ _); rw [arrV_size]; exact hin) (by show (arrV _ _ _).slots[_]? = _; rw [arrV_read _ _ hlt]; show some (va_rf (if i.toNatClampNeg < n then some (ad q (i.toNatClampNeg + 1)) else none)) = _; rw [if_pos hlt]; rfl) rfl rfl (COK.here hc) h1
  · rw [if_neg hi] at h; cases h
/-- a place of a row -/
theorem p_ialdG {g a kk0 : Nat} (hq : gT g = some (5, n, kk0)) (h : (if a < n ∧ ixOK i kk0 = true then X else none) = some r) (k : X = some r → PW l d Y is ls (vI (mG M g a i.toNatClampNeg) :: st) M r) : PW l d Y ((pc, .iaload, 1) :: is) ls (vI i :: vG g a :: st) M r := by
  by_cases hi : a < n ∧ ixOK i kk0 = true
  · rw [if_pos hi] at h
    have kk := k h
    refine ⟨by simp, fun p e R s m args below meth c sz D cy ad H locs rl hC hs hK hH hS hl => ?_⟩
    have hc := suf_cok hs hC.2.2.2.2.2.2.2.2.2.2.2.2.2
    have h1 := kk.2 p e R s m args below meth c sz D cy ad H locs rl hC (suf_next hs) hK hH hS hl
    rw [COK.next hc kk.1] at h1
    obtain ⟨j, hj, -⟩ := wl_at (key1 hq hi.1) cy ad M
    have hj : (wl cy ad M)[j]? = some (ad g (a + 1), .inl (cy 0, kk0, .inl (M.2.2.2.2 g a))) := by rw [hj]; exact congrArg (fun z => some (ad g (a + 1), z)) (cE_row hq)
    exact va_iald hC.2.1 hC.2.2.1 hK.1 hH.1 j 0 hj rfl (ixOK_in hi.2) (COK.here hc) h1
  · rw [if_neg hi] at h; cases h
theorem p_iastG {g a kk0 : Nat} {x : Int32} (hq : gT g = some (5, n, kk0)) (h : (if a < n ∧ ixOK i kk0 = true then X else none) = some r) (k : X = some r → PW l d Y is ls st (sG M g a i.toNatClampNeg x) r) : PW l d Y ((pc, .iastore, 1) :: is) ls (vI x :: vI i :: vG g a :: st) M r := by
  by_cases hi : a < n ∧ ixOK i kk0 = true
  · rw [if_pos hi] at h
    have kk := k h
    refine ⟨by simp, fun p e R s m args below meth c sz D cy ad H locs rl hC hs hK hH hS hl => ?_⟩
    have hc := suf_cok hs hC.2.2.2.2.2.2.2.2.2.2.2.2.2
    obtain ⟨j, hj, hkj⟩ := wl_at (key1 hq hi.1) cy ad M
    have hj : (wl cy ad M)[j]? = some (ad g (a + 1), .inl (cy 0, kk0, .inl (M.2.2.2.2 g a))) := by rw [hj]; exact congrArg (fun z => some (ad g (a + 1), z)) (cE_row hq)
    have hset : (wl cy ad M).set j (ad g (a + 1), .inl (cy 0, kk0, .inl (upd (M.2.2.2.2 g a) i.toNatClampNeg x))) = wl cy ad (sG M g a i.toNatClampNeg x) := wl_set (κ := (g, a + 1)) (M' := sG M g a i.toNatClampNeg x) hH.2 hkj (by show cE cy ad _ g (a + 1) = _; rw [cE_row hq]; show Sum.inl (cy 0, kk0, Sum.inl (u2 M.2.2.2.2 g a _ g a)) = _; rw [u2_eq]; rfl) (fun b j hab => cE_same (fun h0 => ⟨fun _ => rfl, fun _ => rfl, rfl, rfl⟩) (fun j2 hj2 => u2_ne (fun e => hab (by rw [hj2, e.1, e.2]))))
    refine va_iast hC.2.1 hC.2.2.1 hK.1 hH.1 hH.2 hS j 0 hj rfl (ixOK_in hi.2) (COK.here hc) (fun H1 locs1 a1 a2 a3 => ?_)
    rw [hset] at a1 a2
    have h1 := kk.2 p e R s m args below meth c sz D cy ad H1 locs1 rl hC (suf_next hs) hK ⟨a1, a2⟩ a3 hl
    rw [COK.next hc kk.1] at h1
    exact h1
  · rw [if_neg hi] at h; cases h
/-- the reference at a known place -/
theorem p_aldR {q2 : Nat} {i : Int32} (hq : gT q = some (4, n, z)) (hi : ixOK i n = true) (hr : gRef q i.toNatClampNeg = some q2) (kk : PW l d Y is ls (vR q2 :: st) M r) : PW l d Y ((pc, .aaload, 1) :: is) ls (vI i :: vR q :: st) M r := by
  refine ⟨by simp, fun p e R s m args below meth c sz D cy ad H locs rl hC hs hK hH hS hl => ?_⟩
  have hc := suf_cok hs hC.2.2.2.2.2.2.2.2.2.2.2.2.2
  have h1 := kk.2 p e R s m args below meth c sz D cy ad H locs rl hC (suf_next hs) hK hH hS hl
  rw [COK.next hc kk.1] at h1
  obtain ⟨j, hj, -⟩ := wl_at (key0 hq) cy ad M
  have hj : (wl cy ad M)[j]? = some (ad q 0, .inl (cy 3, n, .inr (.inr (.inr (.inr fun j => (gRef q j).map fun r => ad r 0))))) := by rw [hj]; exact congrArg (fun z => some (ad q 0, z)) (cE_refs hq)
  refine va_aldq (C := "WeekWheels$State") hC.2.1 hC.2.2.1 hK.1 hH.1 j 3 hj rfl (ixOK_in hi) (COK.here hc) ?_
  rw [hr]
  exact h1
theorem p_alen {a : Nat} {v : Int32} (hq : gT q = some (a, n, z)) (ha : a = 1 ∨ a = 2 ∨ a = 3 ∨ a = 4 ∨ a = 5) (hv : Int32.ofNat n = v) (kk : PW l d Y is ls (vI v :: st) M r) : PW l d Y ((pc, .arraylength, 1) :: is) ls (vR q :: st) M r := by
  refine ⟨by simp, fun p e R s m args below meth c sz D cy ad H locs rl hC hs hK hH hS hl => ?_⟩
  have hc := suf_cok hs hC.2.2.2.2.2.2.2.2.2.2.2.2.2
  have h1 := kk.2 p e R s m args below meth c sz D cy ad H locs rl hC (suf_next hs) hK hH hS hl
  rw [COK.next hc kk.1] at h1
  obtain ⟨j, hj, -⟩ := wl_at (key0 hq) cy ad M
  rcases ha with rfl | rfl | rfl | rfl | rfl
  · exact va_alen hC.2.1 hC.2.2.1 hK.1 hH.1 j 0 (hj.trans (congrArg (fun z => some (ad q 0, z)) (cE_int hq))) rfl hv (COK.here hc) h1
  · exact va_alen hC.2.1 hC.2.2.1 hK.1 hH.1 j 1 (hj.trans (congrArg (fun z => some (ad q 0, z)) (cE_long hq))) rfl hv (COK.here hc) h1
  · exact va_alen hC.2.1 hC.2.2.1 hK.1 hH.1 j 2 (hj.trans (congrArg (fun z => some (ad q 0, z)) (cE_bool hq))) rfl hv (COK.here hc) h1
  · exact va_alen hC.2.1 hC.2.2.1 hK.1 hH.1 j 3 (hj.trans (congrArg (fun z => some (ad q 0, z)) (cE_refs hq))) rfl hv (COK.here hc) h1
  · exact va_alen hC.2.1 hC.2.2.1 hK.1 hH.1 j 4 (hj.trans (congrArg (fun z => some (ad q 0, z)) (cE_grid hq))) rfl hv (COK.here hc) h1
end Arrays
/-- the ranges of a copy -/
def cpOK (sp dp n : Int32) (n0 n1 : Nat) : Bool := !(decide (sp < 0)) && (!(decide (dp < 0)) && (!(decide (n < 0)) && (decide (sp.toNatClampNeg + n.toNatClampNeg ≤ n0) && decide (dp.toNatClampNeg + n.toNatClampNeg ≤ n1))))
/-- the pool's place names System.arraycopy -/
def COPY (own : String) (ix : Nat) : Prop := Cond.methodLink own ix arraycopyName ∈ UW ∧ Cond.native arraycopyName ∈ UW ∧ Cond.static arraycopyName ∈ UW ∧ Cond.initialized "java/lang/System" ∈ UW
def catS (st : List PV) : Nat := (st.map fun v => if cat2 v then 2 else 1).sum
theorem catS_tr (ad : Nat → Nat → Nat) : ∀ st : List PV, ((st.map (tr ad)).map fun v => v.category).sum = catS st
  | [] => rfl
  | v :: st => by
    have := catS_tr ad st
    simp only [List.map_cons, List.sum_cons, catS, tr_cat] at this ⊢
    rw [this]
section Copies
variable {l : Launch} {d : Nat} {Y : MD} {pc : Nat} {is : List CI} {ls st : List PV} {M : PM} {r : PR} {q1 q2 n1 n2 z1 z2 ix : Nat} {sp dp n : Int32} {X : Option PR}
theorem p_copyI (F : COPY Y.1.cls ix) (hd : 1 ≤ d) (hst : catS st ≤ 8) (h1 : gT q1 = some (1, n1, z1)) (h2 : gT q2 = some (1, n2, z2)) (h : (if cpOK sp dp n n1 n2 = true then X else none) = some r) (k : X = some r → PW l d Y is ls st (cA M q1 q2 sp.toNatClampNeg dp.toNatClampNeg n.toNatClampNeg) r) : PW l d Y ((pc, .invokestatic ix, 3) :: is) ls (vI n :: vI dp :: vR q2 :: vI sp :: vR q1 :: st) M r := by
  by_cases hi : cpOK sp dp n n1 n2 = true
  · rw [if_pos hi] at h
    have kk := k h
    simp only [cpOK, Bool.and_eq_true, Bool.not_eq_true', decide_eq_false_iff_not, decide_eq_true_eq] at hi
    obtain ⟨g1, g2, g3, g4, g5⟩ := hi
    refine ⟨by simp, fun p e R s m args below meth c sz D cy ad H locs rl hC hs hK hH hS hl => ?_⟩
    have hc := suf_cok hs hC.2.2.2.2.2.2.2.2.2.2.2.2.2
    have hts := hC.2.2.2.2.2.2.2.2.1
    obtain ⟨j1, hj1, -⟩ := wl_at (key0 h1) cy ad M
    obtain ⟨j2, hj2, hkj⟩ := wl_at (key0 h2) cy ad M
    have hj1 : (wl cy ad M)[j1]? = some (ad q1 0, .inl (cy 0, n1, .inl (M.2.2.1 q1))) := by rw [hj1]; exact congrArg (fun z => some (ad q1 0, z)) (cE_int h1)
    have hj2 : (wl cy ad M)[j2]? = some (ad q2 0, .inl (cy 0, n2, .inl (M.2.2.1 q2))) := by rw [hj2]; exact congrArg (fun z => some (ad q2 0, z)) (cE_int h2)
    have hset : (wl cy ad M).set j2 (ad q2 0, .inl (cy 0, n2, .inl (va_cpy (M.2.2.1 q1) (M.2.2.1 q2) sp.toNatClampNeg dp.toNatClampNeg n.toNatClampNeg))) = wl cy ad (cA M q1 q2 sp.toNatClampNeg dp.toNatClampNeg n.toNatClampNeg) := wl_set (κ := (q2, 0)) (M' := cA M q1 q2 sp.toNatClampNeg dp.toNatClampNeg n.toNatClampNeg) hH.2 hkj (by show cE cy ad _ q2 0 = _; rw [cE_int h2]; show Sum.inl (cy 0, n2, Sum.inl (u1 M.2.2.1 q2 _ q2)) = _; rw [u1_eq]) (fun a b hab => cE_same (fun h0 => ⟨fun _ => rfl, fun _ => rfl, u1_ne (fun e => hab (by rw [e, h0])), rfl⟩) (fun _ _ => rfl))
    have e2 : nativeFrameWords "java/lang/System" "arraycopy" 5 = 7 := by decide +kernel
    refine va_copyi (ty := .int) hC.2.1 hC.2.2.1 (hC.2.2.2.2.1.trans hl.1.symm) hC.2.2.2.2.2.1 (hts _ (List.mem_cons_of_mem _ F.1)) (hts _ (List.mem_cons_of_mem _ F.2.1)) (hts _ (List.mem_cons_of_mem _ F.2.2.1)) (hts _ (List.mem_cons_of_mem _ F.2.2.2)) hK.1 hH.1 hH.2 hS j1 j2 0 0 hj1 hj2 rfl rfl rfl g1 g2 g3 g4 g5 (fun _ _ => rfl) (Nat.le_trans hd hC.2.2.2.2.2.2.2.2.2.1) (by rw [catS_tr, e2]; have e1 := hC.2.2.2.2.2.2.2.2.2.2.1; omega) (COK.here hc) (fun H1 locs1 a1 a2 a3 => ?_)
    rw [hset] at a1 a2
    have h9 := kk.2 p e R s m args below meth c sz D cy ad H1 locs1 rl hC (suf_next hs) hK ⟨a1, a2⟩ a3 hl
    rw [COK.next hc kk.1] at h9
    exact h9
  · rw [if_neg hi] at h; cases h
theorem p_copyJ (F : COPY Y.1.cls ix) (hd : 1 ≤ d) (hst : catS st ≤ 8) (h1 : gT q1 = some (2, n1, z1)) (h2 : gT q2 = some (2, n2, z2)) (h : (if cpOK sp dp n n1 n2 = true then X else none) = some r) (k : X = some r → PW l d Y is ls st (cB M q1 q2 sp.toNatClampNeg dp.toNatClampNeg n.toNatClampNeg) r) : PW l d Y ((pc, .invokestatic ix, 3) :: is) ls (vI n :: vI dp :: vR q2 :: vI sp :: vR q1 :: st) M r := by
  by_cases hi : cpOK sp dp n n1 n2 = true
  · rw [if_pos hi] at h
    have kk := k h
    simp only [cpOK, Bool.and_eq_true, Bool.not_eq_true', decide_eq_false_iff_not, decide_eq_true_eq] at hi
    obtain ⟨g1, g2, g3, g4, g5⟩ := hi
    refine ⟨by simp, fun p e R s m args below meth c sz D cy ad H locs rl hC hs hK hH hS hl => ?_⟩
    have hc := suf_cok hs hC.2.2.2.2.2.2.2.2.2.2.2.2.2
    have hts := hC.2.2.2.2.2.2.2.2.1
    obtain ⟨j1, hj1, -⟩ := wl_at (key0 h1) cy ad M
    obtain ⟨j2, hj2, hkj⟩ := wl_at (key0 h2) cy ad M
    have hj1 : (wl cy ad M)[j1]? = some (ad q1 0, .inl (cy 1, n1, .inr (.inl (M.2.2.2.1 q1)))) := by rw [hj1]; exact congrArg (fun z => some (ad q1 0, z)) (cE_long h1)
    have hj2 : (wl cy ad M)[j2]? = some (ad q2 0, .inl (cy 1, n2, .inr (.inl (M.2.2.2.1 q2)))) := by rw [hj2]; exact congrArg (fun z => some (ad q2 0, z)) (cE_long h2)
    have hset : (wl cy ad M).set j2 (ad q2 0, .inl (cy 1, n2, .inr (.inl (va_cpy (M.2.2.2.1 q1) (M.2.2.2.1 q2) sp.toNatClampNeg dp.toNatClampNeg n.toNatClampNeg)))) = wl cy ad (cB M q1 q2 sp.toNatClampNeg dp.toNatClampNeg n.toNatClampNeg) := wl_set (κ := (q2, 0)) (M' := cB M q1 q2 sp.toNatClampNeg dp.toNatClampNeg n.toNatClampNeg) hH.2 hkj (by show cE cy ad _ q2 0 = _; rw [cE_long h2]; show Sum.inl (cy 1, n2, Sum.inr (Sum.inl (u1 M.2.2.2.1 q2 _ q2))) = _; rw [u1_eq]) (fun a b hab => cE_same (fun h0 => ⟨fun _ => rfl, fun _ => rfl, rfl, u1_ne (fun e => hab (by rw [e, h0]))⟩) (fun _ _ => rfl))
    have e2 : nativeFrameWords "java/lang/System" "arraycopy" 5 = 7 := by decide +kernel
    refine va_copyl (ty := .long) hC.2.1 hC.2.2.1 (hC.2.2.2.2.1.trans hl.1.symm) hC.2.2.2.2.2.1 (hts _ (List.mem_cons_of_mem _ F.1)) (hts _ (List.mem_cons_of_mem _ F.2.1)) (hts _ (List.mem_cons_of_mem _ F.2.2.1)) (hts _ (List.mem_cons_of_mem _ F.2.2.2)) hK.1 hH.1 hH.2 hS j1 j2 1 1 hj1 hj2 rfl rfl rfl g1 g2 g3 g4 g5 (fun _ _ => rfl) (Nat.le_trans hd hC.2.2.2.2.2.2.2.2.2.1) (by rw [catS_tr, e2]; have e1 := hC.2.2.2.2.2.2.2.2.2.2.1; omega) (COK.here hc) (fun H1 locs1 a1 a2 a3 => ?_)
    rw [hset] at a1 a2
    have h9 := kk.2 p e R s m args below meth c sz D cy ad H1 locs1 rl hC (suf_next hs) hK ⟨a1, a2⟩ a3 hl
    rw [COK.next hc kk.1] at h9
    exact h9
  · rw [if_neg hi] at h; cases h
end Copies
