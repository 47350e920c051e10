/-! the constructors' rows: fields, arrays of arrays, calls, the end -/
theorem va_up_eq {α : Type} (f : Nat → α) (i : Nat) (v : α) (j : Nat) : va_up f i v j = if j = i then v else f j := rfl
theorem ZM.sI {n q k : Nat} {M : PM} {x : Int32} (h : ZM n M) (hq : q < n) : ZM n (sI M q k x) := fun a ha => by
  obtain ⟨h1, h2, h3, h4, h5⟩ := h a ha
  exact ⟨fun k2 => (u2_ne (fun e => by omega)).trans (h1 k2), h2, h3, h4, h5⟩
theorem ZM.sA {n q k : Nat} {M : PM} {x : Int32} (h : ZM n M) (hq : q < n) : ZM n (sA M q k x) := fun a ha => by
  obtain ⟨h1, h2, h3, h4, h5⟩ := h a ha
  refine ⟨h1, h2, fun k2 => ?_, h4, h5⟩
  show u1 M.2.2.1 q _ a k2 = 0
  rw [u1_ne (show a ≠ q by omega)]
  exact h3 k2
theorem RS.cons {n q k r : Nat} {rs : List (Nat × Nat)} (h : RS n rs) (hq : q < n) (hr : gRef q k = some r) (hrn : r < n) : RS n ((q, k) :: rs) := fun p hp => by
  rcases List.mem_cons.mp hp with rfl | hp
  · exact ⟨hq, fun r2 h2 => by cases Option.some.inj (hr.symm.trans h2); exact hrn⟩
  · exact h p hp
theorem mem_ne {q k a b : Nat} {rs : List (Nat × Nat)} (h : ¬ (a = q ∧ b = k)) : (a, b) ∈ (q, k) :: rs ↔ (a, b) ∈ rs := by
  rw [List.mem_cons]
  exact ⟨fun e => e.elim (fun z => absurd (Prod.mk.injEq .. ▸ z) h) id, Or.inr⟩
theorem rfN_ne {ad : Nat → Nat → Nat} {q k a b : Nat} {rs : List (Nat × Nat)} (h : ¬ (a = q ∧ b = k)) : rfN ad ((q, k) :: rs) a b = rfN ad rs a b := by
  unfold rfN
  by_cases hm : (a, b) ∈ rs
  · rw [if_pos hm, if_pos ((mem_ne h).mpr hm)]
  · rw [if_neg hm, if_neg (fun z => hm ((mem_ne h).mp z))]
theorem rfN_eq {ad : Nat → Nat → Nat} {q k r : Nat} {rs : List (Nat × Nat)} (h : gRef q k = some r) : rfN ad ((q, k) :: rs) q k = some (ad r 0) := by
  unfold rfN
  rw [if_pos List.mem_cons_self, h]
  rfl
/-- the pool's place ix names the field k of the kind ci, the class's own -/
def FOKL (own : String) (ix ci k : Nat) (ty : FieldType) (fin : Bool) : Prop := ∃ (C : String) (T : u_T) (N : Nat) (ty0 : Nat → FieldType), clsOK ci C T N ty0 ∧ k < N ∧ ty0 k = ty ∧ (T k).2.2.2 = fin ∧ (T k).1 = own ∧ Cond.fieldLink own ix (T k).1 (T k).2.1 (T k).2.2.1 ∈ UW
section NRows2
variable {l : Launch} {R : Room} {Y : MD} {n0 : Nat} {X : GX} {cs : Nat × Nat} {pc : Nat} {is : List CI} {ls st : List PV} {n : Nat} {rs : List (Nat × Nat)} {M : PM}
theorem n_put {ix ci k q z : Nat} {ty : FieldType} {fin : Bool} {v : PV} {rs' : List (Nat × Nat)} {M' : PM} (hX : NOK Y X) (F : FOKL Y.1.cls ix ci k ty fin) (hfi : Y.1.name = "<init>") (hq : gT q = some (0, ci, z)) (hqn : q < n) (hn : ∀ ad, narrow ty (tr ad v) = tr ad v ∧ fits ty (tr ad v) = true) (hv : ∀ ad, fvN ad rs' M' q k (ft ci k) = tr ad v) (ho : ∀ ad j, j ≠ k → fvN ad rs' M' q j (ft ci j) = fvN ad rs M q j (ft ci j)) (hs' : ∀ cy ad a i, (a, i) ≠ (q, 0) → cEN cy ad rs' M' a i = cEN cy ad rs M a i) (hZ : ZM n M → ZM n M') (hr : RS n rs → RS n rs')
    (kk : PN l R Y n0 X cs is ls st n rs' M') : PN l R Y n0 X cs ((pc, .putfield ix, 3) :: is) ls (v :: vR q :: st) n rs M := by
  obtain ⟨p, e, s, m, args, below, meth, c, Q, sz, D, cy, ad0⟩ := X
  obtain ⟨x1, x2, x3, x4, x5, x6, x7, x8⟩ := hX
  obtain ⟨C, T, N, ty0, ⟨f1, f2, f3, f4, f5⟩, f6, f7, f8, f9, f10⟩ := F
  refine ⟨by simp, fun ad H locs rl hs hA hH hS hl => ?_⟩
  have hc := suf_cok hs x6
  obtain ⟨i, hi, hki⟩ := wlN_at (keysN_of hqn) cy ad rs M
  have hi : (wlN cy ad n rs M)[i]? = some (ad q 0, .inr (ci, fldsN ad rs M q ci)) := by rw [hi]; exact congrArg (fun z => some (ad q 0, z)) (cEN_obj hq)
  have hset : (wlN cy ad n rs M).set i (ad q 0, .inr (ci, (fldsN ad rs M q ci).set k (tr ad v))) = wlN cy ad n rs' M' := wlN_set (κ := (q, 0)) hH.2.1 hki (by show cEN cy ad rs' M' q 0 = _; rw [cEN_obj hq, fldsN_set (hv ad) (ho ad)]) (fun a b hab => hs' cy ad a b hab)
  have hd : parseFieldDescriptor (T k).2.2.1 = some ty := by rw [f4 k f6, f7]
  have go : ∀ (H1 : Heap) (locs1 : List Loc), va_P D vwCl ((wlN cy ad n rs M).set i (ad q 0, .inr (ci, (fldsN ad rs M q ci).set k (tr ad v)))) H1 → va_D (fun q => sz ≤ q) ((wlN cy ad n rs M).set i (ad q 0, .inr (ci, (fldsN ad rs M q ci).set k (tr ad v)))) → va_S (fun q => sz ≤ q) s.heap H1 locs1 → W p l e R s m args below meth c H1 locs1 cs.1 cs.2 Q (F0 m (pc + 3) rl (st.map (tr ad))) := fun H1 locs1 a1 a2 a3 => by
    rw [hset] at a1 a2
    have h1 := kk.2 ad H1 locs1 rl (suf_next hs) hA ⟨a1, a2, hZ hH.2.2.1, hr hH.2.2.2⟩ a3 hl
    rw [COK.next hc kk.1] at h1
    exact h1
  cases fin with
  | true => exact va_putF (D := D) (C := C) (T := T) (N := N) (Ts := UW) (ref := (T k).1) x1 x2 x5 f3 ty0 f4 f5 x4 x7.1.1 hH.1 hH.2.1 hS i hi f1 k f6 (x5 _ f10) (fun _ h => h) f8 (x8 hfi) f9 hd (hn ad).1 (hn ad).2 (by rw [fldsN_len, f2]; exact f6) (COK.here hc) go
  | false => exact va_put (D := D) (C := C) (T := T) (N := N) (Ts := UW) (ref := (T k).1) x1 x2 x5 f3 ty0 f4 f5 x4 x7.1.1 hH.1 hH.2.1 hS i hi f1 k f6 (x5 _ f10) (fun _ h => h) f8 hd (hn ad).1 (hn ad).2 (by rw [fldsN_len, f2]; exact f6) (COK.here hc) go
theorem n_putI {ix ci k q z : Nat} {fin : Bool} {x : Int32} (hX : NOK Y X) (F : FOKL Y.1.cls ix ci k .int fin) (hfi : Y.1.name = "<init>") (hq : gT q = some (0, ci, z)) (hqn : q < n) (ht : ft ci k = 0) (kk : PN l R Y n0 X cs is ls st n rs (sI M q k x)) : PN l R Y n0 X cs ((pc, .putfield ix, 3) :: is) ls (vI x :: vR q :: st) n rs M := by
  refine n_put (M' := sI M q k x) (rs' := rs) hX F hfi hq hqn (fun ad => ⟨rfl, rfl⟩) (fun ad => ?_) (fun ad j hj => ?_) (fun cy ad a i hai => cEN_same (fun h0 => ⟨fun k2 => u2_ne (fun e => hai (by rw [e.1, h0])), fun _ => rfl, rfl, rfl, fun _ => Iff.rfl⟩) (fun _ _ => rfl)) (fun h => h.sI hqn) id kk
  · rw [ht]
    show Value.int (u2 M.1 q k x q k) = _
    rw [u2_eq]
    rfl
  · unfold fvN
    show (if _ then _ else if _ then _ else Value.int (u2 M.1 q k x q j)) = _
    rw [u2_ne (fun e => hj e.2)]
    rfl
theorem n_putR {ix ci k q z r : Nat} {ty : FieldType} {fin : Bool} (hX : NOK Y X) (F : FOKL Y.1.cls ix ci k ty fin) (hfi : Y.1.name = "<init>") (hq : gT q = some (0, ci, z)) (hqn : q < n) (ht : ft ci k = 2) (hty : ∀ a, narrow ty (.ref a) = .ref a ∧ fits ty (.ref a) = true) (hr : gRef q k = some r) (hrn : r < n) (kk : PN l R Y n0 X cs is ls st n ((q, k) :: rs) M) : PN l R Y n0 X cs ((pc, .putfield ix, 3) :: is) ls (vR r :: vR q :: st) n rs M := by
  refine n_put (M' := M) (rs' := (q, k) :: rs) hX F hfi hq hqn (fun ad => hty _) (fun ad => ?_) (fun ad j hj => ?_) (fun cy ad a i hai => cEN_same (fun h0 => ⟨fun _ => rfl, fun _ => rfl, rfl, rfl, fun k2 => mem_ne (fun e => hai (by rw [e.1, h0]))⟩) (fun _ _ => rfl)) id (fun h => h.cons hqn hr hrn) kk
  · rw [ht]
    show va_rf (rfN ad ((q, k) :: rs) q k) = _
    rw [rfN_eq hr]
    rfl
  · unfold fvN
    rw [rfN_ne (fun e => hj e.2)]
theorem n_getR {ix ci k q z r : Nat} {ty : FieldType} {fin : Bool} (hX : NOK Y X) (F : FOKL Y.1.cls ix ci k ty fin) (hq : gT q = some (0, ci, z)) (hqn : q < n) (ht : ft ci k = 2) (hr : gRef q k = some r) (hm : (q, k) ∈ rs) (kk : PN l R Y n0 X cs is ls (vR r :: st) n rs M) : PN l R Y n0 X cs ((pc, .getfield ix, 3) :: is) ls (vR q :: st) n rs M := by
  obtain ⟨p, e, s, m, args, below, meth, c, Q, sz, D, cy, ad0⟩ := X
  obtain ⟨x1, x2, x3, x4, x5, x6, x7, x8⟩ := hX
  obtain ⟨C, T, N, ty0, ⟨f1, f2, f3, f4, f5⟩, f6, f7, f8, f9, f10⟩ := F
  refine ⟨by simp, fun ad H locs rl hs hA hH hS hl => ?_⟩
  have hc := suf_cok hs x6
  have h1 := kk.2 ad H locs rl (suf_next hs) hA hH hS hl
  rw [COK.next hc kk.1] at h1
  obtain ⟨i, hi, -⟩ := wlN_at (keysN_of hqn) cy ad rs M
  have hi : (wlN cy ad n rs M)[i]? = some (ad q 0, .inr (ci, fldsN ad rs M q ci)) := by rw [hi]; exact congrArg (fun z => some (ad q 0, z)) (cEN_obj hq)
  have hfv : (fldsN ad rs M q ci)[k]? = some (tr ad (vR r)) := by
    rw [fldsN_at (by rw [f2]; exact f6), ht]
    show some (va_rf (rfN ad rs q k)) = _
    unfold rfN
    rw [if_pos hm, hr]
    rfl
  exact va_get (D := D) (C := C) (T := T) (N := N) (Ts := UW) (ref := (T k).1) x1 x2 x5 f3 x4 x7.1.1 hH.1 i hi f1 k f6 (x5 _ f10) (fun _ h => h) hfv (COK.here hc) h1
theorem n_iast {q N z : Nat} {i x : Int32} (hX : NOK Y X) (hq : gT q = some (1, N, z)) (hqn : q < n) (hi : ixOK i N = true) (kk : PN l R Y n0 X cs is ls st n rs (sA M q i.toNatClampNeg x)) : PN l R Y n0 X cs ((pc, .iastore, 1) :: is) ls (vI x :: vI i :: vR q :: st) n rs M := by
  obtain ⟨p, e, s, m, args, below, meth, c, Q, sz, D, cy, ad0⟩ := X
  obtain ⟨x1, x2, x3, x4, x5, x6, x7, x8⟩ := hX
  refine ⟨by simp, fun ad H locs rl hs hA hH hS hl => ?_⟩
  have hc := suf_cok hs x6
  obtain ⟨j, hj, hkj⟩ := wlN_at (keysN_of hqn) cy ad rs M
  have hj : (wlN cy ad n rs M)[j]? = some (ad q 0, .inl (cy 0, N, .inl (M.2.2.1 q))) := by rw [hj]; exact congrArg (fun z => some (ad q 0, z)) (cEN_int hq)
  have hset : (wlN cy ad n rs M).set j (ad q 0, .inl (cy 0, N, .inl (upd (M.2.2.1 q) i.toNatClampNeg x))) = wlN cy ad n rs (sA M q i.toNatClampNeg x) := wlN_set (κ := (q, 0)) hH.2.1 hkj (by show cEN cy ad rs _ q 0 = _; rw [cEN_int hq]; show Sum.inl (cy 0, N, Sum.inl (u1 M.2.2.1 q _ q)) = _; rw [u1_eq]; rfl) (fun a b hab => cEN_same (fun h0 => ⟨fun _ => rfl, fun _ => rfl, u1_ne (fun e => hab (by rw [e, h0])), rfl, fun _ => Iff.rfl⟩) (fun _ _ => rfl))
  refine va_iast x1 x2 x7.1.1 hH.1 hH.2.1 hS j 0 hj rfl (ixOK_in hi) (COK.here hc) (fun H1 locs1 a1 a2 a3 => ?_)
  rw [hset] at a1 a2
  have h1 := kk.2 ad H1 locs1 rl (suf_next hs) hA ⟨a1, a2, hH.2.2.1.sA hqn, hH.2.2.2⟩ a3 hl
  rw [COK.next hc kk.1] at h1
  exact h1
/-- new State[N] -/
theorem n_anew {ix N z : Nat} {x : Int32} (hX : NOK Y X) (hw : Cond.classLink Y.1.cls ix "WeekWheels$State" ∈ UW) (hx : ¬ x < 0 ∧ x.toNatClampNeg = N ∧ N ≤ 10000) (hg : gT n = some (4, N, z)) (hn : n0 ≤ n ∧ n < 1000) (hok : st.all (okV n) = true ∧ ls.all (okV n) = true) (hR : cs.1 + 1 ≤ R.cells ∧ cs.2 + N ≤ R.slots) (k : PN l R Y n0 X (cs.1 + 1, cs.2 + N) is ls (vR n :: st) (n + 1) rs M) : PN l R Y n0 X cs ((pc, .anewarray ix, 3) :: is) ls (vI x :: st) n rs M := by
  obtain ⟨p, e, s, m, args, below, meth, c, Q, sz, D, cy, ad0⟩ := X
  obtain ⟨x1, x2, x3, x4, x5, x6, x7, x8⟩ := hX
  refine ⟨by simp, fun ad H locs rl hs hA hH hS hl => ?_⟩
  have hc := suf_cok hs x6
  refine va_newq x1 x2 x4 (x5 _ hw) x7.2.1 x7.1.1 hH.1 hH.2.1 hS (fun q hq => Nat.le_trans x7.1.2.2.1.1 hq) hx.1 hx.2.1 (by omega) hR.1 hR.2 (COK.here hc) (fun a cA H1 a0 a1 a2 a3 => ?_)
  have e0 := K_cy (tys := []) 3 x7.1.1 a0 rfl
  subst e0
  have hW := WN.push hH a1 a2 (by rw [hg]; rfl) (by
    rw [cEN_refs hg]
    refine congrArg (fun z => Sum.inl (cy 3, N, Sum.inr (Sum.inr (Sum.inr (Sum.inr z))))) ?_
    exact funext fun j => rfN_new hH.2.2.2)
  have h1 := k.2 _ H1 locs rl (suf_next hs) (hA.up hn.1 hn.2) hW a3 (okL_lv hn.2 hok.2 hl)
  rw [COK.next hc k.1] at h1
  rw [← okL_map (ad := ad) (a := a) (r := fun _ => 0) hn.2 hok.1]
  have e9 : Value.ref a = tr (adU ad n a fun _ => 0) (vR n) := by show _ = Value.ref (if n = n then a else _); rw [if_pos rfl]
  rw [e9]
  exact h1
theorem n_aast {q r N z z2 : Nat} {i : Int32} (hX : NOK Y X) (hq : gT q = some (4, N, z)) (hqn : q < n) (hi : ixOK i N = true) (hg : gRef q i.toNatClampNeg = some r) (hrn : r < n) (hrk : gT r = some (0, 3, z2)) (kk : PN l R Y n0 X cs is ls st n ((q, i.toNatClampNeg) :: rs) M) : PN l R Y n0 X cs ((pc, .aastore, 1) :: is) ls (vR r :: vI i :: vR q :: st) n rs M := by
  obtain ⟨p, e, s, m, args, below, meth, c, Q, sz, D, cy, ad0⟩ := X
  obtain ⟨x1, x2, x3, x4, x5, x6, x7, x8⟩ := hX
  refine ⟨by simp, fun ad H locs rl hs hA hH hS hl => ?_⟩
  have hc := suf_cok hs x6
  obtain ⟨j, hj, hkj⟩ := wlN_at (keysN_of hqn) cy ad rs M
  obtain ⟨j2, hj2, -⟩ := wlN_at (keysN_of hrn) cy ad rs M
  have hj : (wlN cy ad n rs M)[j]? = some (ad q 0, .inl (cy 3, N, .inr (.inr (.inr (.inr fun j => rfN ad rs q j))))) := by rw [hj]; exact congrArg (fun z => some (ad q 0, z)) (cEN_refs hq)
  have hj2 : (wlN cy ad n rs M)[j2]? = some (ad r 0, .inr (3, fldsN ad rs M r 3)) := by rw [hj2]; exact congrArg (fun z => some (ad r 0, z)) (cEN_obj hrk)
  have hup : va_up (fun j => rfN ad rs q j) i.toNatClampNeg (some (ad r 0)) = fun j => rfN ad ((q, i.toNatClampNeg) :: rs) q j := funext fun j => by
    rw [va_up_eq]
    by_cases e9 : j = i.toNatClampNeg
    · rw [if_pos e9, e9, rfN_eq hg]
    · rw [if_neg e9, rfN_ne (fun z => e9 z.2)]
  have hset : (wlN cy ad n rs M).set j (ad q 0, .inl (cy 3, N, .inr (.inr (.inr (.inr (va_up (fun j => rfN ad rs q j) i.toNatClampNeg (some (ad r 0)))))))) = wlN cy ad n ((q, i.toNatClampNeg) :: rs) M := wlN_set (κ := (q, 0)) hH.2.1 hkj (by show cEN cy ad _ M q 0 = _; rw [cEN_refs hq, hup]) (fun a b hab => cEN_same (fun h0 => ⟨fun _ => rfl, fun _ => rfl, rfl, rfl, fun k2 => mem_ne (fun e => hab (by rw [e.1, h0]))⟩) (fun _ _ => rfl))
  refine va_astq (r := (RX3, TX3, 13)) x1 x2 x7.1.1 hH.1 hH.2.1 hS j 3 j2 3 hj rfl hj2 rfl (ixOK_in hi) (COK.here hc) (fun H1 locs1 a1 a2 a3 => ?_)
  rw [hset] at a1 a2
  have h1 := kk.2 ad H1 locs1 rl (suf_next hs) hA ⟨a1, a2, hH.2.2.1, hH.2.2.2.cons hqn hg hrn⟩ a3 hl
  rw [COK.next hc kk.1] at h1
  exact h1
end NRows2
