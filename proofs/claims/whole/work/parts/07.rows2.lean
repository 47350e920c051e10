/-! fields and arrays -/
def clsOK (ci : Nat) (C : String) (T : u_T) (N : Nat) (ty : Nat → FieldType) : Prop := vwCl[ci]? = some (C, T, N) ∧ nF ci = N ∧ (∀ w ∈ u_ws C T N, w ∈ UW) ∧ (∀ k, k < N → parseFieldDescriptor (T k).2.2.1 = some (ty k)) ∧ (∀ a, a < N → ∀ b, b < N → a ≠ b → (T a).2.1 ≠ (T b).2.1)
/-- the pool's place ix of the class 'own' names the field k of the kind ci -/
def FOK (own : String) (ix ci k : Nat) (ty : FieldType) (fin : Bool) : Prop := ∃ (C : String) (T : u_T) (N : Nat) (ty0 : Nat → FieldType), clsOK ci C T N ty0 ∧ k < N ∧ ty0 k = ty ∧ (T k).2.2.2 = fin ∧ (Cond.fieldLink own ix (T k).1 (T k).2.1 (T k).2.2.1 ∈ UW ∨ ∃ host : String, Cond.fieldLinkNest own ix (T k).1 (T k).2.1 (T k).2.2.1 host ∈ NW)
theorem flds_at {ad : Nat → Nat → Nat} {M : PM} {q ci k : Nat} (hk : k < nF ci) : (flds ad M q ci)[k]? = some (fv ad M q k (ft ci k)) := by
  unfold flds
  rw [List.getElem?_map, List.getElem?_range hk]
  rfl
theorem flds_len (ad : Nat → Nat → Nat) (M : PM) (q ci : Nat) : (flds ad M q ci).length = nF ci := by
  unfold flds
  rw [List.length_map, List.length_range]
theorem flds_set {ad : Nat → Nat → Nat} {M M' : PM} {q ci k : Nat} {v : Value} (h : fv ad M' q k (ft ci k) = v) (ho : ∀ j, j ≠ k → fv ad M' q j (ft ci j) = fv ad M q j (ft ci j)) : (flds ad M q ci).set k v = flds ad M' q ci := by
  refine List.ext_getElem? fun j => ?_
  rw [List.getElem?_set, flds_len]
  by_cases hj : j < nF ci
  · rw [flds_at hj, flds_at hj]
    by_cases e : k = j
    · subst e
      rw [if_pos rfl, if_pos hj, h]
    · rw [if_neg e, ho j (fun z => e z.symm)]
  · have h1 : (flds ad M q ci)[j]? = none := List.getElem?_eq_none (by rw [flds_len]; omega)
    have h2 : (flds ad M' q ci)[j]? = none := List.getElem?_eq_none (by rw [flds_len]; omega)
    rw [h1, h2]
    by_cases e : k = j
    · subst e
      rw [if_pos rfl, if_neg hj]
    · rw [if_neg e]
theorem flds_same {ad : Nat → Nat → Nat} {M M' : PM} {q ci : Nat} (ho : ∀ j t, fv ad M' q j t = fv ad M q j t) : flds ad M' q ci = flds ad M q ci := by
  unfold flds
  exact List.map_congr_left fun j _ => ho j _
theorem u2_ne {α : Type} {f : Nat → Nat → α} {q k a b : Nat} {x : α} (h : ¬ (a = q ∧ b = k)) : u2 f q k x a b = f a b := by
  unfold u2
  by_cases hb : b = k
  · rw [if_pos hb, if_neg (fun e => h ⟨e, hb⟩)]
  · rw [if_neg hb]
theorem u2_eq {α : Type} {f : Nat → Nat → α} {q k : Nat} {x : α} : u2 f q k x q k = x := by
  unfold u2
  rw [if_pos rfl, if_pos rfl]
theorem u1_ne {α : Type} {f : Nat → α} {q a : Nat} {x : α} (h : a ≠ q) : u1 f q x a = f a := if_neg h
theorem u1_eq {α : Type} {f : Nat → α} {q : Nat} {x : α} : u1 f q x q = x := if_pos rfl
/-- what a change of some cells leaves: objects by their fields, arrays by their contents -/
theorem cE_same {cy : Nat → ClassId} {ad : Nat → Nat → Nat} {M M' : PM} {q i : Nat} (h0 : i = 0 → (∀ k, M'.1 q k = M.1 q k) ∧ (∀ k, M'.2.1 q k = M.2.1 q k) ∧ M'.2.2.1 q = M.2.2.1 q ∧ M'.2.2.2.1 q = M.2.2.2.1 q) (h1 : ∀ j, i = j + 1 → M'.2.2.2.2 q j = M.2.2.2.2 q j) : cE cy ad M' q i = cE cy ad M q i := by
  cases i with
  | succ j =>
    show cE1 cy M' q j (gT q) = cE1 cy M q j (gT q)
    cases hg : gT q with
    | none => rfl
    | some t =>
      obtain ⟨a, b, c⟩ := t
      match a with
      | 0 | 1 | 2 | 3 | 4 => rfl
      | 5 => show Sum.inl (cy 0, c, Sum.inl (M'.2.2.2.2 q j)) = Sum.inl (cy 0, c, Sum.inl (M.2.2.2.2 q j)); rw [h1 j rfl]
      | n + 6 => rfl
  | zero =>
    obtain ⟨g1, g2, g3, g4⟩ := h0 rfl
    show cE0 cy ad M' q (gT q) = cE0 cy ad M q (gT q)
    cases hg : gT q with
    | none => rfl
    | some t =>
      obtain ⟨a, b, c⟩ := t
      match a with
      | 0 => show Sum.inr (b, flds ad M' q b) = Sum.inr (b, flds ad M q b); rw [flds_same (M := M) (M' := M') (fun j t => by unfold fv; rw [g1, g2])]
      | 1 => show Sum.inl (cy 0, b, Sum.inl (M'.2.2.1 q)) = Sum.inl (cy 0, b, Sum.inl (M.2.2.1 q)); rw [g3]
      | 2 => show Sum.inl (cy 1, b, Sum.inr (Sum.inl (M'.2.2.2.1 q))) = Sum.inl (cy 1, b, Sum.inr (Sum.inl (M.2.2.2.1 q))); rw [g4]
      | 3 => show Sum.inl (cy 2, b, Sum.inl (M'.2.2.1 q)) = Sum.inl (cy 2, b, Sum.inl (M.2.2.1 q)); rw [g3]
      | 4 | 5 => rfl
      | n + 6 => rfl
theorem cE_obj {cy : Nat → ClassId} {ad : Nat → Nat → Nat} {M : PM} {q ci z : Nat} (h : gT q = some (0, ci, z)) : cE cy ad M q 0 = .inr (ci, flds ad M q ci) := by
  show cE0 cy ad M q (gT q) = _
  rw [h]
  rfl
theorem cE_int {cy : Nat → ClassId} {ad : Nat → Nat → Nat} {M : PM} {q n z : Nat} (h : gT q = some (1, n, z)) : cE cy ad M q 0 = .inl (cy 0, n, .inl (M.2.2.1 q)) := by
  show cE0 cy ad M q (gT q) = _
  rw [h]
  rfl
theorem cE_long {cy : Nat → ClassId} {ad : Nat → Nat → Nat} {M : PM} {q n z : Nat} (h : gT q = some (2, n, z)) : cE cy ad M q 0 = .inl (cy 1, n, .inr (.inl (M.2.2.2.1 q))) := by
  show cE0 cy ad M q (gT q) = _
  rw [h]
  rfl
theorem cE_bool {cy : Nat → ClassId} {ad : Nat → Nat → Nat} {M : PM} {q n z : Nat} (h : gT q = some (3, n, z)) : cE cy ad M q 0 = .inl (cy 2, n, .inl (M.2.2.1 q)) := by
  show cE0 cy ad M q (gT q) = _
  rw [h]
  rfl
theorem cE_refs {cy : Nat → ClassId} {ad : Nat → Nat → Nat} {M : PM} {q n z : Nat} (h : gT q = some (4, n, z)) : cE cy ad M q 0 = .inl (cy 3, n, .inr (.inr (.inr (.inr fun j => (gRef q j).map fun r => ad r 0)))) := by
  show cE0 cy ad M q (gT q) = _
  rw [h]
  rfl
theorem cE_grid {cy : Nat → ClassId} {ad : Nat → Nat → Nat} {M : PM} {q n z : Nat} (h : gT q = some (5, n, z)) : cE cy ad M q 0 = .inl (cy 4, n, .inr (.inr (.inr (.inr fun j => if j < n then some (ad q (j + 1)) else none)))) := by
  show cE0 cy ad M q (gT q) = _
  rw [h]
  rfl
theorem cE_row {cy : Nat → ClassId} {ad : Nat → Nat → Nat} {M : PM} {q i n k : Nat} (h : gT q = some (5, n, k)) : cE cy ad M q (i + 1) = .inl (cy 0, k, .inl (M.2.2.2.2 q i)) := by
  show cE1 cy M q i (gT q) = _
  rw [h]
  rfl
theorem p_get {l : Launch} {d : Nat} {Y : MD} {pc : Nat} {is : List CI} {ls st : List PV} {M : PM} {r : PR} {ix ci k q z : Nat} {ty : FieldType} {fin : Bool} (F : FOK Y.1.cls ix ci k ty fin) (hq : gT q = some (0, ci, z)) {v : PV} (hv : ∀ ad, fv ad M q k (ft ci k) = tr ad v) (kk : PW l d Y is ls (v :: st) M r) : PW l d Y ((pc, .getfield ix, 3) :: is) ls (vR q :: st) M r := by
  obtain ⟨C, T, N, ty0, ⟨f1, f2, f3, f4, f5⟩, f6, f7, f8, f9⟩ := F
  refine ⟨by simp, fun p e R s m args below meth c sz D cy ad H locs rl hC hs hK hH hS hl => ?_⟩
  have hc := suf_cok hs hC.2.2.2.2.2.2.2.2.2.2.2.2.2
  have h1 := kk.2 p e R s m args below meth c sz D cy ad H locs rl hC (suf_next hs) hK hH hS hl
  rw [COK.next hc kk.1] at h1
  obtain ⟨i, hi, -⟩ := wl_at (key0 hq) cy ad M
  have hi : (wl cy ad M)[i]? = some (ad q 0, .inr (ci, flds ad M q ci)) := by rw [hi]; exact congrArg (fun z => some (ad q 0, z)) (cE_obj hq)
  have hfv : (flds ad M q ci)[k]? = some (tr ad v) := by rw [flds_at (by rw [f2]; exact f6), hv ad]
  have hts := hC.2.2.2.2.2.2.2.2.1
  rcases f9 with f9 | ⟨host, f9⟩
  · exact va_get (D := D) (C := C) (T := T) (N := N) (Ts := wsY Y) (ref := (T k).1) hC.2.1 hC.2.2.1 hts (fun w hw => List.mem_cons_of_mem _ (f3 w hw)) hC.2.2.2.2.2.1 hK.1 hH.1 i hi f1 k f6 (hts _ (List.mem_cons_of_mem _ f9)) (fun _ h => h) hfv (COK.here hc) h1
  · exact va_getN (D := D) (C := C) (T := T) (N := N) (Ts := wsY Y) (ref := (T k).1) hC.2.1 hC.2.2.1 hts (fun w hw => List.mem_cons_of_mem _ (f3 w hw)) hC.2.2.2.2.2.1 hK.1 hH.1 i hi f1 k f6 (NW_use f9 (hK.2.1 _ f9)) (fun _ h => h) hfv (COK.here hc) h1
theorem p_getI {l : Launch} {d : Nat} {Y : MD} {pc : Nat} {is : List CI} {ls st : List PV} {M : PM} {r : PR} {ix ci k q z : Nat} {fin : Bool} (F : FOK Y.1.cls ix ci k .int fin) (hq : gT q = some (0, ci, z)) (ht : ft ci k = 0) (kk : PW l d Y is ls (vI (mI M q k) :: st) M r) : PW l d Y ((pc, .getfield ix, 3) :: is) ls (vR q :: st) M r := p_get F hq (fun ad => by rw [ht]; rfl) kk
theorem p_getZ {l : Launch} {d : Nat} {Y : MD} {pc : Nat} {is : List CI} {ls st : List PV} {M : PM} {r : PR} {ix ci k q z : Nat} {fin : Bool} (F : FOK Y.1.cls ix ci k .boolean fin) (hq : gT q = some (0, ci, z)) (ht : ft ci k = 3) (kk : PW l d Y is ls (vI (mI M q k) :: st) M r) : PW l d Y ((pc, .getfield ix, 3) :: is) ls (vR q :: st) M r := p_get F hq (fun ad => by rw [ht]; rfl) kk
theorem p_getJ {l : Launch} {d : Nat} {Y : MD} {pc : Nat} {is : List CI} {ls st : List PV} {M : PM} {r : PR} {ix ci k q z : Nat} {fin : Bool} (F : FOK Y.1.cls ix ci k .long fin) (hq : gT q = some (0, ci, z)) (ht : ft ci k = 1) (kk : PW l d Y is ls (vJ (mJ M q k) :: st) M r) : PW l d Y ((pc, .getfield ix, 3) :: is) ls (vR q :: st) M r := p_get F hq (fun ad => by rw [ht]; rfl) kk
theorem p_getR {l : Launch} {d : Nat} {Y : MD} {pc : Nat} {is : List CI} {ls st : List PV} {M : PM} {r : PR} {ix ci k q q2 z : Nat} {ty : FieldType} {fin : Bool} (F : FOK Y.1.cls ix ci k ty fin) (hq : gT q = some (0, ci, z)) (ht : ft ci k = 2) (hr : gRef q k = some q2) (kk : PW l d Y is ls (vR q2 :: st) M r) : PW l d Y ((pc, .getfield ix, 3) :: is) ls (vR q :: st) M r := p_get F hq (fun ad => by rw [ht]; show va_rf ((gRef q k).map _) = _; rw [hr]; rfl) kk
theorem p_put {l : Launch} {d : Nat} {Y : MD} {pc : Nat} {is : List CI} {ls st : List PV} {M M' : PM} {r : PR} {ix ci k q z : Nat} {ty : FieldType} {v : PV} (F : FOK Y.1.cls ix ci k ty false) (hq : gT q = some (0, ci, z)) (hn : ∀ ad, narrow ty (tr ad v) = tr ad v ∧ fits ty (tr ad v) = true) (hv : ∀ ad, fv ad M' q k (ft ci k) = tr ad v) (ho : ∀ ad j, j ≠ k → fv ad M' q j (ft ci j) = fv ad M q j (ft ci j)) (hs' : ∀ cy ad a i, (a, i) ≠ (q, 0) → cE cy ad M' a i = cE cy ad M a i)
    (kk : PW l d Y is ls st M' r) : PW l d Y ((pc, .putfield ix, 3) :: is) ls (v :: vR q :: st) M r := by
  obtain ⟨C, T, N, ty0, ⟨f1, f2, f3, f4, f5⟩, f6, f7, f8, f9⟩ := F
  refine ⟨by simp, fun p e R s m args below meth c sz D cy ad H locs rl hC hs hK hH hS hl => ?_⟩
  have hc := suf_cok hs hC.2.2.2.2.2.2.2.2.2.2.2.2.2
  obtain ⟨i, hi, hki⟩ := wl_at (key0 hq) cy ad M
  have hi : (wl cy ad M)[i]? = some (ad q 0, .inr (ci, flds ad M q ci)) := by rw [hi]; exact congrArg (fun z => some (ad q 0, z)) (cE_obj hq)
  have hset : (wl cy ad M).set i (ad q 0, .inr (ci, (flds ad M q ci).set k (tr ad v))) = wl cy ad M' := wl_set (κ := (q, 0)) (M' := M') hH.2 hki (by show cE cy ad M' q 0 = _; rw [cE_obj hq, flds_set (hv ad) (ho ad)]) (fun a b hab => hs' cy ad a b hab)
  have hts := hC.2.2.2.2.2.2.2.2.1
  have hd : parseFieldDescriptor (T k).2.2.1 = some ty := by rw [f4 k f6, f7]
  have go : ∀ (H1 : Heap) (locs1 : List Loc), va_P D vwCl ((wl cy ad M).set i (ad q 0, .inr (ci, (flds ad M q ci).set k (tr ad v)))) H1 → va_D (fun q => sz ≤ q) ((wl cy ad M).set i (ad q 0, .inr (ci, (flds ad M q ci).set k (tr ad v)))) → va_S (fun q => sz ≤ q) s.heap H1 locs1 → W p l e R s m args below meth c H1 locs1 0 0 (vx_MQ below (QcR sz D cy ad r) (XcR sz D cy ad r) args s (mcR r) (msR r) (fun q => sz ≤ q)) (F0 m (pc + 3) rl (st.map (tr ad))) := fun H1 locs1 a1 a2 a3 => by
    rw [hset] at a1 a2
    have h1 := kk.2 p e R s m args below meth c sz D cy ad H1 locs1 rl hC (suf_next hs) hK ⟨a1, a2⟩ a3 hl
    rw [COK.next hc kk.1] at h1
    exact h1
  rcases f9 with f9 | ⟨host, f9⟩
  · exact va_put (D := D) (C := C) (T := T) (N := N) (Ts := wsY Y) (ref := (T k).1) hC.2.1 hC.2.2.1 hts (fun w hw => List.mem_cons_of_mem _ (f3 w hw)) ty0 f4 f5 hC.2.2.2.2.2.1 hK.1 hH.1 hH.2 hS i hi f1 k f6 (hts _ (List.mem_cons_of_mem _ f9)) (fun _ h => h) f8 hd (hn ad).1 (hn ad).2 (by rw [flds_len, f2]; exact f6) (COK.here hc) go
  · exact va_putN (D := D) (C := C) (T := T) (N := N) (Ts := wsY Y) (ref := (T k).1) hC.2.1 hC.2.2.1 hts (fun w hw => List.mem_cons_of_mem _ (f3 w hw)) ty0 f4 f5 hC.2.2.2.2.2.1 hK.1 hH.1 hH.2 hS i hi f1 k f6 (NW_use f9 (hK.2.1 _ f9)) (fun _ h => h) f8 hd (hn ad).1 (hn ad).2 (by rw [flds_len, f2]; exact f6) (COK.here hc) go
theorem p_putI {l : Launch} {d : Nat} {Y : MD} {pc : Nat} {is : List CI} {ls st : List PV} {M : PM} {r : PR} {ix ci k q z : Nat} {x : Int32} (F : FOK Y.1.cls ix ci k .int false) (hq : gT q = some (0, ci, z)) (ht : ft ci k = 0) (kk : PW l d Y is ls st (sI M q k x) r) : PW l d Y ((pc, .putfield ix, 3) :: is) ls (vI x :: vR q :: st) M r := by
  refine p_put (M' := sI M q k x) F hq (fun ad => ⟨rfl, rfl⟩) (fun ad => ?_) (fun ad j hj => ?_) (fun cy ad a i hai => cE_same (fun h0 => ⟨fun k2 => u2_ne (fun e => hai (by rw [e.1, h0])), fun _ => rfl, rfl, rfl⟩) (fun _ _ => rfl)) kk
  · rw [ht]
    show Value.int (u2 M.1 q k x q k) = _
    rw [u2_eq]
    rfl
  · unfold fv
    show (if _ then _ else if _ then _ else Value.int (u2 M.1 q k x q j)) = _
    rw [u2_ne (fun e => hj e.2)]
    rfl
theorem p_putZ {l : Launch} {d : Nat} {Y : MD} {pc : Nat} {is : List CI} {ls st : List PV} {M : PM} {r : PR} {ix ci k q z : Nat} {x : Int32} {X : Option PR} (F : FOK Y.1.cls ix ci k .boolean false) (hq : gT q = some (0, ci, z)) (ht : ft ci k = 3) (h : (if x &&& 1 = x then X else none) = some r) (kk : X = some r → PW l d Y is ls st (sI M q k x) r) : PW l d Y ((pc, .putfield ix, 3) :: is) ls (vI x :: vR q :: st) M r := by
  by_cases hx : x &&& 1 = x
  · rw [if_pos hx] at h
    have hnz : narrow .boolean (.int x) = .int x := by show Value.int (x &&& 1) = _; rw [hx]
    have hfz : fits .boolean (.int x) = true := by
      obtain ⟨j, hj, ej⟩ := pk_andE x (m := 1) 1 rfl
      rw [hx] at ej
      rcases (show j = 0 ∨ j = 1 by omega) with e | e <;> subst e <;> subst ej <;> decide
    refine p_put (M' := sI M q k x) F hq (fun ad => ⟨hnz, hfz⟩) (fun ad => ?_) (fun ad j hj => ?_) (fun cy ad a i hai => cE_same (fun h0 => ⟨fun k2 => u2_ne (fun e => hai (by rw [e.1, h0])), fun _ => rfl, rfl, rfl⟩) (fun _ _ => rfl)) (kk h)
    · rw [ht]
      show Value.int (u2 M.1 q k x q k) = _
      rw [u2_eq]
      rfl
    · unfold fv
      show (if _ then _ else if _ then _ else Value.int (u2 M.1 q k x q j)) = _
      rw [u2_ne (fun e => hj e.2)]
      rfl
  · rw [if_neg hx] at h; cases h
theorem p_putJ {l : Launch} {d : Nat} {Y : MD} {pc : Nat} {is : List CI} {ls st : List PV} {M : PM} {r : PR} {ix ci k q z : Nat} {x : Int64} (F : FOK Y.1.cls ix ci k .long false) (hq : gT q = some (0, ci, z)) (ht : ft ci k = 1) (kk : PW l d Y is ls st (sJ M q k x) r) : PW l d Y ((pc, .putfield ix, 3) :: is) ls (vJ x :: vR q :: st) M r := by
  refine p_put (M' := sJ M q k x) F hq (fun ad => ⟨rfl, rfl⟩) (fun ad => ?_) (fun ad j hj => ?_) (fun cy ad a i hai => cE_same (fun h0 => ⟨fun _ => rfl, fun k2 => u2_ne (fun e => hai (by rw [e.1, h0])), rfl, rfl⟩) (fun _ _ => rfl)) kk
  · rw [ht]
    show Value.long (u2 M.2.1 q k x q k) = _
    rw [u2_eq]
    rfl
  · unfold fv
    show (if _ then Value.long (u2 M.2.1 q k x q j) else _) = _
    rw [u2_ne (fun e => hj e.2)]
    rfl
