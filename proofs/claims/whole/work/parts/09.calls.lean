/-! calls, entries, throws, switches -/
/-- the method Y, called with these values in the memory M, comes to the result r; its calls nest d deep -/
def PC (l : Launch) (d : Nat) (Y : MD) (av : List PV) (M : PM) (r : PR) : Prop := ∀ (sz : Nat) (D : va_G) (cy : Nat → ClassId) (ad : Nat → Nat → Nat),
  vx_Met l Y.1 (wsY Y) { frames := d, cells := mcR r, slots := msR r, locals := 64 * d } (va_Pc (av.map (tr ad)) (fun U => Kx sz D cy ad U ∧ WH sz D cy ad M U.heap)) (QcR sz D cy ad r) (XcR sz D cy ad r) (mcR r) (msR r) (fun q => sz ≤ q)
theorem Kx.blind {sz : Nat} {D : va_G} {cy : Nat → ClassId} {ad : Nat → Nat → Nat} {av : List Value} {M : PM} : FrameBlind (va_Pc av (fun U => Kx sz D cy ad U ∧ WH sz D cy ad M U.heap)) := fun a U g mk h =>
  ⟨h.1, Kx.on h.2.1 (State.WarmedH.refl U : U.WarmedH (U.calling g mk a).vm) (Nat.le_refl _) (fun _ _ _ => rfl), h.2.2⟩
/-- what the tables say of a method -/
def MOK (Y : MD) (n : Nat) : Prop := Cond.code Y.1 Y.2.1 Y.2.2.1 Y.2.2.2.1 ∈ UW ∧ Cond.initialized Y.1.cls ∈ UW ∧ Y.1.cls ≠ "java/lang/invoke/MethodHandle" ∧ Y.1.cls ≠ "java/lang/invoke/VarHandle" ∧ (parseMethodDescriptor Y.1.desc).map (fun d => d.parameters.length) = some n ∧ Y.2.2.1 ≤ 40
def INST (Y : MD) : Prop := Cond.instanceMethod Y.1 ∈ UW ∧ Cond.selects Y.1.cls Y.1 Y.1 ∈ UW
def STAT (Y : MD) : Prop := Cond.static Y.1 ∈ UW
/-- the pool's place names the method -/
def LNK (own : String) (ix : Nat) (Y : MD) : Prop := Cond.methodLink own ix Y.1 ∈ UW
def LNN (own : String) (ix : Nat) (Y : MD) : Prop := ∃ host : String, Cond.methodLinkNest own ix Y.1 host ∈ NW
theorem wsY_good (Y Y2 : MD) {n : Nat} (h : MOK Y2 n) : GoodIn (wsY Y) (wsY Y2) := fun w hw => by
  rcases List.mem_cons.mp hw with e | e
  · subst e
    exact ⟨List.mem_cons_of_mem _ h.1, good_of_word (UW_good h.1)⟩
  · exact ⟨List.mem_cons_of_mem _ e, good_of_word (UW_good e)⟩
theorem vx_toMet {l : Launch} {y : MethodName} {ws : List Cond} {rm : Room} {Pc : Array Value → State → Prop} {Qc : Array Value → State → Outcome → State → Prop} {XC : String → State → State → Prop} {mc ms : Nat} {free : Addr → Prop} (h : vx_Met l y ws rm Pc Qc XC mc ms free) (hX : ∀ E st t, ¬ XC E st t) : Met l y ws rm Pc Qc mc ms free := by
  intro p e ha hc hk s m args below hf happ hP hK
  obtain ⟨n, o, a1, a2, a3, a4⟩ := h p e ha hc hk s m args below hf happ hP hK
  refine ⟨n, o, a1, a2, a3, ?_⟩
  rcases a4 with a4 | ⟨q, -, E, ce, L, hx, -⟩
  · exact a4
  · exact absurd hx (hX _ _ _)
section Calls
variable {l : Launch} {d d2 : Nat} {Y Y2 : MD} {pc n ix : Nat} {is : List CI} {ls st : List PV} {M : PM} {r r1 : PR}
/-- behind a call that comes back -/
theorem W.back {p : Program} {e : Env} {R : Room} {s : State} {m : MethodId} {args : Array Value} {below : List Frame} {meth : Method} {c : Code} {H : Heap} {locs : List Loc} {Q : State → Prop} {rl : Array Slot} {st0 rest : List Value} {a : Array Value} {sz : Nat} {D : va_G} {cy : Nat → ClassId} {ad : Nat → Nat → Nat} {v : Option Value} {M1 : PM}
    (hr : va_Run p l e R s m args below meth c H locs 0 0 0 0 (F0 m pc rl st0) rest (QcR sz D cy ad (.inl v, M1) a) (fun q => sz ≤ q)) (hS : va_S (fun q => sz ≤ q) s.heap H locs)
    (kk : ∀ (H1 : Heap) (locs1 : List Loc), WH sz D cy ad M1 H1 → va_S (fun q => sz ≤ q) s.heap H1 locs1 → W p l e R s m args below meth c H1 locs1 0 0 Q (F0 m (pc + 3) rl (v.toList ++ rest))) : W p l e R s m args below meth c H locs 0 0 Q (F0 m pc rl st0) := by
  intro T hT X
  obtain ⟨v9, st₀, t, T', L, h0, X', hL, e1, e2, ⟨v2, hv2, hv3, hw, hz, hk⟩, stp⟩ := hr T hT X
  cases hv2
  cases hv3
  rw [h0] at hz hk
  obtain ⟨t2, a1, b1⟩ := kk T'.heap (locs ++ L) (by rw [e1]; exact hw) ⟨Nat.le_trans hS.1 (by rw [e1]; exact hz), fun q h1 h2 => by rw [e1, hk q (Nat.lt_of_lt_of_le h1 hS.1) h2]; exact hS.2.1 q h1 h2, fun q hq => by
      rcases List.mem_append.mp hq with h | h
      · exact hS.2.2 q h
      · exact hL q h⟩ T' rfl X'
  exact ⟨t2, stp t2 a1, b1⟩
/-- the kinds of calls: 0 virtual, 1 virtual of a nest mate, 2 static, 3 static of a nest mate -/
def CALL (own : String) (i : Instr) (Y2 : MD) (n : Nat) (av : List PV) : Prop := MOK Y2 n ∧
  ((∃ (ix q ci z : Nat) (as : List PV), i = .invokevirtual ix ∧ av = vR q :: as ∧ as.length = n ∧ gT q = some (0, ci, z) ∧ (vwCl[ci]?).map (fun x => x.1) = some Y2.1.cls ∧ INST Y2 ∧ (LNK own ix Y2 ∨ LNN own ix Y2)) ∨
   (∃ ix : Nat, i = .invokestatic ix ∧ av.length = n ∧ STAT Y2 ∧ (LNK own ix Y2 ∨ LNN own ix Y2)))
theorem PW.call {i : Instr} {av : List PV} {v : Option Value} {M1 : PM} (hc : CALL Y.1.cls i Y2 n av) (hd : d2 + 1 ≤ d) (hst : catS st ≤ 8) (hM : PC l d2 Y2 av M (.inl v, M1)) {st1 : List PV} (hv : ∀ ad, v.toList ++ st.map (tr ad) = st1.map (tr ad)) (kk : PW l d Y is ls st1 M1 r) : PW l d Y ((pc, i, 3) :: is) ls (av.reverse ++ st) M r := by
  obtain ⟨hm, hc⟩ := hc
  refine ⟨by simp, fun p e R s m args below meth c sz D cy ad H locs rl hC hs hK hH hS hl => ?_⟩
  have hco := suf_cok hs hC.2.2.2.2.2.2.2.2.2.2.2.2.2
  have hts := hC.2.2.2.2.2.2.2.2.1
  have hfr := hC.2.2.2.2.2.2.2.2.2.1
  have hlo := hC.2.2.2.2.2.2.2.2.2.2.1
  have hMet := vx_toMet (hM sz D cy ad) (fun E st t h => by have := h.1; cases this)
  have hgo : ∀ (H1 : Heap) (locs1 : List Loc), WH sz D cy ad M1 H1 → va_S (fun q => sz ≤ q) s.heap H1 locs1 → W p l e R s m args below meth c H1 locs1 0 0 (vx_MQ below (QcR sz D cy ad r) (XcR sz D cy ad r) args s (mcR r) (msR r) (fun q => sz ≤ q)) (F0 m (pc + 3) rl (v.toList ++ st.map (tr ad))) := fun H1 locs1 a1 a2 => by
    have h1 := kk.2 p e R s m args below meth c sz D cy ad H1 locs1 rl hC (suf_next hs) hK a1 a2 hl
    rw [COK.next hco kk.1] at h1
    rw [hv ad]
    exact h1
  have hW8 : 2 * (F0 m pc rl ((av.reverse ++ st).map (tr ad))).monitorRoom + ((st.map (tr ad)).map fun v => v.category).sum ≤ 8 := by
    rw [catS_tr]
    show 2 * 0 + catS st ≤ 8
    omega
  have hpre : ∀ U : State, U.heap = H → s.WarmedH U.vm → va_Pc (av.map (tr ad)) (fun U => Kx sz D cy ad U ∧ WH sz D cy ad M U.heap) (av.map (tr ad)).toArray U := fun U hU hWm =>
    ⟨rfl, Kx.on hK hWm (by rw [hU]; exact hS.1) (fun a h1 h2 => by rw [hU]; exact hS.2.1 a h1 h2), by rw [hU]; exact hH⟩
  have hRm : (64 * d2 + 0 : Nat) + (8 + (Y2.2.2.1 + 11)) ≤ R.locals := by have := hm.2.2.2.2.2; omega
  have fix : CallFix p m c Y.2.1 Y.2.2.1 s args (wsY Y) Y.1.cls := ⟨hC.2.1, hC.2.2.1, hC.2.2.2.2.1, hC.2.2.2.2.2.1, hts⟩
  have stw : (st.map (tr ad)).length = st.length := List.length_map _
  rcases hc with ⟨ix, q, ci, z, as, rfl, rfl, hn, hq, hcl, hin, hlk⟩ | ⟨ix, rfl, hn, hstt, hlk⟩
  · obtain ⟨x, hx, hx1⟩ := Option.map_eq_some_iff.mp hcl
    obtain ⟨j, hj, -⟩ := wl_at (key0 hq) cy ad M
    have hj : (wl cy ad M)[j]? = some (ad q 0, .inr (ci, flds ad M q ci)) := by rw [hj]; exact congrArg (fun z => some (ad q 0, z)) (cE_obj hq)
    have hrecv := va_recv hK.1 hH.1 hx hj
    rw [hx1] at hrecv
    have hstack : ((vR q :: as).reverse ++ st).map (tr ad) = (as.map (tr ad)).reverse ++ .ref (ad q 0) :: st.map (tr ad) := by
      simp [List.map_append, List.map_reverse, tr]
    rcases hlk with hlk | ⟨host, hlk⟩
    · refine W.back (va_runV (As := as.map (tr ad)) (b := ad q 0) (rest := st.map (tr ad)) (C := Y2.1.cls) fix hMet (cwV n hts (fun w hw => ?_) rfl rfl rfl ⟨rfl, hm.2.2.1, hm.2.2.2.1, hm.2.2.2.2.1⟩ ⟨by show d2 + 1 ≤ R.frames; omega, by show 8 + (Y2.2.2.1 + 11) + 64 * d2 ≤ R.locals; omega⟩) ⟨Kx.blind, hrecv, hpre⟩ rfl (by rw [List.length_map]; exact hn) hl.1 hstack hW8 (COK.here hco) ⟨Nat.zero_le _, Nat.zero_le _⟩) hS hgo
      rcases List.mem_append.mp hw with hw | hw
      · simp only [List.mem_cons, List.not_mem_nil, or_false] at hw
        rcases hw with rfl | rfl | rfl | rfl
        · exact ⟨List.mem_cons_of_mem _ hlk, good_of_word (UW_good hlk)⟩
        · exact ⟨List.mem_cons_of_mem _ hin.1, good_of_word (UW_good hin.1)⟩
        · exact ⟨List.mem_cons_of_mem _ hin.2, good_of_word (UW_good hin.2)⟩
        · exact ⟨List.mem_cons_of_mem _ hm.2.1, good_of_word (UW_good hm.2.1)⟩
      · exact wsY_good Y Y2 hm w hw
    · exact W.back (va_runVN (As := as.map (tr ad)) (b := ad q 0) (rest := st.map (tr ad)) (C := Y2.1.cls) fix hMet ⟨va_cnB n hts (wsY_good Y Y2 hm) rfl rfl rfl (hK.2.1 _ hlk) (hts _ (List.mem_cons_of_mem _ hm.2.1)) ⟨hm.2.2.1, hm.2.2.2.1, hm.2.2.2.2.1⟩ ⟨by show d2 + 1 ≤ R.frames; omega, by show 8 + (Y2.2.2.1 + 11) + 64 * d2 ≤ R.locals; omega⟩, hts _ (List.mem_cons_of_mem _ hin.1), hts _ (List.mem_cons_of_mem _ hin.2)⟩ ⟨Kx.blind, hrecv, hpre⟩ rfl (by rw [List.length_map]; exact hn) hl.1 hstack hW8 (COK.here hco) ⟨Nat.zero_le _, Nat.zero_le _⟩) hS hgo
  · have hstack : (av.reverse ++ st).map (tr ad) = (av.map (tr ad)).reverse ++ st.map (tr ad) := by
      simp [List.map_append, List.map_reverse]
    rcases hlk with hlk | ⟨host, hlk⟩
    · exact W.back (va_runS (As := av.map (tr ad)) (rest := st.map (tr ad)) fix hMet ⟨callB_of n hts (wsY_good Y Y2 hm) rfl rfl rfl (hts _ (List.mem_cons_of_mem _ hm.2.1)) (hts _ (List.mem_cons_of_mem _ hlk)) ⟨hm.2.2.1, hm.2.2.2.1, hm.2.2.2.2.1⟩ ⟨by show d2 + 1 ≤ R.frames; omega, by show 8 + (Y2.2.2.1 + 11) + 64 * d2 ≤ R.locals; omega⟩, hts _ (List.mem_cons_of_mem _ hstt)⟩ ⟨Kx.blind, hpre⟩ rfl (by rw [List.length_map]; exact hn) hl.1 hstack hW8 (COK.here hco) ⟨Nat.zero_le _, Nat.zero_le _⟩) hS hgo
    · exact W.back (va_runSN (As := av.map (tr ad)) (rest := st.map (tr ad)) fix hMet ⟨va_cnB n hts (wsY_good Y Y2 hm) rfl rfl rfl (hK.2.1 _ hlk) (hts _ (List.mem_cons_of_mem _ hm.2.1)) ⟨hm.2.2.1, hm.2.2.2.1, hm.2.2.2.2.1⟩ ⟨by show d2 + 1 ≤ R.frames; omega, by show 8 + (Y2.2.2.1 + 11) + 64 * d2 ≤ R.locals; omega⟩, hts _ (List.mem_cons_of_mem _ hstt), trivial⟩ ⟨Kx.blind, hpre⟩ rfl (by rw [List.length_map]; exact hn) hl.1 hstack hW8 (COK.here hco) ⟨Nat.zero_le _, Nat.zero_le _⟩) hS hgo
/-- what a caller does with an answer -/
def cI (f : Option PR) (k : Int32 → PM → Option PR) : Option PR := match f with
  | some (.inl (some (.int x)), M) => k x M
  | _ => none
def cJ (f : Option PR) (k : Int64 → PM → Option PR) : Option PR := match f with
  | some (.inl (some (.long x)), M) => k x M
  | _ => none
def cV (f : Option PR) (k : PM → Option PR) : Option PR := match f with
  | some (.inl none, M) => k M
  | _ => none
theorem p_cI {i : Instr} {av : List PV} {f : Option PR} {k : Int32 → PM → Option PR} {st0 : List PV} (hc : CALL Y.1.cls i Y2 n av) (hd : d2 + 1 ≤ d) (hst : catS st ≤ 8) (hs : st0 = av.reverse ++ st) (hM : ∀ r1, f = some r1 → PC l d2 Y2 av M r1) (h : cI f k = some r) (kk : ∀ x M1, k x M1 = some r → PW l d Y is ls (vI x :: st) M1 r) : PW l d Y ((pc, i, 3) :: is) ls st0 M r := by
  subst hs
  unfold cI at h
  split at h
  · rename_i x M1
    exact PW.call hc hd hst (hM _ rfl) (st1 := vI x :: st) (fun ad => rfl) (kk x M1 h)
  · cases h
theorem p_cJ {i : Instr} {av : List PV} {f : Option PR} {k : Int64 → PM → Option PR} {st0 : List PV} (hc : CALL Y.1.cls i Y2 n av) (hd : d2 + 1 ≤ d) (hst : catS st ≤ 8) (hs : st0 = av.reverse ++ st) (hM : ∀ r1, f = some r1 → PC l d2 Y2 av M r1) (h : cJ f k = some r) (kk : ∀ x M1, k x M1 = some r → PW l d Y is ls (vJ x :: st) M1 r) : PW l d Y ((pc, i, 3) :: is) ls st0 M r := by
  subst hs
  unfold cJ at h
  split at h
  · rename_i x M1
    exact PW.call hc hd hst (hM _ rfl) (st1 := vJ x :: st) (fun ad => rfl) (kk x M1 h)
  · cases h
theorem p_cV {i : Instr} {av : List PV} {f : Option PR} {k : PM → Option PR} {st0 : List PV} (hc : CALL Y.1.cls i Y2 n av) (hd : d2 + 1 ≤ d) (hst : catS st ≤ 8) (hs : st0 = av.reverse ++ st) (hM : ∀ r1, f = some r1 → PC l d2 Y2 av M r1) (h : cV f k = some r) (kk : ∀ M1, k M1 = some r → PW l d Y is ls st M1 r) : PW l d Y ((pc, i, 3) :: is) ls st0 M r := by
  subst hs
  unfold cV at h
  split at h
  · rename_i M1
    exact PW.call hc hd hst (hM _ rfl) (st1 := st) (fun ad => rfl) (kk M1 h)
  · cases h
end Calls
/-! the entry -/
def enA : List PV → List PV
  | [] => []
  | v :: vs => if cat2 v then v :: jk :: enA vs else v :: enA vs
def enL (n : Nat) (av : List PV) : List PV := enA av ++ List.replicate (n - (enA av).length) jk
theorem enA_at (ad : Nat → Nat → Nat) : ∀ (av : List PV) (off i : Nat) (v : PV), (enA av)[i]? = some v → v ≠ jk → (off + i, tr ad v) ∈ lv_args off (av.map (tr ad))
  | [], _, _, _, h, _ => by simp [enA] at h
  | w :: vs, off, i, v, h, hv => by
    by_cases hc : cat2 w = true
    · simp only [enA, hc, if_true] at h
      have hcat : (tr ad w).category = 2 := by rw [tr_cat, hc]; rfl
      simp only [List.map_cons, lv_args, hcat, if_true]
      match i, h with
      | 0, h => simp at h; subst h; exact List.mem_cons_self
      | 1, h => simp at h; exact absurd h.symm hv
      | i + 2, h =>
        have := enA_at ad vs (off + 2) i v (by simpa using h) hv
        rw [show off + 2 + i = off + (i + 2) by omega] at this
        exact List.mem_cons_of_mem _ this
    · have hc : cat2 w = false := by simpa using hc
      simp only [enA, hc, Bool.false_eq_true, if_false] at h
      have hcat : (tr ad w).category = 1 := by rw [tr_cat, hc]; rfl
      simp only [List.map_cons, lv_args, hcat]
      match i, h with
      | 0, h => simp at h; subst h; exact List.mem_cons_self
      | i + 1, h =>
        have := enA_at ad vs (off + 1) i v (by simpa using h) hv
        rw [show off + 1 + i = off + (i + 1) by omega] at this
        exact List.mem_cons_of_mem _ this
theorem enA_len (ad : Nat → Nat → Nat) : ∀ av : List PV, (lg_sl (av.map (tr ad))).length = (enA av).length
  | [] => rfl
  | w :: vs => by
    have ih := enA_len ad vs
    by_cases hc : cat2 w = true
    · have hcat : (tr ad w).category = 2 := by rw [tr_cat, hc]; rfl
      simp only [List.map_cons, lg_sl, List.flatMap_cons, hcat, if_true, enA, hc, List.length_append, List.length_cons, List.length_nil] at ih ⊢
      omega
    · have hc : cat2 w = false := by simpa using hc
      have hcat : (tr ad w).category = 1 := by rw [tr_cat, hc]; rfl
      simp only [List.map_cons, lg_sl, List.flatMap_cons, hcat, enA, hc, List.length_append, List.length_cons, List.length_nil, Bool.false_eq_true, if_false] at ih ⊢
      simp only [Nat.reduceEqDiff, if_false, List.length_cons, List.length_nil]
      omega
/-- a body's contract, by its method's name alone -/
theorem vx_ofWF {l : Launch} {y : MethodName} {ws ws' : List Cond} {rm : Room} {Pc : Array Value → State → Prop} {Qc : Array Value → State → Outcome → State → Prop} {XC : String → State → State → Prop} {mc ms : Nat} {free : Addr → Prop} {cc : ByteArray} {maxL : Nat} {ret : Option FieldType}
    (hy : plainFor y = true) (hw : ws = Cond.code y cc maxL ret :: ws')
    (body : ∀ p e s m args below meth c s₁, BodyLoose p l y (headSpec ws rm) cc maxL ret e s m args below meth c s₁ → c.maxLocals = maxL → (∀ x ∈ c.exceptionTable.toList, False) → Pc args s →
      W p l e (headSpec ws rm).room s m args below meth c s.heap [] 0 0 (vx_MQ below Qc XC args s mc ms free) (entryFrame m args maxL)) : vx_Met l y ws rm Pc Qc XC mc ms free := by
  refine MetFree.of_bodySF (code := cc) (maxLocals := maxL) (ret := ret) hy ?_ ?_
  · intro args s m h hn
    obtain ⟨meth, c, h1, h2, h3, h4, h5, h6, -, -⟩ := Cond.code_spec hn (atoms_spec (ws := ws) h _ (by rw [hw]; exact List.mem_cons_self))
    exact ⟨meth, c, h1, h2, h3, h4, h5, h6⟩
  · intro p e s m args below meth c s₁ B hml hP _
    have hh0 : s₁.heap = s.heap := by rw [B.state]; rfl
    have ht : ∀ x ∈ c.exceptionTable.toList, False := by
      obtain ⟨meth9, c9, h1, h2, -, -, -, -, h7, -⟩ := Cond.code_spec B.named (atoms_spec (ws := ws) B.pre _ (by rw [hw]; exact List.mem_cons_self))
      cases Option.some.inj (h1.symm.trans B.method)
      cases Option.some.inj (h2.symm.trans (Stand.of_body B).code)
      intro x hx
      rw [Array.isEmpty_iff.mp h7] at hx
      cases hx
    obtain ⟨t, a1, o, b1, b2, b3⟩ := body p e s m args below meth c s₁ B hml ht hP s₁ hh0 (Stand.of_body B)
    exact ⟨t, o, a1, b1, b2, b3⟩
theorem pc_of {l : Launch} {d : Nat} {Y : MD} {av ls : List PV} {M : PM} {r : PR} (hlt : l.stackTraces = false) (hy : plainFor Y.1 = true) (hco : COK Y.2.1 Y.code = true) (hle : (enA av).length ≤ Y.2.2.1) (he : enL Y.2.2.1 av = ls) (k : PW l d Y Y.code ls [] M r) (hp0 : hdpc Y.code = 0) : PC l d Y av M r := by
  subst he
  intro sz D cy ad
  refine vx_ofWF (cc := Y.2.1) (maxL := Y.2.2.1) (ret := Y.2.2.2.1) hy rfl ?_
  intro p e s m args below meth c s₁ B hml htab hv
  obtain ⟨rfl, hK, hH⟩ := hv
  have hts := atoms_spec (ws := wsY Y) B.pre
  have hown : s.vm.findClass Y.1.cls = some m.cls := findClass_of_methodNamed B.named
  have hl := lv_entry (av.map (tr ad)) (n := Y.2.2.1) (by rw [enA_len]; exact hle)
  have hS : va_S (fun q => sz ≤ q) s.heap s.heap [] := va_S.rf
  rw [lg_entry_eq]
  generalize (lg_sl (av.map (tr ad)) ++ List.replicate (Y.2.2.1 - (lg_sl (av.map (tr ad))).length) Slot.unset).toArray = rl at hl ⊢
  have h := k.2 p e { frames := d, cells := mcR r, slots := msR r, locals := 64 * d } s m (av.map (tr ad)).toArray below meth c sz D cy ad s.heap [] rl ⟨hlt, B.exec, B.bytes, B.returns, hml, hown, B.notSynchronized, htab, hts, Nat.le_refl _, Nat.le_refl _, Nat.le_refl _, Nat.le_refl _, hco⟩ ⟨0, rfl⟩ hK hH hS ⟨hl.1, hl.2.1, by unfold enL; rw [List.length_append, List.length_replicate]; omega, fun i v hi hv => by
    unfold enL at hi
    by_cases hlt : i < (enA av).length
    · rw [List.getElem?_append_left hlt] at hi
      have := enA_at ad av 0 i v hi hv
      rw [Nat.zero_add] at this
      exact hl.2.2 _ this
    · rw [List.getElem?_append_right (by omega)] at hi
      exact absurd (List.eq_of_mem_replicate (List.mem_of_getElem? hi)) hv⟩
  rw [hp0] at h
  exact h
