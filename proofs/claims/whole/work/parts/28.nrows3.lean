/-! rows of rows, calls of constructors, their contracts -/
section NRows3
variable {l : Launch} {R : Room} {Y : MD} {n0 : Nat} {X : GX} {cs : Nat × Nat} {pc : Nat} {is : List CI} {ls st : List PV} {n : Nat} {rs : List (Nat × Nat)} {M : PM}
/-- new int[N][K] -/
theorem n_mna {ix N K : Nat} {x y : Int32} (hX : NOK Y X) (hw : Cond.classLink Y.1.cls ix "[[I" ∈ UW) (ha : Cond.arrayClass .int ∈ UW) (hx : ¬ x < 0 ∧ x.toNatClampNeg = N ∧ N ≤ 10000) (hy : ¬ y < 0 ∧ y.toNatClampNeg = K ∧ K ≤ 10000) (hg : gT n = some (5, N, K)) (hn : n0 ≤ n ∧ n < 1000) (hok : st.all (okV n) = true ∧ ls.all (okV n) = true) (hR : cs.1 + (1 + N) ≤ R.cells ∧ cs.2 + (N + N * K) ≤ R.slots) (k : PN l R Y n0 X (cs.1 + 1 + N, cs.2 + N + N * K) is ls (vR n :: st) (n + 1) rs M) : PN l R Y n0 X cs ((pc, .multianewarray ix 2, 4) :: is) ls (vI y :: vI x :: st) n rs M := by
  obtain ⟨p, e, s, m, args, below, meth, c, Q, sz, D, cy, ad0⟩ := X
  obtain ⟨x1, x2, x3, x4, x5, x6, x7, x8⟩ := hX
  refine ⟨by simp, fun ad H locs rl hs hA hH hS hl => ?_⟩
  have hc := suf_cok hs x6
  have hZ := hH.2.2.1 n (Nat.le_refl _)
  have hcy : s.vm.findClass (FieldType.array .int).toString = some (cy 0) := (x7.1.1.2 0 (cy 0, .int) rfl).2
  refine va_mna (X := wlN cy ad n rs M) (L := []) (f := fun _ => .inl (cy 0, 0, .inl fun _ => 0)) (z := (K, .inl fun _ => 0)) x1 x2 x4 (x5 _ hw) x7.2.2 (x5 _ ha) hcy x7.1.1 (by show va_P D vwCl (_ ++ []) H; rw [List.append_nil]; exact hH.1) (by show va_D _ (_ ++ []); rw [List.append_nil]; exact hH.2.1) hS (fun q hq => Nat.le_trans x7.1.2.2.1.1 hq) hx.1 hy.1 hx.2.1 hy.2.1 (by omega) (by show K * 4 ≤ _; omega) (by omega) rfl rfl hR.1 hR.2 (fun cI => arrV_new cI K (.int 0)) (COK.here hc) (fun a r cA H1 hr1 hr2 a0 a1 a2 a3 => ?_)
  have e0 := K_cy (tys := []) 4 x7.1.1 a0 rfl
  subst e0
  have hw2 : wlN cy (adU ad n a r) (n + 1) rs M = (wlN cy ad n rs M ++ [(a, .inl (cy 4, N, .inr (.inr (.inr (.inr (fun i => if i < N then some (r i) else none))))))]) ++ va_pl ([] ++ (List.range N).map r) (vr_up (fun _ => .inl (cy 0, 0, .inl fun _ => 0)) ((List.range N).map r) (.inl (cy 0, (K, .inl fun _ => 0)))) := by
    rw [wlN_succ, wlN_ad (fun q i hq => adU_ne (Nat.ne_of_lt hq)) hH.2.2.2, List.append_assoc]
    refine congrArg (fun z => wlN cy ad n rs M ++ z) ?_
    unfold kOf
    rw [hg]
    show (adU ad n a r n 0, cEN0 cy (adU ad n a r) rs M n (gT n)) :: List.map _ ((List.range N).map fun i => (n, i + 1)) = (a, _) :: va_pl ((List.range N).map r) _
    have e1 : ∀ i, adU ad n a r n i = (match i with | 0 => a | j + 1 => r j) := fun i => if_pos rfl
    rw [hg, e1]
    have e2 : cEN0 cy (adU ad n a r) rs M n (some (5, N, K)) = .inl (cy 4, N, .inr (.inr (.inr (.inr (fun i => if i < N then some (r i) else none))))) := by
      show Sum.inl (cy 4, N, Sum.inr (Sum.inr (Sum.inr (Sum.inr fun j => if j < N then some (adU ad n a r n (j + 1)) else none)))) = _
      rw [show (fun j => if j < N then some (adU ad n a r n (j + 1)) else none) = fun i => if i < N then some (r i) else none from funext fun j => by rw [e1]]
    rw [e2]
    refine congrArg (fun z => (a, _) :: z) ?_
    unfold va_pl
    rw [List.map_map, List.map_map]
    refine List.map_congr_left fun i hi => ?_
    show (adU ad n a r n (i + 1), cE1 cy M n i (gT n)) = (r i, vr_up _ _ _ (r i))
    rw [e1, vr_up_in (List.mem_map.mpr ⟨i, hi, rfl⟩), hg]
    show (r i, Sum.inl (cy 0, K, Sum.inl (M.2.2.2.2 n i))) = _
    rw [zf (hZ.2.2.2.2 i)]
  have hW : WN sz D cy (adU ad n a r) (n + 1) rs M H1 := ⟨by rw [hw2]; exact a1, by rw [hw2]; exact a2, hH.2.2.1.up, hH.2.2.2.up⟩
  have h1 := k.2 _ H1 locs rl (suf_next hs) (hA.up hn.1 hn.2) hW a3 (okL_lv hn.2 hok.2 hl)
  rw [COK.next hc k.1] at h1
  rw [← okL_map (ad := ad) (a := a) (r := r) hn.2 hok.1]
  have e9 : Value.ref a = tr (adU ad n a r) (vR n) := by show _ = Value.ref (if n = n then a else _); rw [if_pos rfl]
  rw [e9]
  exact h1
/-- super() of Object -/
theorem n_obj {ix q : Nat} (hX : NOK Y X) (hw : Cond.methodLink Y.1.cls ix Lib.objectInit ∈ UW) (hi : Cond.instanceMethod Lib.objectInit ∈ UW) (hco : Cond.code Lib.objectInit ⟨#[0xb1]⟩ 1 none ∈ UW) (hR : 1 ≤ R.frames ∧ 30 ≤ R.locals) (hst : catS st ≤ 8) (k : PN l R Y n0 X cs is ls st n rs M) : PN l R Y n0 X cs ((pc, .invokespecial ix, 3) :: is) ls (vR q :: st) n rs M := by
  obtain ⟨p, e, s, m, args, below, meth, c, Q, sz, D, cy, ad0⟩ := X
  obtain ⟨x1, x2, x3, x4, x5, x6, x7, x8⟩ := hX
  refine ⟨by simp, fun ad H locs rl hs hA hH hS hl => ?_⟩
  have hc := suf_cok hs x6
  have h1 := k.2 ad H locs rl (suf_next hs) hA hH hS hl
  rw [COK.next hc k.1] at h1
  refine W.objInit (a := ad q 0) (rest := st.map (tr ad)) x1 x2 x4 (x5 _ hw) (x5 _ hi) (x5 _ hco) rfl (hl.1.trans x3.symm) rfl (COK.here hc) hR.1 ?_ h1
  rw [catS_tr]
  show 2 * 0 + catS st + 12 ≤ R.locals
  omega
theorem AGR.trv {n : Nat} {ad ad' : Nat → Nat → Nat} (h : AGR n ad ad') {v : PV} (hv : okV n v = true) : tr ad' v = tr ad v := by
  rcases v with v | g
  · cases v with
    | ref q =>
      have hv : (decide (q < n) || decide (1000 ≤ q)) = true := hv
      simp only [Bool.or_eq_true, decide_eq_true_eq] at hv
      exact congrArg Value.ref (h q 0 hv)
    | _ => rfl
  · have hv : decide (g.1 < n) = true := hv
    simp only [decide_eq_true_eq] at hv
    exact congrArg Value.ref (h g.1 (g.2 + 1) (Or.inl hv))
theorem AGR.map {n : Nat} {ad ad' : Nat → Nat → Nat} (h : AGR n ad ad') {st : List PV} (hst : st.all (okV n) = true) : st.map (tr ad') = st.map (tr ad) := List.map_congr_left fun v hv => h.trv (List.all_eq_true.mp hst v hv)
theorem AGR.lv {n k : Nat} {ad ad' : Nat → Nat → Nat} (h : AGR n ad ad') {ls : List PV} {rl : Array Slot} (hls : ls.all (okV n) = true) (hl : lvOK ad k rl ls) : lvOK ad' k rl ls := ⟨hl.1, hl.2.1, hl.2.2.1, fun i v hi hv => by rw [h.trv (List.all_eq_true.mp hls v (List.mem_of_getElem? hi))]; exact hl.2.2.2 i v hi hv⟩
theorem AGR.trans {n0 n : Nat} {ad0 ad ad' : Nat → Nat → Nat} (h : AGR n0 ad0 ad) (g : AGR n ad ad') (hn : n0 ≤ n) : AGR n0 ad0 ad' := fun q i hq => (g q i (hq.elim (fun z => Or.inl (Nat.lt_of_lt_of_le z hn)) Or.inr)).trans (h q i hq)
/-- what a constructor leaves -/
def QcN (sz : Nat) (D : va_G) (cy : Nat → ClassId) (ad0 : Nat → Nat → Nat) (n0 n1 : Nat) (rs1 : List (Nat × Nat)) (M1 : PM) : Array Value → State → Outcome → State → Prop := fun _ st o t => o = .returned none ∧ ∃ ad, AGR n0 ad0 ad ∧ WN sz D cy ad n1 rs1 M1 t.heap ∧ va_F (fun q => sz ≤ q) st t
def RmN (d ca sl : Nat) : Room := { frames := d, cells := ca, slots := sl, locals := 64 * d }
def PCN (l : Launch) (d ca sl : Nat) (Y : MD) (av : List PV) (n0 : Nat) (rs0 : List (Nat × Nat)) (M0 : PM) (n1 : Nat) (rs1 : List (Nat × Nat)) (M1 : PM) : Prop := ∀ (sz : Nat) (D : va_G) (cy : Nat → ClassId) (ad0 : Nat → Nat → Nat),
  Met l Y.1 (wsY Y) (RmN d ca sl) (va_Pc (av.map (tr ad0)) (fun U => KN sz D cy ad0 U ∧ WN sz D cy ad0 n0 rs0 M0 U.heap)) (QcN sz D cy ad0 n0 n1 rs1 M1) ca sl (fun q => sz ≤ q)
theorem KN.blind {sz : Nat} {D : va_G} {cy : Nat → ClassId} {ad : Nat → Nat → Nat} {av : List Value} {rs0 : List (Nat × Nat)} {M0 : PM} {n0 : Nat} : FrameBlind (va_Pc av (fun U => KN sz D cy ad U ∧ WN sz D cy ad n0 rs0 M0 U.heap)) := fun a U g mk h =>
  ⟨h.1, KN.on h.2.1 (State.WarmedH.refl U : U.WarmedH (U.calling g mk a).vm) (Nat.le_refl _) (fun _ _ _ => rfl), h.2.2⟩
theorem n_call {ix q d2 ca sl k n1 : Nat} {Y2 : MD} {as : List PV} {rs1 : List (Nat × Nat)} {M1 : PM} {st0 : List PV} (hX : NOK Y X) (hm : MOK Y2 k) (hret : Y2.2.2.2.1 = none) (hnm : Y2.1.name = "<init>") (hin : Cond.instanceMethod Y2.1 ∈ UW) (hlk : LNK Y.1.cls ix Y2 ∨ LNN Y.1.cls ix Y2) (has : as.length = k) (hR : d2 + 1 ≤ R.frames ∧ 60 + 64 * d2 ≤ R.locals ∧ cs.1 + ca ≤ R.cells ∧ cs.2 + sl ≤ R.slots) (hst : catS st ≤ 8) (hn : n0 ≤ n) (hok : st.all (okV n) = true ∧ ls.all (okV n) = true) (hs0 : st0 = (vR q :: as).reverse ++ st) (hM : PCN l d2 ca sl Y2 (vR q :: as) n rs M n1 rs1 M1) (kk : PN l R Y n0 X (cs.1 + ca, cs.2 + sl) is ls st n1 rs1 M1) : PN l R Y n0 X cs ((pc, .invokespecial ix, 3) :: is) ls st0 n rs M := by
  subst hs0
  obtain ⟨p, e, s, m, args, below, meth, c, Q, sz, D, cy, ad0⟩ := X
  obtain ⟨x1, x2, x3, x4, x5, x6, x7, x8⟩ := hX
  refine ⟨by simp, fun ad H locs rl hs hA hH hS hl => ?_⟩
  have hco := suf_cok hs x6
  have hmx := hm.2.2.2.2.2
  have hr1 : d2 + 1 ≤ R.frames := hR.1
  have hr2 : 60 + 64 * d2 ≤ R.locals := hR.2.1
  have hW8 : 2 * (F0 m pc rl (((vR q :: as).reverse ++ st).map (tr ad))).monitorRoom + ((st.map (tr ad)).map fun v => v.category).sum ≤ 8 := by
    rw [catS_tr]
    show 2 * 0 + catS st ≤ 8
    omega
  have hKN : KN sz D cy ad s := x7.ad (fun q i hq => hA q i (Or.inr hq))
  have hpre : ∀ U : State, U.heap = H → s.WarmedH U.vm → va_Pc ((vR q :: as).map (tr ad)) (fun U => KN sz D cy ad U ∧ WN sz D cy ad n rs M U.heap) ((vR q :: as).map (tr ad)).toArray U := fun U hU hWm =>
    ⟨rfl, KN.on hKN hWm (by rw [hU]; exact hS.1) (fun a h1 h2 => by rw [hU]; exact hS.2.1 a h1 h2), by rw [hU]; exact hH⟩
  have fix : CallFix p m c Y.2.1 Y.2.2.1 s args UW Y.1.cls := ⟨x1, x2, x3, x4, x5⟩
  have hstack : ((vR q :: as).reverse ++ st).map (tr ad) = (as.map (tr ad)).reverse ++ .ref (ad q 0) :: st.map (tr ad) := by
    simp [List.map_append, List.map_reverse, tr]
  have hwd : wsY Y2 = Cond.code Y2.1 Y2.2.1 Y2.2.2.1 none :: UW := by unfold wsY; rw [hret]
  have hrun : va_Run p l e R s m args below meth c H locs cs.1 cs.2 ca sl (F0 m pc rl (((vR q :: as).reverse ++ st).map (tr ad))) (st.map (tr ad)) (QcN sz D cy ad n n1 rs1 M1 (Value.ref (ad q 0) :: as.map (tr ad)).toArray) (fun q => sz ≤ q) := by
    rcases hlk with hlk | ⟨host, hlk⟩
    · exact va_runI (mc := ca) (ms := sl) (As := as.map (tr ad)) (b := ad q 0) (rest := st.map (tr ad)) fix (hM sz D cy ad) (cwI k x5 (UW_good2 hm) hwd rfl rfl (x5 _ hm.2.1) (x5 _ hlk) (x5 _ hin) hnm ⟨hm.2.2.1, hm.2.2.2.1, hm.2.2.2.2.1⟩ ⟨by show d2 + 1 ≤ R.frames; omega, by show 8 + (Y2.2.2.1 + 11) + 64 * d2 ≤ R.locals; omega⟩) ⟨KN.blind, hpre⟩ rfl (by rw [List.length_map]; exact has) hl.1 hstack hW8 (COK.here hco) ⟨hR.2.2.1, hR.2.2.2⟩
    · exact va_runIN (mc := ca) (ms := sl) (As := as.map (tr ad)) (b := ad q 0) (rest := st.map (tr ad)) fix (hM sz D cy ad) ⟨va_cnB k x5 (UW_good2 hm) hwd rfl rfl (x7.1.2.1 _ hlk) (x5 _ hm.2.1) ⟨hm.2.2.1, hm.2.2.2.1, hm.2.2.2.2.1⟩ ⟨by show d2 + 1 ≤ R.frames; omega, by show 8 + (Y2.2.2.1 + 11) + 64 * d2 ≤ R.locals; omega⟩, hnm, x5 _ hin⟩ ⟨KN.blind, hpre⟩ rfl (by rw [List.length_map]; exact has) hl.1 hstack hW8 (COK.here hco) ⟨hR.2.2.1, hR.2.2.2⟩
  intro T hT X
  obtain ⟨v9, st₀, t, T', L, h0, X', hL, e1, e2, ⟨hv2, ad', hA', hw, hz, hk⟩, stp⟩ := hrun T hT X
  cases hv2
  rw [h0] at hz hk
  have h1 := kk.2 ad' T'.heap (locs ++ L) rl (suf_next hs) (hA.trans hA' hn) (by rw [e1]; exact hw) ⟨Nat.le_trans hS.1 (by rw [e1]; exact hz), fun q h1 h2 => by rw [e1, hk q (Nat.lt_of_lt_of_le h1 hS.1) h2]; exact hS.2.1 q h1 h2, fun q hq => by
      rcases List.mem_append.mp hq with h | h
      · exact hS.2.2 q h
      · exact hL q h⟩ (hA'.lv hok.2 hl)
  rw [COK.next hco kk.1, hA'.map hok.1] at h1
  obtain ⟨t2, a1, b1⟩ := h1 T' rfl X'
  exact ⟨t2, stp t2 a1, b1⟩
/-- a body's context in a constructor -/
def CXN (n0 n1 : Nat) (rs1 : List (Nat × Nat)) (M1 : PM) (ca sl : Nat) : GX → Prop
  | (_, _, s, _, args, below, meth, _, Q, sz, D, cy, ad0) => meth.locks = false ∧ meth.sig.returnType = none ∧ Q = MQ below (QcN sz D cy ad0 n0 n1 rs1 M1) args s ca sl (fun q => sz ≤ q)
theorem n_ret {n1 ca sl : Nat} {rs1 : List (Nat × Nat)} {M1 : PM} (hX : NOK Y X) (hW : CXN n0 n1 rs1 M1 ca sl X) : PN l R Y n0 X (ca, sl) ((pc, .return_, 1) :: is) ls [] n1 rs1 M1 := by
  obtain ⟨p, e, s, m, args, below, meth, c, Q, sz, D, cy, ad0⟩ := X
  obtain ⟨x1, x2, x3, x4, x5, x6, x7, x8⟩ := hX
  obtain ⟨w1, w2, rfl⟩ := hW
  refine ⟨by simp, fun ad H locs rl hs hA hH hS hl => ?_⟩
  exact W.vret x1 x2 w2 (fun t ht _ => ⟨rfl, ad, hA, by rw [ht]; exact hH, hS.F ht⟩) hS.2.2 (COK.here (suf_cok hs x6)) w1
theorem pcn_of {d ca sl n1 : Nat} {av : List PV} {rs1 : List (Nat × Nat)} {M1 : PM} (hy : plainName Y.1.cls = true) (hret : Y.2.2.2.1 = none) (hco : COK Y.2.1 Y.code = true) (hle : (enA av).length ≤ Y.2.2.1) (he : enL Y.2.2.1 av = ls) (k : ∀ X : GX, NOK Y X → CXN n n1 rs1 M1 ca sl X → PN l (RmN d ca sl) Y n X (0, 0) Y.code ls [] n rs M) (hp0 : hdpc Y.code = 0) : PCN l d ca sl Y av n rs M n1 rs1 M1 := by
  subst he
  intro sz D cy ad
  refine Met.ofW (cc := Y.2.1) (maxL := Y.2.2.1) (ret := Y.2.2.2.1) hy rfl ?_
  intro p e s m args below meth c s₁ B hml hv
  obtain ⟨rfl, hK, hH⟩ := hv
  have hts := atoms_spec (ws := wsY Y) B.pre
  have hown : s.vm.findClass Y.1.cls = some m.cls := findClass_of_methodNamed B.named
  have hl := lv_entry (av.map (tr ad)) (n := Y.2.2.1) (by rw [enA_len]; exact hle)
  have hS : va_S (fun q => sz ≤ q) s.heap s.heap [] := va_S.rf
  rw [lg_entry_eq]
  generalize (lg_sl (av.map (tr ad)) ++ List.replicate (Y.2.2.1 - (lg_sl (av.map (tr ad))).length) Slot.unset).toArray = rl at hl ⊢
  have hnm : Y.1.name = "<init>" → meth.name = "<init>" := fun h => ((name_of_methodNamed B.named B.method).1).trans h
  have h := (k (p, e, s, m, (av.map (tr ad)).toArray, below, meth, c, MQ below (QcN sz D cy ad n n1 rs1 M1) (av.map (tr ad)).toArray s ca sl (fun q => sz ≤ q), sz, D, cy, ad) ⟨B.exec, B.bytes, hml, hown, fun w hw => hts w (List.mem_cons_of_mem _ hw), hco, hK, hnm⟩ ⟨B.notSynchronized, B.returns.trans hret, rfl⟩).2 ad s.heap [] rl ⟨0, rfl⟩ (fun _ _ _ => rfl) hH hS ⟨hl.1, hl.2.1, by unfold enL; rw [List.length_append, List.length_replicate]; omega, fun i v hi hv => by
    unfold enL at hi
    by_cases hlt : i < (enA av).length
    · rw [List.getElem?_append_left hlt] at hi
      have := enA_at ad av 0 i v hi hv
      rw [Nat.zero_add] at this
      exact hl.2.2 _ this
    · rw [List.getElem?_append_right (by omega)] at hi
      exact absurd (List.eq_of_mem_replicate (List.mem_of_getElem? hi)) hv⟩
  rw [hp0] at h
  exact h
/-- Math.max of two ints -/
def MetMax (l : Launch) : Prop := ∀ (x y : Int32) (free : Addr → Prop), y ≤ x → Met l Y_J9_max_7cf53.1 (wsY Y_J9_max_7cf53) { frames := 0, cells := 0, slots := 0, locals := 0 } (va_Pc [.int x, .int y] (fun _ => True)) (fun _ st o t => o = .returned (some (.int x)) ∧ t.heap = st.heap) 0 0 free
theorem met_max {l : Launch} : MetMax l := by
  intro x y free hxy
  refine vx_toMet (XC := fun _ _ _ => False) (vx_ofWF (cc := Y_J9_max_7cf53.2.1) (maxL := 2) (ret := some .int) (by decide +kernel) rfl ?_) (fun _ _ _ h => h)
  intro p e s m args below meth c s₁ B hml htab hv
  obtain ⟨rfl, -⟩ := hv
  have hl := lv_entry ([Value.int x, Value.int y]) (n := 2) (Nat.le_of_ble_eq_true rfl)
  rw [lg_entry_eq]
  generalize (lg_sl ([Value.int x, Value.int y]) ++ List.replicate (2 - (lg_sl ([Value.int x, Value.int y])).length) Slot.unset).toArray = rl at hl ⊢
  have hl : lv_has rl 2 [(0, .int x), (1, .int y)] := hl
  have hd : COK Y_J9_max_7cf53.2.1 Y_J9_max_7cf53.code = true := cok_J9_max_7cf53
  have hd0 : decode Y_J9_max_7cf53.2.1 0 = .ok (.iload_n 0, 1) := COK.here hd
  have hd1 : decode Y_J9_max_7cf53.2.1 1 = .ok (.iload_n 1, 1) := COK.here (COK.tail hd)
  have hd2 : decode Y_J9_max_7cf53.2.1 2 = .ok (.if_icmp .lt 7, 3) := COK.here (COK.tail (COK.tail hd))
  have hd5 : decode Y_J9_max_7cf53.2.1 5 = .ok (.iload_n 0, 1) := COK.here (COK.tail (COK.tail (COK.tail hd)))
  have hd6 : decode Y_J9_max_7cf53.2.1 6 = .ok (.goto 4, 3) := COK.here (COK.tail (COK.tail (COK.tail (COK.tail hd))))
  have hd10 : decode Y_J9_max_7cf53.2.1 10 = .ok (.ireturn, 1) := COK.here (COK.tail (COK.tail (COK.tail (COK.tail (COK.tail (COK.tail hd))))))
  refine lv_iload_n B.exec B.bytes hd0 rfl (lv_at hl 0 rfl) ?_
  refine lv_iload_n B.exec B.bytes hd1 rfl (lv_at hl 1 rfl) ?_
  refine lv_icmp_lt (tgt := 9) B.exec B.bytes hd2 rfl (fun h => absurd h (Int32.not_lt.mpr hxy)) (fun _ => ?_)
  refine lv_iload_n B.exec B.bytes hd5 rfl (lv_at hl 0 rfl) ?_
  refine lv_goto (tgt := 10) B.exec B.bytes hd6 rfl ?_
  exact vx_ret (W.iret B.exec B.bytes B.returns (fun t ht _ => ⟨rfl, ht⟩) (fun q hq => by cases hq) hd10 B.notSynchronized)
theorem n_max {ix : Nat} {x y : Int32} (hX : NOK Y X) (hlk : LNK Y.1.cls ix Y_J9_max_7cf53) (hxy : y ≤ x) (hR : 1 ≤ R.frames ∧ 60 ≤ R.locals ∧ cs.1 ≤ R.cells ∧ cs.2 ≤ R.slots) (hst : catS st ≤ 8) (kk : PN l R Y n0 X cs is ls (vI x :: st) n rs M) : PN l R Y n0 X cs ((pc, .invokestatic ix, 3) :: is) ls (vI y :: vI x :: st) n rs M := by
  obtain ⟨p, e, s, m, args, below, meth, c, Q, sz, D, cy, ad0⟩ := X
  obtain ⟨x1, x2, x3, x4, x5, x6, x7, x8⟩ := hX
  refine ⟨by simp, fun ad H locs rl hs hA hH hS hl => ?_⟩
  have hco := suf_cok hs x6
  have hm := mok_J9_max_7cf53
  have hr1 : 1 ≤ R.frames := hR.1
  have hr2 : 60 ≤ R.locals := hR.2.1
  have hW8 : 2 * (F0 m pc rl ((vI y :: vI x :: st).map (tr ad))).monitorRoom + ((st.map (tr ad)).map fun v => v.category).sum ≤ 8 := by
    rw [catS_tr]
    show 2 * 0 + catS st ≤ 8
    omega
  have fix : CallFix p m c Y.2.1 Y.2.2.1 s args UW Y.1.cls := ⟨x1, x2, x3, x4, x5⟩
  have hrun := va_runS (locs := locs) (cells := cs.1) (slots := cs.2) (e := e) (below := below) (meth := meth) (H := H) (g := F0 m pc rl ((vI y :: vI x :: st).map (tr ad))) (mc := 0) (ms := 0) (As := [.int x, .int y]) (rest := st.map (tr ad)) fix (met_max (l := l) x y (fun q => sz ≤ q) hxy) ⟨callB_of 2 x5 (UW_good2 hm) rfl rfl rfl (x5 _ hm.2.1) (x5 _ hlk) ⟨hm.2.2.1, hm.2.2.2.1, hm.2.2.2.2.1⟩ ⟨by show 0 + 1 ≤ R.frames; omega, by show 8 + (2 + 11) + 0 ≤ R.locals; omega⟩, x5 _ sta_J9_max_7cf53⟩ ⟨fun a U g mk h => h, fun U hU hWm => ⟨rfl, trivial⟩⟩ rfl rfl hl.1 rfl hW8 (COK.here hco) ⟨hR.2.2.1, hR.2.2.2⟩
  intro T hT X
  obtain ⟨v9, st₀, t, T', L, h0, X', hL, e1, e2, ⟨hv2, hhp⟩, stp⟩ := hrun T hT X
  cases hv2
  have hT' : T'.heap = H := by rw [e1, hhp, h0]
  have h1 := kk.2 ad T'.heap (locs ++ L) rl (suf_next hs) hA (by rw [hT']; exact hH) ⟨by rw [hT']; exact hS.1, fun q h1 h2 => by rw [hT']; exact hS.2.1 q h1 h2, fun q hq => by
      rcases List.mem_append.mp hq with h | h
      · exact hS.2.2 q h
      · exact hL q h⟩ hl
  rw [COK.next hco kk.1] at h1
  obtain ⟨t2, a1, b1⟩ := h1 T' rfl X'
  exact ⟨t2, stp t2 a1, b1⟩
end NRows3
