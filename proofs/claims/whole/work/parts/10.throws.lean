/-! throws, calls that may throw, switches, String constants -/
section Throws
variable {l : Launch} {d d2 : Nat} {Y Y2 : MD} {pc n ix : Nat} {is : List CI} {ls st : List PV} {M : PM} {r r1 : PR}
/-- a call of a method that throws: the caller, without handlers, throws the same -/
theorem PW.callX {ix q ci z : Nat} {as : List PV} {E : String} {M1 : PM} (hm : MOK Y2 n) (hn : as.length = n) (hq : gT q = some (0, ci, z)) (hcl : (vwCl[ci]?).map (fun x => x.1) = some Y2.1.cls) (hin : INST Y2) (hlk : LNK Y.1.cls ix Y2) (hd : d2 + 1 ≤ d) (hst : catS st ≤ 8) (hM : PC l d2 Y2 (vR q :: as) M (.inr E, M1)) : PW l d Y ((pc, .invokevirtual ix, 3) :: is) ls ((vR q :: as).reverse ++ st) M (.inr E, M1) := by
  refine ⟨by simp, fun p e R s m args below meth c sz D cy ad H locs rl hC hs hK hH hS hl => ?_⟩
  have hco := suf_cok hs hC.2.2.2.2.2.2.2.2.2.2.2.2.2
  have hts := hC.2.2.2.2.2.2.2.2.1
  have hfr := hC.2.2.2.2.2.2.2.2.2.1
  have hlo := hC.2.2.2.2.2.2.2.2.2.2.1
  have hce := hC.2.2.2.2.2.2.2.2.2.2.2.1
  have hsl := hC.2.2.2.2.2.2.2.2.2.2.2.2.1
  have hmx := hm.2.2.2.2.2
  have hW8 : 2 * (F0 m pc rl (((vR q :: as).reverse ++ st).map (tr ad))).monitorRoom + ((st.map (tr ad)).map fun v => v.category).sum ≤ 8 := by
    rw [catS_tr]
    show 2 * 0 + catS st ≤ 8
    omega
  have hpre : ∀ U : State, U.heap = H → s.WarmedH U.vm → va_Pc ((vR q :: as).map (tr ad)) (fun U => Kx sz D cy ad U ∧ WH sz D cy ad M U.heap) ((vR q :: as).map (tr ad)).toArray U := fun U hU hWm =>
    ⟨rfl, Kx.on hK hWm (by rw [hU]; exact hS.1) (fun a h1 h2 => by rw [hU]; exact hS.2.1 a h1 h2), by rw [hU]; exact hH⟩
  have fix : CallFix p m c Y.2.1 Y.2.2.1 s args (wsY Y) Y.1.cls := ⟨hC.2.1, hC.2.2.1, hC.2.2.2.2.1, hC.2.2.2.2.2.1, hts⟩
  obtain ⟨x, hx, hx1⟩ := Option.map_eq_some_iff.mp hcl
  obtain ⟨j, hj, -⟩ := wl_at (key0 hq) cy ad M
  have hj : (wl cy ad M)[j]? = some (ad q 0, .inr (ci, flds ad M q ci)) := by rw [hj]; exact congrArg (fun z => some (ad q 0, z)) (cE_obj hq)
  have hrecv := va_recv hK.1 hH.1 hx hj
  rw [hx1] at hrecv
  have hstack : ((vR q :: as).reverse ++ st).map (tr ad) = (as.map (tr ad)).reverse ++ .ref (ad q 0) :: st.map (tr ad) := by
    simp [List.map_append, List.map_reverse, tr]
  have hgood : GoodIn (wsY Y) (wsV Y.1.cls ix Y2.1.cls Y2.1 (wsY Y2)) := fun w hw => by
    rcases List.mem_append.mp hw with hw | hw
    · simp only [List.mem_cons, List.not_mem_nil, or_false] at hw
      rcases hw with rfl | rfl | rfl | rfl
      · exact ⟨List.mem_cons_of_mem _ hlk, good_of_word (UW_good hlk)⟩
      · exact ⟨List.mem_cons_of_mem _ hin.1, good_of_word (UW_good hin.1)⟩
      · exact ⟨List.mem_cons_of_mem _ hin.2, good_of_word (UW_good hin.2)⟩
      · exact ⟨List.mem_cons_of_mem _ hm.2.1, good_of_word (UW_good hm.2.1)⟩
    · exact wsY_good Y Y2 hm w hw
  have hrun := vx_runV (locs := locs) (cells := 0) (slots := 0) (e := e) (below := below) (meth := meth) (H := H) (g := F0 m pc rl (((vR q :: as).reverse ++ st).map (tr ad))) (As := as.map (tr ad)) (b := ad q 0) (rest := st.map (tr ad)) (C := Y2.1.cls) fix (hM sz D cy ad) (cwV n hts hgood rfl rfl rfl ⟨rfl, hm.2.2.1, hm.2.2.2.1, hm.2.2.2.2.1⟩ ⟨by show d2 + 1 ≤ R.frames; omega, by show 8 + (Y2.2.2.1 + 11) + 64 * d2 ≤ R.locals; omega⟩) ⟨Kx.blind, hrecv, hpre⟩ rfl (by rw [List.length_map]; exact hn) hl.1 hstack hW8 (COK.here hco) ⟨by show 0 + 1 ≤ R.cells; exact hce, by show 0 + 6 ≤ R.slots; exact hsl⟩
  intro T hT X
  rcases hrun T hT X with ⟨v, st₀, t, T', L, h0, X', hL, e1, e2, ⟨v2, hv2, -⟩, -⟩ | ⟨q9, st₀, t, T', L, E9, ce, h0, X', hL, e1, e2, ⟨hE, hw, hz, hk⟩, hce9, hcv, hclE, stp⟩
  · cases hv2
  · cases hE
    rw [h0] at hz hk
    have hS2 : va_S (fun q => sz ≤ q) s.heap T'.heap (locs ++ L) := ⟨Nat.le_trans hS.1 (by rw [e1]; exact hz), fun q h1 h2 => by rw [e1, hk q (Nat.lt_of_lt_of_le h1 hS.1) h2]; exact hS.2.1 q h1 h2, fun q hq => by
      rcases List.mem_append.mp hq with h | h
      · exact hS.2.2 q h
      · exact hL q h⟩
    obtain ⟨t2, a1, b1⟩ := vx_out (Qc := QcR sz D cy ad (.inr E, M1)) (XC := XcR sz D cy ad (.inr E, M1)) (free := fun q => sz ≤ q) (mc := 1) (ms := 6) (pc := pc) (ls := rl) (rest := st.map (tr ad)) (H := T'.heap) (fun x hx => absurd hx (fun h => hC.2.2.2.2.2.2.2.1 x h)) hC.2.2.2.2.2.2.1 (by rw [e1]; exact hce9) hcv hclE (fun t9 ht9 _ => ⟨rfl, by rw [ht9, e1]; exact hw, hS2.F ht9⟩) hS2.2.2 (Nat.le_refl _) (Nat.le_refl _) T' rfl X'
    exact ⟨t2, stp.trans a1, b1⟩
/-- what a caller does with an answer or a throw -/
def bI (f : Option PR) (k : Int32 → PM → Option PR) : Option PR := match f with
  | some (.inl (some (.int x)), M) => k x M
  | some (.inr E, M) => some (.inr E, M)
  | _ => none
def bV (f : Option PR) (k : PM → Option PR) : Option PR := match f with
  | some (.inl none, M) => k M
  | some (.inr E, M) => some (.inr E, M)
  | _ => none
theorem p_bV {q ci z : Nat} {as : List PV} {f : Option PR} {k : PM → Option PR} {st0 : List PV} (hm : MOK Y2 n) (hn : as.length = n) (hq : gT q = some (0, ci, z)) (hcl : (vwCl[ci]?).map (fun x => x.1) = some Y2.1.cls) (hin : INST Y2) (hlk : LNK Y.1.cls ix Y2) (hd : d2 + 1 ≤ d) (hst : catS st ≤ 8) (hs : st0 = (vR q :: as).reverse ++ st) (hM : ∀ r1, f = some r1 → PC l d2 Y2 (vR q :: as) M r1) (h : bV f k = some r) (kk : ∀ M1, k M1 = some r → PW l d Y is ls st M1 r) : PW l d Y ((pc, .invokevirtual ix, 3) :: is) ls st0 M r := by
  subst hs
  unfold bV at h
  split at h
  · rename_i M1
    exact PW.call ⟨hm, Or.inl ⟨ix, q, ci, z, as, rfl, rfl, hn, hq, hcl, hin, Or.inl hlk⟩⟩ hd hst (hM _ rfl) (st1 := st) (fun ad => rfl) (kk M1 h)
  · rename_i E M1
    cases h
    exact PW.callX hm hn hq hcl hin hlk hd hst (hM _ rfl)
  · cases h
theorem p_bI {q ci z : Nat} {as : List PV} {f : Option PR} {k : Int32 → PM → Option PR} {st0 : List PV} (hm : MOK Y2 n) (hn : as.length = n) (hq : gT q = some (0, ci, z)) (hcl : (vwCl[ci]?).map (fun x => x.1) = some Y2.1.cls) (hin : INST Y2) (hlk : LNK Y.1.cls ix Y2) (hd : d2 + 1 ≤ d) (hst : catS st ≤ 8) (hs : st0 = (vR q :: as).reverse ++ st) (hM : ∀ r1, f = some r1 → PC l d2 Y2 (vR q :: as) M r1) (h : bI f k = some r) (kk : ∀ x M1, k x M1 = some r → PW l d Y is ls (vI x :: st) M1 r) : PW l d Y ((pc, .invokevirtual ix, 3) :: is) ls st0 M r := by
  subst hs
  unfold bI at h
  split at h
  · rename_i x M1
    exact PW.call ⟨hm, Or.inl ⟨ix, q, ci, z, as, rfl, rfl, hn, hq, hcl, hin, Or.inl hlk⟩⟩ hd hst (hM _ rfl) (st1 := vI x :: st) (fun ad => rfl) (kk x M1 h)
  · rename_i E M1
    cases h
    exact PW.callX hm hn hq hcl hin hlk hd hst (hM _ rfl)
  · cases h
/-- throw new E("text") -/
def THR (own : String) (ik ic : Nat) (cls : String) (ix : Nat) (rx : ByteArray) (names : List String) : Prop := (decode rx 0 = .ok (.aload_n 0, 1) ∧ decode rx 1 = .ok (.aload_n 1, 1) ∧ decode rx 2 = .ok (.invokespecial ix, 3) ∧ decode rx 5 = .ok (.return_, 1)) ∧ Bundle.fit cls = true ∧ (∀ n ∈ names, Bundle.fit n = true) ∧ Cond.classLink own ik cls ∈ UW ∧ Cond.initialized cls ∈ UW ∧ (∀ w ∈ vx_atSX own ic cls ix rx names, w ∈ UW ∨ w ∈ NW) ∧ names.length = 2
theorem p_throw {ik ic si sx ix : Nat} {rx : ByteArray} {cls tx : String} {names : List String} (F : THR Y.1.cls ik ic cls ix rx names) (hd : 6 ≤ d) (hst : catS st ≤ 8) (hso : sOwn[si]? = some (Y.1.cls, sx, tx)) (h : some ((.inr cls, M) : PR) = some r) : PW l d Y ((pc, .new ik, 3) :: (pc + 3, .dup, 1) :: (pc + 4, .ldc_w sx, 3) :: (pc + 7, .invokespecial ic, 3) :: (pc + 10, .athrow, 1) :: is) ls st M r := by
  cases h
  obtain ⟨⟨x0, x1, x2, x5⟩, f1, f2, f3, f4, f5, f6⟩ := F
  refine ⟨by simp, fun p e R s m args below meth c sz D cy ad H locs rl hC hs hK hH hS hl => ?_⟩
  have hco := suf_cok hs hC.2.2.2.2.2.2.2.2.2.2.2.2.2
  have hts := hC.2.2.2.2.2.2.2.2.1
  have hfr := hC.2.2.2.2.2.2.2.2.2.1
  have hlo := hC.2.2.2.2.2.2.2.2.2.2.1
  have hot : ∀ w, w ∈ UW ∨ w ∈ NW → vx_ot w = true := fun w hw => by
    rcases hw with hw | hw
    · unfold vx_ot; rw [UW_good hw, Bool.or_true]
    · have h2 := (List.mem_filter.mp hw).2
      cases w <;> first | rfl | (simp [isNest] at h2)
  have hbe : ∀ w, w ∈ UW ∨ w ∈ NW → w.before args s = true := fun w hw => by
    rcases hw with hw | hw
    · exact hts w (List.mem_cons_of_mem _ hw)
    · exact NW_use hw (hK.2.1 w hw)
  exact vx_throwSWX x0 x1 x2 x5 (A := fun q => sz ≤ q) (mc := 1) (ms := 6) hC.2.1 hC.2.2.1 hC.1 hC.2.2.2.2.2.1 f1 f2 (hbe _ (Or.inl f3)) (hbe _ (Or.inl f4)) (hK.2.2.2.1 si _ hso) (fun w hw => hbe w (f5 w hw)) (fun w hw => by
      rcases List.mem_cons.mp hw with rfl | hw
      · exact hot _ (Or.inl f3)
      rcases List.mem_cons.mp hw with rfl | hw
      · exact hot _ (Or.inl f4)
      · exact hot _ (f5 w hw)) hK.2.2.2.2.2.2.2.1 hK.2.2.2.2.2.2.2.2.1 hS (hl.1.trans hC.2.2.2.2.1.symm) (COK.here hco) (COK.here (COK.tail hco)) (COK.here (COK.tail (COK.tail hco))) (COK.here (COK.tail (COK.tail (COK.tail hco)))) (COK.here (COK.tail (COK.tail (COK.tail (COK.tail hco))))) (fun x hx => absurd hx (fun h => hC.2.2.2.2.2.2.2.1 x h)) (by rw [f6]; omega) (by rw [catS_tr, f6]; omega) (by have := hC.2.2.2.2.2.2.2.2.2.2.2.1; exact this) (by have := hC.2.2.2.2.2.2.2.2.2.2.2.2.1; exact this) hC.2.2.2.2.2.2.1
      (fun t hv hz hk => ⟨rfl, ⟨fun k x hx => (hH.1 k x hx).kept (hk _ (hH.1 k x hx).lt), hH.2⟩, Nat.le_trans hS.1 hz, fun q h1 h2 => (hk q (Nat.lt_of_lt_of_le h1 hS.1)).trans (hS.2.1 q h1 h2)⟩) hS.2.2 (Nat.le_refl _) (Nat.le_refl _)
theorem p_ldcS {ix si : Nat} {tx : String} (hso : sOwn[si]? = some (Y.1.cls, ix, tx)) (kk : PW l d Y is ls (vR (100000 + si) :: st) M r) : PW l d Y ((pc, .ldc ix, 2) :: is) ls st M r := by
  refine ⟨by simp, fun p e R s m args below meth c sz D cy ad H locs rl hC hs hK hH hS hl => ?_⟩
  have hc := suf_cok hs hC.2.2.2.2.2.2.2.2.2.2.2.2.2
  have h1 := kk.2 p e R s m args below meth c sz D cy ad H locs rl hC (suf_next hs) hK hH hS hl
  rw [COK.next hc kk.1] at h1
  exact va_ldcS hC.2.1 hC.2.2.1 hC.2.2.2.2.2.1 (hK.2.2.2.1 si _ hso) (COK.here hc) h1
theorem p_ldcT {ix si sj : Nat} {tx : String} (hso : sAlso[sj]? = some (Y.1.cls, ix, tx, si)) (kk : PW l d Y is ls (vR (100000 + si) :: st) M r) : PW l d Y ((pc, .ldc ix, 2) :: is) ls st M r := by
  refine ⟨by simp, fun p e R s m args below meth c sz D cy ad H locs rl hC hs hK hH hS hl => ?_⟩
  have hc := suf_cok hs hC.2.2.2.2.2.2.2.2.2.2.2.2.2
  have h1 := kk.2 p e R s m args below meth c sz D cy ad H locs rl hC (suf_next hs) hK hH hS hl
  rw [COK.next hc kk.1] at h1
  exact va_ldcS hC.2.1 hC.2.2.1 hC.2.2.2.2.2.1 (hK.2.2.2.2.1 sj _ hso) (COK.here hc) h1
theorem p_tsIn {x v : Int32} {dflt lo hi off : Int} {offs : Array Int} {len : Nat} {js : List CI} (hx : x = v) (h1 : ¬ v.toInt < lo) (h2 : ¬ hi < v.toInt) (ho : offs[(v.toInt - lo).toNat]? = some off) (kn : Nat) (hj : Y.code.drop kn = js) (ht : (pc : Int) + off = (hdpc js : Int)) (k : PW l d Y js ls st M r) : PW l d Y ((pc, .tableswitch dflt lo hi offs, len) :: is) ls (vI x :: st) M r := by
  subst hx
  refine ⟨by simp, fun p e R s m args below meth c sz D cy ad H locs rl hC hs hK hH hS hl => ?_⟩
  have hc := suf_cok hs hC.2.2.2.2.2.2.2.2.2.2.2.2.2
  exact lv_tableIn hC.2.1 hC.2.2.1 (COK.here hc) h1 h2 ho ht (k.2 p e R s m args below meth c sz D cy ad H locs rl hC ⟨kn, hj⟩ hK hH hS hl)
theorem p_tsOut {x : Int32} {dflt lo hi : Int} {offs : Array Int} {len : Nat} {js : List CI} (hx : x.toInt < lo ∨ hi < x.toInt) (kn : Nat) (hj : Y.code.drop kn = js) (ht : (pc : Int) + dflt = (hdpc js : Int)) (k : PW l d Y js ls st M r) : PW l d Y ((pc, .tableswitch dflt lo hi offs, len) :: is) ls (vI x :: st) M r := by
  refine ⟨by simp, fun p e R s m args below meth c sz D cy ad H locs rl hC hs hK hH hS hl => ?_⟩
  have hc := suf_cok hs hC.2.2.2.2.2.2.2.2.2.2.2.2.2
  exact lv_tableOut hC.2.1 hC.2.2.1 (COK.here hc) hx ht (k.2 p e R s m args below meth c sz D cy ad H locs rl hC ⟨kn, hj⟩ hK hH hS hl)
theorem p_lsw {x : Int32} {dflt off : Int} {ps : Array (Int × Int)} {len : Nat} {js : List CI} (hp : (ps.toList.zip (ps.toList.drop 1)).all (fun (a, next) => a.1 < next.1) = true) (ho : Op.lookupswitch.offset ps.toList dflt x.toInt = off) (kn : Nat) (hj : Y.code.drop kn = js) (ht : (pc : Int) + off = (hdpc js : Int)) (k : PW l d Y js ls st M r) : PW l d Y ((pc, .lookupswitch dflt ps, len) :: is) ls (vI x :: st) M r := by
  refine ⟨by simp, fun p e R s m args below meth c sz D cy ad H locs rl hC hs hK hH hS hl => ?_⟩
  have hc := suf_cok hs hC.2.2.2.2.2.2.2.2.2.2.2.2.2
  exact lv_lookup hC.2.1 hC.2.2.1 (COK.here hc) hp ho ht (k.2 p e R s m args below meth c sz D cy ad H locs rl hC ⟨kn, hj⟩ hK hH hS hl)
theorem sw_out (n : Nat) {x : Int32} (hn : n < 2 ^ 31) (h : ∀ k, k < n → x ≠ nI k) : x.toInt < 0 ∨ (n : Int) ≤ x.toInt := by
  rcases Int.lt_or_le x.toInt 0 with h0 | h0
  · exact Or.inl h0
  · right
    obtain ⟨j, hj, e⟩ := nI_of (x := x) (fun hx => by have := Int32.lt_iff_toInt_lt.mp hx; simp at this; omega)
    subst e
    rw [nI_toInt hj]
    rcases Nat.lt_or_ge j n with h1 | h1
    · exact absurd rfl (h j h1)
    · exact_mod_cast h1
end Throws
