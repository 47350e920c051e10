/-! String constants: length, charAt -/
section Str
variable {l : Launch} {d d2 : Nat} {Y Y2 : MD} {pc n ix k : Nat} {is : List CI} {ls st : List PV} {M : PM} {r : PR}
theorem p_sval (hk : k < 11) (hw : Cond.fieldLink Y.1.cls ix "java/lang/String" "value" "[B" ∈ UW) (kk : PW l d Y is ls (vG (100000 + k) 0 :: st) M r) : PW l d Y ((pc, .getfield ix, 3) :: is) ls (vR (100000 + k) :: st) M r := by
  refine ⟨by simp, fun p e R s m args below meth c sz D cy ad H locs rl hC hs hK hH hS hl => ?_⟩
  have hc := suf_cok hs hC.2.2.2.2.2.2.2.2.2.2.2.2.2
  have h1 := kk.2 p e R s m args below meth c sz D cy ad H locs rl hC (suf_next hs) hK hH hS hl
  rw [COK.next hc kk.1] at h1
  exact vk_getf hC.2.1 hC.2.2.1 ((hK.2.2.2.2.2.1).1 k hk).2.2.1 hS hC.2.2.2.2.2.1 (hC.2.2.2.2.2.2.2.2.1 _ (List.mem_cons_of_mem _ hw)) (fun _ h => h) (COK.here hc) h1
theorem p_scod (hk : k < 11) (hw : Cond.fieldLink Y.1.cls ix "java/lang/String" "coder" "B" ∈ UW) (kk : PW l d Y is ls (vI 0 :: st) M r) : PW l d Y ((pc, .getfield ix, 3) :: is) ls (vR (100000 + k) :: st) M r := by
  refine ⟨by simp, fun p e R s m args below meth c sz D cy ad H locs rl hC hs hK hH hS hl => ?_⟩
  have hc := suf_cok hs hC.2.2.2.2.2.2.2.2.2.2.2.2.2
  have h1 := kk.2 p e R s m args below meth c sz D cy ad H locs rl hC (suf_next hs) hK hH hS hl
  rw [COK.next hc kk.1] at h1
  exact vk_getf hC.2.1 hC.2.2.1 ((hK.2.2.2.2.2.1).1 k hk).2.1 hS hC.2.2.2.2.2.1 (hC.2.2.2.2.2.2.2.2.1 _ (List.mem_cons_of_mem _ hw)) (fun _ h => h) (COK.here hc) h1
theorem p_scom (hw : Cond.fieldLink Y.1.cls ix "java/lang/String" "COMPACT_STRINGS" "Z" ∈ UW) (kk : PW l d Y is ls (vI 1 :: st) M r) : PW l d Y ((pc, .getstatic ix, 3) :: is) ls st M r := by
  refine ⟨by simp, fun p e R s m args below meth c sz D cy ad H locs rl hC hs hK hH hS hl => ?_⟩
  have hc := suf_cok hs hC.2.2.2.2.2.2.2.2.2.2.2.2.2
  have h1 := kk.2 p e R s m args below meth c sz D cy ad H locs rl hC (suf_next hs) hK hH hS hl
  rw [COK.next hc kk.1] at h1
  exact va_gets hC.2.1 hC.2.2.1 hK.2.2.2.2.2.2.1 hS hC.2.2.2.2.2.1 (hC.2.2.2.2.2.2.2.2.1 _ (List.mem_cons_of_mem _ hw)) (fun _ h => h) (COK.here hc) h1
theorem p_sfor (hw : Cond.fieldLink Y.1.cls ix "jdk/internal/util/Preconditions" "SIOOBE_FORMATTER" "Ljava/util/function/BiFunction;" ∈ UW) (k1 : PW l d Y is ls (.inl .null :: st) M r) (k2 : PW l d Y is ls (vR 100100 :: st) M r) : PW l d Y ((pc, .getstatic ix, 3) :: is) ls st M r := by
  refine ⟨by simp, fun p e R s m args below meth c sz D cy ad H locs rl hC hs hK hH hS hl => ?_⟩
  have hc := suf_cok hs hC.2.2.2.2.2.2.2.2.2.2.2.2.2
  rcases hK.2.2.2.2.2.2.2.2.2 with hz | hz
  · have h1 := k1.2 p e R s m args below meth c sz D cy ad H locs rl hC (suf_next hs) hK hH hS hl
    rw [COK.next hc k1.1] at h1
    exact va_gets hC.2.1 hC.2.2.1 hz hS hC.2.2.2.2.2.1 (hC.2.2.2.2.2.2.2.2.1 _ (List.mem_cons_of_mem _ hw)) (fun _ h => h) (COK.here hc) h1
  · have h1 := k2.2 p e R s m args below meth c sz D cy ad H locs rl hC (suf_next hs) hK hH hS hl
    rw [COK.next hc k2.1] at h1
    exact va_gets hC.2.1 hC.2.2.1 hz hS hC.2.2.2.2.2.1 (hC.2.2.2.2.2.2.2.2.1 _ (List.mem_cons_of_mem _ hw)) (fun _ h => h) (COK.here hc) h1
theorem p_salen (hk : k < 11) (kk : PW l d Y is ls (vI (nI (sLen.getD k 0)) :: st) M r) : PW l d Y ((pc, .arraylength, 1) :: is) ls (vG (100000 + k) 0 :: st) M r := by
  refine ⟨by simp, fun p e R s m args below meth c sz D cy ad H locs rl hC hs hK hH hS hl => ?_⟩
  have hc := suf_cok hs hC.2.2.2.2.2.2.2.2.2.2.2.2.2
  have h1 := kk.2 p e R s m args below meth c sz D cy ad H locs rl hC (suf_next hs) hK hH hS hl
  rw [COK.next hc kk.1] at h1
  exact va_tlen hC.2.1 hC.2.2.1 ((hK.2.2.2.2.2.1).1 k hk).2.2.2 hS rfl (COK.here hc) h1
theorem p_sbald {i : Int32} (hk : k < 11) (hi : ixOK i (sLen.getD k 0) = true) (kk : PW l d Y is ls (vI ((sByt.getD k []).getD i.toNatClampNeg 0) :: st) M r) : PW l d Y ((pc, .baload, 1) :: is) ls (vI i :: vG (100000 + k) 0 :: st) M r := by
  refine ⟨by simp, fun p e R s m args below meth c sz D cy ad H locs rl hC hs hK hH hS hl => ?_⟩
  have hc := suf_cok hs hC.2.2.2.2.2.2.2.2.2.2.2.2.2
  have h1 := kk.2 p e R s m args below meth c sz D cy ad H locs rl hC (suf_next hs) hK hH hS hl
  rw [COK.next hc kk.1] at h1
  exact va_tb hC.2.1 hC.2.2.1 ((hK.2.2.2.2.2.1).1 k hk).2.2.2 hS (ixOK_in hi) rfl (COK.here hc) h1
/-- an answer that its type narrows to itself -/
theorem p_nret {x : Int32} {ty : FieldType} (hr : Y.2.2.2.1 = some ty) (hn : narrow ty (.int x) = .int x) : PW l d Y ((pc, .ireturn, 1) :: is) ls [vI x] M (.inl (some (.int x)), M) := by
  refine ⟨by simp, fun p e R s m args below meth c sz D cy ad H locs rl hC hs hK hH hS hl => ?_⟩
  have hc := suf_cok hs hC.2.2.2.2.2.2.2.2.2.2.2.2.2
  exact vx_ret (W.zret hC.2.1 hC.2.2.1 (hC.2.2.2.1.trans hr) hn (fun t ht _ => ⟨_, rfl, rfl, by rw [ht]; exact hH, hS.F ht⟩) hS.2.2 (COK.here hc) hC.2.2.2.2.2.2.1)
/-- a call on a String constant -/
theorem PW.callS {as : List PV} {x : Int32} (hm : MOK Y2 n) (hcls : Y2.1.cls = "java/lang/String") (hn : as.length = n) (hk : k < 11) (hin : INST Y2) (hlk : LNK Y.1.cls ix Y2) (hd : d2 + 1 ≤ d) (hst : catS st ≤ 8) {st0 : List PV} (hs0 : st0 = (vR (100000 + k) :: as).reverse ++ st) (hM : PC l d2 Y2 (vR (100000 + k) :: as) M (.inl (some (.int x)), M)) (kk : PW l d Y is ls (vI x :: st) M r) : PW l d Y ((pc, .invokevirtual ix, 3) :: is) ls st0 M r := by
  subst hs0
  refine ⟨by simp, fun p e R s m args below meth c sz D cy ad H locs rl hC hs hK hH hS hl => ?_⟩
  have hco := suf_cok hs hC.2.2.2.2.2.2.2.2.2.2.2.2.2
  have hts := hC.2.2.2.2.2.2.2.2.1
  have hfr := hC.2.2.2.2.2.2.2.2.2.1
  have hlo := hC.2.2.2.2.2.2.2.2.2.2.1
  have hmx := hm.2.2.2.2.2
  have hMet := vx_toMet (hM sz D cy ad) (fun E st t h => by have := h.1; cases this)
  have hgo : ∀ (H1 : Heap) (locs1 : List Loc), WH sz D cy ad M H1 → va_S (fun q => sz ≤ q) s.heap H1 locs1 → W p l e R s m args below meth c H1 locs1 0 0 (vx_MQ below (QcR sz D cy ad r) (XcR sz D cy ad r) args s (mcR r) (msR r) (fun q => sz ≤ q)) (F0 m (pc + 3) rl ((some (Value.int x)).toList ++ st.map (tr ad))) := fun H1 locs1 a1 a2 => by
    have h1 := kk.2 p e R s m args below meth c sz D cy ad H1 locs1 rl hC (suf_next hs) hK a1 a2 hl
    rw [COK.next hco kk.1] at h1
    exact h1
  have hW8 : 2 * (F0 m pc rl (((vR (100000 + k) :: as).reverse ++ st).map (tr ad))).monitorRoom + ((st.map (tr ad)).map fun v => v.category).sum ≤ 8 := by
    rw [catS_tr]
    show 2 * 0 + catS st ≤ 8
    omega
  have hpre : ∀ U : State, U.heap = H → s.WarmedH U.vm → va_Pc ((vR (100000 + k) :: as).map (tr ad)) (fun U => Kx sz D cy ad U ∧ WH sz D cy ad M U.heap) ((vR (100000 + k) :: as).map (tr ad)).toArray U := fun U hU hWm =>
    ⟨rfl, Kx.on hK hWm (by rw [hU]; exact hS.1) (fun a h1 h2 => by rw [hU]; exact hS.2.1 a h1 h2), by rw [hU]; exact hH⟩
  have fix : CallFix p m c Y.2.1 Y.2.2.1 s args (wsY Y) Y.1.cls := ⟨hC.2.1, hC.2.2.1, hC.2.2.2.2.1, hC.2.2.2.2.2.1, hts⟩
  have hrecv := vk_recv hK.2.2.2.2.2.1 hk hS
  rw [← hcls] at hrecv
  have hstack : ((vR (100000 + k) :: as).reverse ++ st).map (tr ad) = (as.map (tr ad)).reverse ++ .ref (ad (100000 + k) 0) :: st.map (tr ad) := by
    simp [List.map_append, List.map_reverse, tr]
  have hgood : GoodIn (wsY Y) (wsV Y.1.cls ix Y2.1.cls Y2.1 (wsY Y2)) := fun w hw => by
    rcases List.mem_append.mp hw with hw | hw
    · simp only [List.mem_cons, List.not_mem_nil, or_false] at hw
      rcases hw with rfl | rfl | rfl | rfl
      · exact ⟨List.mem_cons_of_mem _ hlk, good_of_word (UW_good hlk)⟩
      · exact ⟨List.mem_cons_of_mem _ hin.1, good_of_word (UW_good hin.1)⟩
      · exact ⟨List.mem_cons_of_mem _ hin.2, good_of_word (UW_good hin.2)⟩
      · exact ⟨List.mem_cons_of_mem _ hm.2.1, good_of_word (UW_good hm.2.1)⟩
    · exact wsY_good Y Y2 hm w hw
  exact W.back (va_runV (As := as.map (tr ad)) (b := ad (100000 + k) 0) (rest := st.map (tr ad)) (C := Y2.1.cls) fix hMet (cwV n hts hgood rfl rfl rfl ⟨rfl, hm.2.2.1, hm.2.2.2.1, hm.2.2.2.2.1⟩ ⟨by show d2 + 1 ≤ R.frames; omega, by show 8 + (Y2.2.2.1 + 11) + 64 * d2 ≤ R.locals; omega⟩) ⟨Kx.blind, hrecv, hpre⟩ rfl (by rw [List.length_map]; exact hn) hl.1 hstack hW8 (COK.here hco) ⟨Nat.zero_le _, Nat.zero_le _⟩) hS hgo
end Str
