theorem p_iconst {l : Launch} {d : Nat} {Y : MD} {pc : Nat} {is : List CI} {ls st : List PV} {M : PM} {r : PR} {n : Int} {v : Int32} (hv : Int32.ofInt n = v) (k : PW l d Y is ls (vI v :: st) M r) : PW l d Y ((pc, .iconst n, 1) :: is) ls (st) M r := PW.op k (fun hC hl hd h => lv_iconst hC.2.1 hC.2.2.1 hd hv h)
theorem p_bipush {l : Launch} {d : Nat} {Y : MD} {pc : Nat} {is : List CI} {ls st : List PV} {M : PM} {r : PR} {n : Int} {v : Int32} (hv : (Int8.ofInt n).toInt32 = v) (k : PW l d Y is ls (vI v :: st) M r) : PW l d Y ((pc, .bipush n, 2) :: is) ls (st) M r := PW.op k (fun hC hl hd h => lv_bipush hC.2.1 hC.2.2.1 hd hv h)
theorem p_sipush {l : Launch} {d : Nat} {Y : MD} {pc : Nat} {is : List CI} {ls st : List PV} {M : PM} {r : PR} {n : Int} {v : Int32} (hv : (Int16.ofInt n).toInt32 = v) (k : PW l d Y is ls (vI v :: st) M r) : PW l d Y ((pc, .sipush n, 3) :: is) ls (st) M r := PW.op k (fun hC hl hd h => lv_sipush hC.2.1 hC.2.2.1 hd hv h)
theorem p_lconst {l : Launch} {d : Nat} {Y : MD} {pc : Nat} {is : List CI} {ls st : List PV} {M : PM} {r : PR} {n : Fin 2} {v : Int64} (hv : Int64.ofNat (n : Nat) = v) (k : PW l d Y is ls (vJ v :: st) M r) : PW l d Y ((pc, .lconst n, 1) :: is) ls (st) M r := PW.op k (fun hC hl hd h => lv_lconst hC.2.1 hC.2.2.1 hd hv h)
theorem p_ldc {l : Launch} {d : Nat} {Y : MD} {pc : Nat} {is : List CI} {ls st : List PV} {M : PM} {r : PR} {ix : Nat} {v : Int32} (hw : Cond.constant Y.1.cls ix v ∈ UW) (k : PW l d Y is ls (vI v :: st) M r) : PW l d Y ((pc, .ldc ix, 2) :: is) ls (st) M r := PW.op k (fun hC hl hd h => lv_ldc hC.2.1 hC.2.2.1 hC.2.2.2.2.2.1 (hC.2.2.2.2.2.2.2.2.1 _ (List.mem_cons_of_mem _ hw)) hd h)
theorem p_ldc_w {l : Launch} {d : Nat} {Y : MD} {pc : Nat} {is : List CI} {ls st : List PV} {M : PM} {r : PR} {ix : Nat} {v : Int32} (hw : Cond.constant Y.1.cls ix v ∈ UW) (k : PW l d Y is ls (vI v :: st) M r) : PW l d Y ((pc, .ldc_w ix, 3) :: is) ls (st) M r := PW.op k (fun hC hl hd h => lv_ldcw hC.2.1 hC.2.2.1 hC.2.2.2.2.2.1 (hC.2.2.2.2.2.2.2.2.1 _ (List.mem_cons_of_mem _ hw)) hd h)
theorem p_ldc2_w {l : Launch} {d : Nat} {Y : MD} {pc : Nat} {is : List CI} {ls st : List PV} {M : PM} {r : PR} {ix : Nat} {v : Int64} (hw : Cond.constantLong Y.1.cls ix v ∈ UW) (k : PW l d Y is ls (vJ v :: st) M r) : PW l d Y ((pc, .ldc2_w ix, 3) :: is) ls (st) M r := PW.op k (fun hC hl hd h => lv_ldc2 hC.2.1 hC.2.2.1 hC.2.2.2.2.2.1 (hC.2.2.2.2.2.2.2.2.1 _ (List.mem_cons_of_mem _ hw)) hd h)
theorem p_iload_n {l : Launch} {d : Nat} {Y : MD} {pc : Nat} {is : List CI} {ls st : List PV} {M : PM} {r : PR} {n : Fin 4} {x : Int32} (hx : ls[(n : Nat)]? = some (vI x)) (k : PW l d Y is ls (vI x :: st) M r) : PW l d Y ((pc, .iload_n n, 1) :: is) ls (st) M r := PW.op k (fun hC hl hd h => lv_iload_n hC.2.1 hC.2.2.1 hd rfl (hl _ _ hx (by simp [jk])) h)
theorem p_iload {l : Launch} {d : Nat} {Y : MD} {pc : Nat} {is : List CI} {ls st : List PV} {M : PM} {r : PR} {n : Nat} {x : Int32} (hx : ls[n]? = some (vI x)) (k : PW l d Y is ls (vI x :: st) M r) : PW l d Y ((pc, .iload n, 2) :: is) ls (st) M r := PW.op k (fun hC hl hd h => lv_iload hC.2.1 hC.2.2.1 hd (hl _ _ hx (by simp [jk])) h)
theorem p_lload_n {l : Launch} {d : Nat} {Y : MD} {pc : Nat} {is : List CI} {ls st : List PV} {M : PM} {r : PR} {n : Fin 4} {x : Int64} (hx : ls[(n : Nat)]? = some (vJ x)) (k : PW l d Y is ls (vJ x :: st) M r) : PW l d Y ((pc, .lload_n n, 1) :: is) ls (st) M r := PW.op k (fun hC hl hd h => lv_lload_n hC.2.1 hC.2.2.1 hd rfl (hl _ _ hx (by simp [jk])) h)
theorem p_lload {l : Launch} {d : Nat} {Y : MD} {pc : Nat} {is : List CI} {ls st : List PV} {M : PM} {r : PR} {n : Nat} {x : Int64} (hx : ls[n]? = some (vJ x)) (k : PW l d Y is ls (vJ x :: st) M r) : PW l d Y ((pc, .lload n, 2) :: is) ls (st) M r := PW.op k (fun hC hl hd h => lv_lload hC.2.1 hC.2.2.1 hd (hl _ _ hx (by simp [jk])) h)
theorem p_aload_n {l : Launch} {d : Nat} {Y : MD} {pc : Nat} {is : List CI} {ls st : List PV} {M : PM} {r : PR} {n : Fin 4} {q : Nat} (hx : ls[(n : Nat)]? = some (vR q)) (k : PW l d Y is ls (vR q :: st) M r) : PW l d Y ((pc, .aload_n n, 1) :: is) ls (st) M r := PW.op k (fun hC hl hd h => lv_aload_n hC.2.1 hC.2.2.1 hd rfl (hl _ _ hx (by simp [jk])) h)
theorem p_aload {l : Launch} {d : Nat} {Y : MD} {pc : Nat} {is : List CI} {ls st : List PV} {M : PM} {r : PR} {n q : Nat} (hx : ls[n]? = some (vR q)) (k : PW l d Y is ls (vR q :: st) M r) : PW l d Y ((pc, .aload n, 2) :: is) ls (st) M r := PW.op k (fun hC hl hd h => lv_aload hC.2.1 hC.2.2.1 hd (hl _ _ hx (by simp [jk])) h)
theorem p_aload_nG {l : Launch} {d : Nat} {Y : MD} {pc : Nat} {is : List CI} {ls st : List PV} {M : PM} {r : PR} {n : Fin 4} {g i : Nat} (hx : ls[(n : Nat)]? = some (vG g i)) (k : PW l d Y is ls (vG g i :: st) M r) : PW l d Y ((pc, .aload_n n, 1) :: is) ls (st) M r := PW.op k (fun hC hl hd h => lv_aload_n hC.2.1 hC.2.2.1 hd rfl (hl _ _ hx (by simp [jk])) h)
theorem p_iadd {l : Launch} {d : Nat} {Y : MD} {pc : Nat} {is : List CI} {ls st : List PV} {M : PM} {r : PR} {x y : Int32} (k : PW l d Y is ls (vI (x + y) :: st) M r) : PW l d Y ((pc, .iadd, 1) :: is) ls (vI y :: vI x :: st) M r := PW.op k (fun hC hl hd h => lv_iadd hC.2.1 hC.2.2.1 hd h)
theorem p_isub {l : Launch} {d : Nat} {Y : MD} {pc : Nat} {is : List CI} {ls st : List PV} {M : PM} {r : PR} {x y : Int32} (k : PW l d Y is ls (vI (x - y) :: st) M r) : PW l d Y ((pc, .isub, 1) :: is) ls (vI y :: vI x :: st) M r := PW.op k (fun hC hl hd h => lv_isub hC.2.1 hC.2.2.1 hd h)
theorem p_imul {l : Launch} {d : Nat} {Y : MD} {pc : Nat} {is : List CI} {ls st : List PV} {M : PM} {r : PR} {x y : Int32} (k : PW l d Y is ls (vI (x * y) :: st) M r) : PW l d Y ((pc, .imul, 1) :: is) ls (vI y :: vI x :: st) M r := PW.op k (fun hC hl hd h => lv_imul hC.2.1 hC.2.2.1 hd h)
theorem p_iand {l : Launch} {d : Nat} {Y : MD} {pc : Nat} {is : List CI} {ls st : List PV} {M : PM} {r : PR} {x y : Int32} (k : PW l d Y is ls (vI (x &&& y) :: st) M r) : PW l d Y ((pc, .iand, 1) :: is) ls (vI y :: vI x :: st) M r := PW.op k (fun hC hl hd h => lv_iand hC.2.1 hC.2.2.1 hd h)
theorem p_ior {l : Launch} {d : Nat} {Y : MD} {pc : Nat} {is : List CI} {ls st : List PV} {M : PM} {r : PR} {x y : Int32} (k : PW l d Y is ls (vI (x ||| y) :: st) M r) : PW l d Y ((pc, .ior, 1) :: is) ls (vI y :: vI x :: st) M r := PW.op k (fun hC hl hd h => lv_ior hC.2.1 hC.2.2.1 hd h)
theorem p_ixor {l : Launch} {d : Nat} {Y : MD} {pc : Nat} {is : List CI} {ls st : List PV} {M : PM} {r : PR} {x y : Int32} (k : PW l d Y is ls (vI (x ^^^ y) :: st) M r) : PW l d Y ((pc, .ixor, 1) :: is) ls (vI y :: vI x :: st) M r := PW.op k (fun hC hl hd h => lv_ixor hC.2.1 hC.2.2.1 hd h)
theorem p_ishl {l : Launch} {d : Nat} {Y : MD} {pc : Nat} {is : List CI} {ls st : List PV} {M : PM} {r : PR} {x y : Int32} (k : PW l d Y is ls (vI (x <<< (y &&& 31)) :: st) M r) : PW l d Y ((pc, .ishl, 1) :: is) ls (vI y :: vI x :: st) M r := PW.op k (fun hC hl hd h => lv_ishl hC.2.1 hC.2.2.1 hd h)
theorem p_ishr {l : Launch} {d : Nat} {Y : MD} {pc : Nat} {is : List CI} {ls st : List PV} {M : PM} {r : PR} {x y : Int32} (k : PW l d Y is ls (vI (x >>> (y &&& 31)) :: st) M r) : PW l d Y ((pc, .ishr, 1) :: is) ls (vI y :: vI x :: st) M r := PW.op k (fun hC hl hd h => lv_ishr hC.2.1 hC.2.2.1 hd h)
theorem p_ladd {l : Launch} {d : Nat} {Y : MD} {pc : Nat} {is : List CI} {ls st : List PV} {M : PM} {r : PR} {x y : Int64} (k : PW l d Y is ls (vJ (x + y) :: st) M r) : PW l d Y ((pc, .ladd, 1) :: is) ls (vJ y :: vJ x :: st) M r := PW.op k (fun hC hl hd h => lv_ladd hC.2.1 hC.2.2.1 hd h)
theorem p_lsub {l : Launch} {d : Nat} {Y : MD} {pc : Nat} {is : List CI} {ls st : List PV} {M : PM} {r : PR} {x y : Int64} (k : PW l d Y is ls (vJ (x - y) :: st) M r) : PW l d Y ((pc, .lsub, 1) :: is) ls (vJ y :: vJ x :: st) M r := PW.op k (fun hC hl hd h => lv_lsub hC.2.1 hC.2.2.1 hd h)
theorem p_lmul {l : Launch} {d : Nat} {Y : MD} {pc : Nat} {is : List CI} {ls st : List PV} {M : PM} {r : PR} {x y : Int64} (k : PW l d Y is ls (vJ (x * y) :: st) M r) : PW l d Y ((pc, .lmul, 1) :: is) ls (vJ y :: vJ x :: st) M r := PW.op k (fun hC hl hd h => lv_lmul hC.2.1 hC.2.2.1 hd h)
theorem p_land {l : Launch} {d : Nat} {Y : MD} {pc : Nat} {is : List CI} {ls st : List PV} {M : PM} {r : PR} {x y : Int64} (k : PW l d Y is ls (vJ (x &&& y) :: st) M r) : PW l d Y ((pc, .land, 1) :: is) ls (vJ y :: vJ x :: st) M r := PW.op k (fun hC hl hd h => lv_land hC.2.1 hC.2.2.1 hd h)
theorem p_lor {l : Launch} {d : Nat} {Y : MD} {pc : Nat} {is : List CI} {ls st : List PV} {M : PM} {r : PR} {x y : Int64} (k : PW l d Y is ls (vJ (x ||| y) :: st) M r) : PW l d Y ((pc, .lor, 1) :: is) ls (vJ y :: vJ x :: st) M r := PW.op k (fun hC hl hd h => lv_lor hC.2.1 hC.2.2.1 hd h)
theorem p_lxor {l : Launch} {d : Nat} {Y : MD} {pc : Nat} {is : List CI} {ls st : List PV} {M : PM} {r : PR} {x y : Int64} (k : PW l d Y is ls (vJ (x ^^^ y) :: st) M r) : PW l d Y ((pc, .lxor, 1) :: is) ls (vJ y :: vJ x :: st) M r := PW.op k (fun hC hl hd h => lv_lxor hC.2.1 hC.2.2.1 hd h)
theorem p_iushr {l : Launch} {d : Nat} {Y : MD} {pc : Nat} {is : List CI} {ls st : List PV} {M : PM} {r : PR} {x y : Int32} (k : PW l d Y is ls (vI ((x.toUInt32 >>> (y.toUInt32 &&& Int32.toUInt32 31)).toInt32) :: st) M r) : PW l d Y ((pc, .iushr, 1) :: is) ls (vI y :: vI x :: st) M r := PW.op k (fun hC hl hd h => lv_iushr hC.2.1 hC.2.2.1 hd rfl h)
theorem p_lushr {l : Launch} {d : Nat} {Y : MD} {pc : Nat} {is : List CI} {ls st : List PV} {M : PM} {r : PR} {x : Int64} {y : Int32} (k : PW l d Y is ls (vJ ((x.toUInt64 >>> (y.toInt64.toUInt64 &&& Int64.toUInt64 63)).toInt64) :: st) M r) : PW l d Y ((pc, .lushr, 1) :: is) ls (vI y :: vJ x :: st) M r := PW.op k (fun hC hl hd h => lv_lushr hC.2.1 hC.2.2.1 hd rfl h)
theorem p_lshl {l : Launch} {d : Nat} {Y : MD} {pc : Nat} {is : List CI} {ls st : List PV} {M : PM} {r : PR} {x : Int64} {y : Int32} (k : PW l d Y is ls (vJ (x <<< (y.toInt64 &&& 63)) :: st) M r) : PW l d Y ((pc, .lshl, 1) :: is) ls (vI y :: vJ x :: st) M r := PW.op k (fun hC hl hd h => lv_lshl hC.2.1 hC.2.2.1 hd rfl h)
theorem p_lneg {l : Launch} {d : Nat} {Y : MD} {pc : Nat} {is : List CI} {ls st : List PV} {M : PM} {r : PR} {x : Int64} (k : PW l d Y is ls (vJ (-x) :: st) M r) : PW l d Y ((pc, .lneg, 1) :: is) ls (vJ x :: st) M r := PW.op k (fun hC hl hd h => lv_lneg hC.2.1 hC.2.2.1 hd h)
theorem p_i2l {l : Launch} {d : Nat} {Y : MD} {pc : Nat} {is : List CI} {ls st : List PV} {M : PM} {r : PR} {x : Int32} (k : PW l d Y is ls (vJ x.toInt64 :: st) M r) : PW l d Y ((pc, .i2l, 1) :: is) ls (vI x :: st) M r := PW.op k (fun hC hl hd h => lv_i2l hC.2.1 hC.2.2.1 hd rfl h)
theorem p_l2i {l : Launch} {d : Nat} {Y : MD} {pc : Nat} {is : List CI} {ls st : List PV} {M : PM} {r : PR} {x : Int64} (k : PW l d Y is ls (vI x.toInt32 :: st) M r) : PW l d Y ((pc, .l2i, 1) :: is) ls (vJ x :: st) M r := PW.op k (fun hC hl hd h => lv_l2i hC.2.1 hC.2.2.1 hd rfl h)
theorem p_i2c {l : Launch} {d : Nat} {Y : MD} {pc : Nat} {is : List CI} {ls st : List PV} {M : PM} {r : PR} {x : Int32} (k : PW l d Y is ls (vI (x.toUInt32 % 65536).toInt32 :: st) M r) : PW l d Y ((pc, .i2c, 1) :: is) ls (vI x :: st) M r := PW.op k (fun hC hl hd h => lv_i2c hC.2.1 hC.2.2.1 hd rfl h)
theorem p_lcmp {l : Launch} {d : Nat} {Y : MD} {pc : Nat} {is : List CI} {ls st : List PV} {M : PM} {r : PR} {x y : Int64} (k : PW l d Y is ls (vI (lg_cmp x y) :: st) M r) : PW l d Y ((pc, .lcmp, 1) :: is) ls (vJ y :: vJ x :: st) M r := PW.op k (fun hC hl hd h => W.lcmp hC.2.1 hC.2.2.1 hd h)
theorem p_dup {l : Launch} {d : Nat} {Y : MD} {pc : Nat} {is : List CI} {ls st : List PV} {M : PM} {r : PR} {v : PV} (hv : cat2 v = false) (k : PW l d Y is ls (v :: v :: st) M r) : PW l d Y ((pc, .dup, 1) :: is) ls (v :: st) M r := PW.op k (fun hC hl hd h => lv_dup hC.2.1 hC.2.2.1 hd (by rw [tr_cat, hv]; rfl) h)
theorem p_pop {l : Launch} {d : Nat} {Y : MD} {pc : Nat} {is : List CI} {ls st : List PV} {M : PM} {r : PR} {v : PV} (hv : cat2 v = false) (k : PW l d Y is ls (st) M r) : PW l d Y ((pc, .pop, 1) :: is) ls (v :: st) M r := PW.op k (fun hC hl hd h => lv_pop hC.2.1 hC.2.2.1 hd (by rw [tr_cat, hv]; rfl) h)
theorem p_dup2 {l : Launch} {d : Nat} {Y : MD} {pc : Nat} {is : List CI} {ls st : List PV} {M : PM} {r : PR} {v w : PV} (hv : cat2 v = false) (hw : cat2 w = false) (k : PW l d Y is ls (v :: w :: v :: w :: st) M r) : PW l d Y ((pc, .dup2, 1) :: is) ls (v :: w :: st) M r := PW.op k (fun hC hl hd h => lv_dup2_11 hC.2.1 hC.2.2.1 hd (by rw [tr_cat, hv]; rfl) (by rw [tr_cat, hw]; rfl) h)
theorem p_dup2J {l : Launch} {d : Nat} {Y : MD} {pc : Nat} {is : List CI} {ls st : List PV} {M : PM} {r : PR} {x : Int64} (k : PW l d Y is ls (vJ x :: vJ x :: st) M r) : PW l d Y ((pc, .dup2, 1) :: is) ls (vJ x :: st) M r := PW.op k (fun hC hl hd h => lv_dup2_2 hC.2.1 hC.2.2.1 hd rfl h)
theorem p_idiv {l : Launch} {d : Nat} {Y : MD} {pc : Nat} {is : List CI} {ls st : List PV} {M : PM} {r : PR} {x y : Int32} {X : Option PR} (h : (if y = 0 then none else X) = some r) (k : X = some r → PW l d Y is ls (vI (x / y) :: st) M r) : PW l d Y ((pc, .idiv, 1) :: is) ls (vI y :: vI x :: st) M r := by
  by_cases hy : y = 0
  · rw [if_pos hy] at h; cases h
  · rw [if_neg hy] at h; exact PW.op (k h) (fun hC hl hd h => lv_idiv hC.2.1 hC.2.2.1 hd hy h)
theorem p_irem {l : Launch} {d : Nat} {Y : MD} {pc : Nat} {is : List CI} {ls st : List PV} {M : PM} {r : PR} {x y : Int32} {X : Option PR} (h : (if y = 0 then none else X) = some r) (k : X = some r → PW l d Y is ls (vI (x - x / y * y) :: st) M r) : PW l d Y ((pc, .irem, 1) :: is) ls (vI y :: vI x :: st) M r := by
  by_cases hy : y = 0
  · rw [if_pos hy] at h; cases h
  · rw [if_neg hy] at h; exact PW.op (k h) (fun hC hl hd h => lv_irem hC.2.1 hC.2.2.1 hd hy h)
theorem p_ldiv {l : Launch} {d : Nat} {Y : MD} {pc : Nat} {is : List CI} {ls st : List PV} {M : PM} {r : PR} {x y : Int64} {X : Option PR} (h : (if y = 0 then none else X) = some r) (k : X = some r → PW l d Y is ls (vJ (x / y) :: st) M r) : PW l d Y ((pc, .ldiv, 1) :: is) ls (vJ y :: vJ x :: st) M r := by
  by_cases hy : y = 0
  · rw [if_pos hy] at h; cases h
  · rw [if_neg hy] at h; exact PW.op (k h) (fun hC hl hd h => lv_ldiv hC.2.1 hC.2.2.1 hd hy h)
theorem p_lrem {l : Launch} {d : Nat} {Y : MD} {pc : Nat} {is : List CI} {ls st : List PV} {M : PM} {r : PR} {x y : Int64} {X : Option PR} (h : (if y = 0 then none else X) = some r) (k : X = some r → PW l d Y is ls (vJ (x - x / y * y) :: st) M r) : PW l d Y ((pc, .lrem, 1) :: is) ls (vJ y :: vJ x :: st) M r := by
  by_cases hy : y = 0
  · rw [if_pos hy] at h; cases h
  · rw [if_neg hy] at h; exact PW.op (k h) (fun hC hl hd h => lv_lrem hC.2.1 hC.2.2.1 hd hy h)
/-- a branch -/
theorem PW.br {l : Launch} {d : Nat} {Y : MD} {pc : Nat} {i : Instr} {is js : List CI} {ls st st' : List PV} {M : PM} {r : PR} {tg : Nat} {c0 : Prop} [Decidable c0] {X Z : Option PR} (h : (if c0 then X else Z) = some r) (kn : Nat) (hj : Y.code.drop kn = js) (ht : hdpc js = tg)
    (kt : c0 → X = some r → PW l d Y js ls st' M r) (kf : ¬ c0 → Z = some r → PW l d Y is ls st' M r)
    (hT : c0 → ∀ {p : Program} {e : Env} {R : Room} {s : State} {m : MethodId} {args : Array Value} {below : List Frame} {meth : Method} {c : Code} {H : Heap} {locs : List Loc} {rl : Array Slot} {Q : State → Prop} {ad : Nat → Nat → Nat}, Cx l d Y r p R s m args meth c → decode Y.2.1 pc = .ok (i, 3) → W p l e R s m args below meth c H locs 0 0 Q (F0 m tg rl (st'.map (tr ad))) → W p l e R s m args below meth c H locs 0 0 Q (F0 m pc rl (st.map (tr ad))))
    (hF : ¬ c0 → ∀ {p : Program} {e : Env} {R : Room} {s : State} {m : MethodId} {args : Array Value} {below : List Frame} {meth : Method} {c : Code} {H : Heap} {locs : List Loc} {rl : Array Slot} {Q : State → Prop} {ad : Nat → Nat → Nat}, Cx l d Y r p R s m args meth c → decode Y.2.1 pc = .ok (i, 3) → W p l e R s m args below meth c H locs 0 0 Q (F0 m (pc + 3) rl (st'.map (tr ad))) → W p l e R s m args below meth c H locs 0 0 Q (F0 m pc rl (st.map (tr ad)))) : PW l d Y ((pc, i, 3) :: is) ls st M r := by
  refine ⟨by simp, fun p e R s m args below meth c sz D cy ad H locs rl hC hs hK hH hS hl => ?_⟩
  have hc := suf_cok hs hC.2.2.2.2.2.2.2.2.2.2.2.2.2
  by_cases hcc : c0
  · rw [if_pos hcc] at h
    have h1 := (kt hcc h).2 p e R s m args below meth c sz D cy ad H locs rl hC ⟨kn, hj⟩ hK hH hS hl
    rw [ht] at h1
    exact hT hcc hC (COK.here hc) h1
  · rw [if_neg hcc] at h
    have h1 := (kf hcc h).2 p e R s m args below meth c sz D cy ad H locs rl hC (suf_next hs) hK hH hS hl
    rw [COK.next hc (kf hcc h).1] at h1
    exact hF hcc hC (COK.here hc) h1
theorem p_icmp_eq {l : Launch} {d : Nat} {Y : MD} {pc : Nat} {is : List CI} {ls st : List PV} {M : PM} {r : PR} {x y : Int32} {js : List CI} {off : Int} {X Z : Option PR} (h : (if x = y then X else Z) = some r) (kn : Nat) (hj : Y.code.drop kn = js) (ht : (pc : Int) + off = (hdpc js : Int)) (kt : x = y → X = some r → PW l d Y js ls st M r) (kf : ¬ (x = y) → Z = some r → PW l d Y is ls st M r) : PW l d Y ((pc, .if_icmp .eq off, 3) :: is) ls (vI y :: vI x :: st) M r :=
  PW.br h kn hj rfl kt kf (fun hc => fun hC hd k => lv_icmp_eq hC.2.1 hC.2.2.1 hd ht (fun _ => k) (fun n => absurd hc n)) (fun hc => fun hC hd k => lv_icmp_eq hC.2.1 hC.2.2.1 hd ht (fun y => absurd y hc) (fun _ => k))
theorem p_if_eq {l : Launch} {d : Nat} {Y : MD} {pc : Nat} {is : List CI} {ls st : List PV} {M : PM} {r : PR} {x : Int32} {js : List CI} {off : Int} {X Z : Option PR} (h : (if x = 0 then X else Z) = some r) (kn : Nat) (hj : Y.code.drop kn = js) (ht : (pc : Int) + off = (hdpc js : Int)) (kt : x = 0 → X = some r → PW l d Y js ls st M r) (kf : ¬ (x = 0) → Z = some r → PW l d Y is ls st M r) : PW l d Y ((pc, .ifCond .eq off, 3) :: is) ls (vI x :: st) M r :=
  PW.br h kn hj rfl kt kf (fun hc => fun hC hd k => lv_if_eq hC.2.1 hC.2.2.1 hd ht (fun _ => k) (fun n => absurd hc n)) (fun hc => fun hC hd k => lv_if_eq hC.2.1 hC.2.2.1 hd ht (fun y => absurd y hc) (fun _ => k))
theorem p_icmp_lt {l : Launch} {d : Nat} {Y : MD} {pc : Nat} {is : List CI} {ls st : List PV} {M : PM} {r : PR} {x y : Int32} {js : List CI} {off : Int} {X Z : Option PR} (h : (if x < y then X else Z) = some r) (kn : Nat) (hj : Y.code.drop kn = js) (ht : (pc : Int) + off = (hdpc js : Int)) (kt : x < y → X = some r → PW l d Y js ls st M r) (kf : ¬ (x < y) → Z = some r → PW l d Y is ls st M r) : PW l d Y ((pc, .if_icmp .lt off, 3) :: is) ls (vI y :: vI x :: st) M r :=
  PW.br h kn hj rfl kt kf (fun hc => fun hC hd k => lv_icmp_lt hC.2.1 hC.2.2.1 hd ht (fun _ => k) (fun n => absurd hc n)) (fun hc => fun hC hd k => lv_icmp_lt hC.2.1 hC.2.2.1 hd ht (fun y => absurd y hc) (fun _ => k))
theorem p_if_lt {l : Launch} {d : Nat} {Y : MD} {pc : Nat} {is : List CI} {ls st : List PV} {M : PM} {r : PR} {x : Int32} {js : List CI} {off : Int} {X Z : Option PR} (h : (if x < 0 then X else Z) = some r) (kn : Nat) (hj : Y.code.drop kn = js) (ht : (pc : Int) + off = (hdpc js : Int)) (kt : x < 0 → X = some r → PW l d Y js ls st M r) (kf : ¬ (x < 0) → Z = some r → PW l d Y is ls st M r) : PW l d Y ((pc, .ifCond .lt off, 3) :: is) ls (vI x :: st) M r :=
  PW.br h kn hj rfl kt kf (fun hc => fun hC hd k => lv_if_lt hC.2.1 hC.2.2.1 hd ht (fun _ => k) (fun n => absurd hc n)) (fun hc => fun hC hd k => lv_if_lt hC.2.1 hC.2.2.1 hd ht (fun y => absurd y hc) (fun _ => k))
theorem p_icmp_ge {l : Launch} {d : Nat} {Y : MD} {pc : Nat} {is : List CI} {ls st : List PV} {M : PM} {r : PR} {x y : Int32} {js : List CI} {off : Int} {X Z : Option PR} (h : (if y ≤ x then X else Z) = some r) (kn : Nat) (hj : Y.code.drop kn = js) (ht : (pc : Int) + off = (hdpc js : Int)) (kt : y ≤ x → X = some r → PW l d Y js ls st M r) (kf : ¬ (y ≤ x) → Z = some r → PW l d Y is ls st M r) : PW l d Y ((pc, .if_icmp .ge off, 3) :: is) ls (vI y :: vI x :: st) M r :=
  PW.br h kn hj rfl kt kf (fun hc => fun hC hd k => lv_icmp_ge hC.2.1 hC.2.2.1 hd ht (fun _ => k) (fun n => absurd hc n)) (fun hc => fun hC hd k => lv_icmp_ge hC.2.1 hC.2.2.1 hd ht (fun y => absurd y hc) (fun _ => k))
theorem p_if_ge {l : Launch} {d : Nat} {Y : MD} {pc : Nat} {is : List CI} {ls st : List PV} {M : PM} {r : PR} {x : Int32} {js : List CI} {off : Int} {X Z : Option PR} (h : (if 0 ≤ x then X else Z) = some r) (kn : Nat) (hj : Y.code.drop kn = js) (ht : (pc : Int) + off = (hdpc js : Int)) (kt : 0 ≤ x → X = some r → PW l d Y js ls st M r) (kf : ¬ (0 ≤ x) → Z = some r → PW l d Y is ls st M r) : PW l d Y ((pc, .ifCond .ge off, 3) :: is) ls (vI x :: st) M r :=
  PW.br h kn hj rfl kt kf (fun hc => fun hC hd k => lv_if_ge hC.2.1 hC.2.2.1 hd ht (fun _ => k) (fun n => absurd hc n)) (fun hc => fun hC hd k => lv_if_ge hC.2.1 hC.2.2.1 hd ht (fun y => absurd y hc) (fun _ => k))
theorem p_icmp_gt {l : Launch} {d : Nat} {Y : MD} {pc : Nat} {is : List CI} {ls st : List PV} {M : PM} {r : PR} {x y : Int32} {js : List CI} {off : Int} {X Z : Option PR} (h : (if y < x then X else Z) = some r) (kn : Nat) (hj : Y.code.drop kn = js) (ht : (pc : Int) + off = (hdpc js : Int)) (kt : y < x → X = some r → PW l d Y js ls st M r) (kf : ¬ (y < x) → Z = some r → PW l d Y is ls st M r) : PW l d Y ((pc, .if_icmp .gt off, 3) :: is) ls (vI y :: vI x :: st) M r :=
  PW.br h kn hj rfl kt kf (fun hc => fun hC hd k => lv_icmp_gt hC.2.1 hC.2.2.1 hd ht (fun _ => k) (fun n => absurd hc n)) (fun hc => fun hC hd k => lv_icmp_gt hC.2.1 hC.2.2.1 hd ht (fun y => absurd y hc) (fun _ => k))
theorem p_if_gt {l : Launch} {d : Nat} {Y : MD} {pc : Nat} {is : List CI} {ls st : List PV} {M : PM} {r : PR} {x : Int32} {js : List CI} {off : Int} {X Z : Option PR} (h : (if 0 < x then X else Z) = some r) (kn : Nat) (hj : Y.code.drop kn = js) (ht : (pc : Int) + off = (hdpc js : Int)) (kt : 0 < x → X = some r → PW l d Y js ls st M r) (kf : ¬ (0 < x) → Z = some r → PW l d Y is ls st M r) : PW l d Y ((pc, .ifCond .gt off, 3) :: is) ls (vI x :: st) M r :=
  PW.br h kn hj rfl kt kf (fun hc => fun hC hd k => lv_if_gt hC.2.1 hC.2.2.1 hd ht (fun _ => k) (fun n => absurd hc n)) (fun hc => fun hC hd k => lv_if_gt hC.2.1 hC.2.2.1 hd ht (fun y => absurd y hc) (fun _ => k))
theorem p_icmp_le {l : Launch} {d : Nat} {Y : MD} {pc : Nat} {is : List CI} {ls st : List PV} {M : PM} {r : PR} {x y : Int32} {js : List CI} {off : Int} {X Z : Option PR} (h : (if x ≤ y then X else Z) = some r) (kn : Nat) (hj : Y.code.drop kn = js) (ht : (pc : Int) + off = (hdpc js : Int)) (kt : x ≤ y → X = some r → PW l d Y js ls st M r) (kf : ¬ (x ≤ y) → Z = some r → PW l d Y is ls st M r) : PW l d Y ((pc, .if_icmp .le off, 3) :: is) ls (vI y :: vI x :: st) M r :=
  PW.br h kn hj rfl kt kf (fun hc => fun hC hd k => lv_icmp_le hC.2.1 hC.2.2.1 hd ht (fun _ => k) (fun n => absurd hc n)) (fun hc => fun hC hd k => lv_icmp_le hC.2.1 hC.2.2.1 hd ht (fun y => absurd y hc) (fun _ => k))
theorem p_if_le {l : Launch} {d : Nat} {Y : MD} {pc : Nat} {is : List CI} {ls st : List PV} {M : PM} {r : PR} {x : Int32} {js : List CI} {off : Int} {X Z : Option PR} (h : (if x ≤ 0 then X else Z) = some r) (kn : Nat) (hj : Y.code.drop kn = js) (ht : (pc : Int) + off = (hdpc js : Int)) (kt : x ≤ 0 → X = some r → PW l d Y js ls st M r) (kf : ¬ (x ≤ 0) → Z = some r → PW l d Y is ls st M r) : PW l d Y ((pc, .ifCond .le off, 3) :: is) ls (vI x :: st) M r :=
  PW.br h kn hj rfl kt kf (fun hc => fun hC hd k => lv_if_le hC.2.1 hC.2.2.1 hd ht (fun _ => k) (fun n => absurd hc n)) (fun hc => fun hC hd k => lv_if_le hC.2.1 hC.2.2.1 hd ht (fun y => absurd y hc) (fun _ => k))
theorem p_icmp_ne {l : Launch} {d : Nat} {Y : MD} {pc : Nat} {is : List CI} {ls st : List PV} {M : PM} {r : PR} {x y : Int32} {js : List CI} {off : Int} {X Z : Option PR} (h : (if x = y then X else Z) = some r) (kn : Nat) (hj : Y.code.drop kn = js) (ht : (pc : Int) + off = (hdpc js : Int)) (kt : x = y → X = some r → PW l d Y is ls st M r) (kf : ¬ (x = y) → Z = some r → PW l d Y js ls st M r) : PW l d Y ((pc, .if_icmp .ne off, 3) :: is) ls (vI y :: vI x :: st) M r := by
  have h2 : (if ¬ (x = y) then Z else X) = some r := by
    by_cases hc : x = y
    · rw [if_pos hc] at h
      rw [if_neg (fun n => n hc)]
      exact h
    · rw [if_neg hc] at h
      rw [if_pos hc]
      exact h
  exact PW.br h2 kn hj rfl kf (fun n => kt (Decidable.not_not.mp n)) (fun hc => fun hC hd k => lv_icmp_ne hC.2.1 hC.2.2.1 hd ht (fun _ => k) (fun n => absurd n hc)) (fun hc => fun hC hd k => lv_icmp_ne hC.2.1 hC.2.2.1 hd ht (fun y => absurd y hc) (fun _ => k))
theorem p_if_ne {l : Launch} {d : Nat} {Y : MD} {pc : Nat} {is : List CI} {ls st : List PV} {M : PM} {r : PR} {x : Int32} {js : List CI} {off : Int} {X Z : Option PR} (h : (if x = 0 then X else Z) = some r) (kn : Nat) (hj : Y.code.drop kn = js) (ht : (pc : Int) + off = (hdpc js : Int)) (kt : x = 0 → X = some r → PW l d Y is ls st M r) (kf : ¬ (x = 0) → Z = some r → PW l d Y js ls st M r) : PW l d Y ((pc, .ifCond .ne off, 3) :: is) ls (vI x :: st) M r := by
  have h2 : (if ¬ (x = 0) then Z else X) = some r := by
    by_cases hc : x = 0
    · rw [if_pos hc] at h
      rw [if_neg (fun n => n hc)]
      exact h
    · rw [if_neg hc] at h
      rw [if_pos hc]
      exact h
  exact PW.br h2 kn hj rfl kf (fun n => kt (Decidable.not_not.mp n)) (fun hc => fun hC hd k => lv_if_ne hC.2.1 hC.2.2.1 hd ht (fun _ => k) (fun n => absurd n hc)) (fun hc => fun hC hd k => lv_if_ne hC.2.1 hC.2.2.1 hd ht (fun y => absurd y hc) (fun _ => k))
theorem p_goto {l : Launch} {d : Nat} {Y : MD} {pc : Nat} {is : List CI} {ls st : List PV} {M : PM} {r : PR} {js : List CI} {off : Int} (kn : Nat) (hj : Y.code.drop kn = js) (ht : (pc : Int) + off = (hdpc js : Int)) (k : PW l d Y js ls st M r) : PW l d Y ((pc, .goto off, 3) :: is) ls st M r := by
  refine ⟨by simp, fun p e R s m args below meth c sz D cy ad H locs rl hC hs hK hH hS hl => ?_⟩
  have hc := suf_cok hs hC.2.2.2.2.2.2.2.2.2.2.2.2.2
  exact lv_goto hC.2.1 hC.2.2.1 (COK.here hc) ht (k.2 p e R s m args below meth c sz D cy ad H locs rl hC ⟨kn, hj⟩ hK hH hS hl)
/-- places that nothing needs any more are forgotten -/
def leL : List PV → List PV → Bool
  | [], [] => true
  | a :: as, b :: bs => (match a with | .inl (.retAddr 0) => true | _ => decide (a = b)) && leL as bs
  | _, _ => false
theorem leL_len : ∀ {a b : List PV}, leL a b = true → a.length = b.length
  | [], [], _ => rfl
  | _ :: _, _ :: _, h => by simp only [leL, Bool.and_eq_true] at h; exact congrArg (· + 1) (leL_len h.2)
  | [], _ :: _, h => by simp [leL] at h
  | _ :: _, [], h => by simp [leL] at h
theorem leL_at : ∀ {a b : List PV} {i : Nat} {v : PV}, leL a b = true → a[i]? = some v → v ≠ jk → b[i]? = some v
  | [], [], _, _, _, h, _ => by simp at h
  | x :: _, y :: _, 0, v, h, h2, hv => by
    simp only [leL, Bool.and_eq_true] at h
    simp only [List.getElem?_cons_zero, Option.some.injEq] at h2 ⊢
    subst h2
    obtain ⟨h1, -⟩ := h
    split at h1
    · exact absurd rfl hv
    · exact (of_decide_eq_true h1).symm
  | _ :: as, _ :: bs, i + 1, v, h, h2, hv => by
    simp only [leL, Bool.and_eq_true] at h
    simp only [List.getElem?_cons_succ] at h2 ⊢
    exact leL_at h.2 h2 hv
  | [], _ :: _, _, _, h, _, _ => by simp [leL] at h
  | _ :: _, [], _, _, h, _, _ => by simp [leL] at h
/-- as a list of equal places -/
def leP : List PV → List PV → Prop
  | [], [] => True
  | a :: as, b :: bs => (a = jk ∨ a = b) ∧ leP as bs
  | _, _ => False
theorem leP_len : ∀ {a b : List PV}, leP a b → a.length = b.length
  | [], [], _ => rfl
  | _ :: _, _ :: _, h => congrArg (· + 1) (leP_len h.2)
  | [], _ :: _, h => absurd h id
  | _ :: _, [], h => absurd h id
theorem leP_at : ∀ {a b : List PV} {i : Nat} {v : PV}, leP a b → a[i]? = some v → v ≠ jk → b[i]? = some v
  | [], [], _, _, _, h, _ => by simp at h
  | x :: _, y :: _, 0, v, h, h2, hv => by
    simp only [List.getElem?_cons_zero, Option.some.injEq] at h2 ⊢
    subst h2
    rcases h.1 with e | e
    · exact absurd e hv
    · exact e.symm
  | _ :: as, _ :: bs, i + 1, v, h, h2, hv => by
    simp only [List.getElem?_cons_succ] at h2 ⊢
    exact leP_at h.2 h2 hv
  | [], _ :: _, _, _, h, _, _ => absurd h id
  | _ :: _, [], _, _, h, _, _ => absurd h id
theorem p_forget {l : Launch} {d : Nat} {Y : MD} {is : List CI} {ls ls' st : List PV} {M : PM} {r : PR} (hle : leP ls' ls) (k : PW l d Y is ls' st M r) : PW l d Y is ls st M r := by
  refine ⟨k.1, fun p e R s m args below meth c sz D cy ad H locs rl hC hs hK hH hS hl => ?_⟩
  exact k.2 p e R s m args below meth c sz D cy ad H locs rl hC hs hK hH hS ⟨hl.1, hl.2.1, (leP_len hle).trans hl.2.2.1, fun i v hi hv => hl.2.2.2 i v (leP_at hle hi hv) hv⟩
theorem p_istore {l : Launch} {d : Nat} {Y : MD} {pc : Nat} {is : List CI} {ls st : List PV} {M : PM} {r : PR} {n : Nat} {x : Int32} {ls' : List PV} (hn : (n < Y.2.2.1)) (he : stL ls n (vI x) = ls') (k : PW l d Y is ls' st M r) : PW l d Y ((pc, .istore n, 2) :: is) ls (vI x :: st) M r := by
  subst he
  refine ⟨by simp, fun p e R s m args below meth c sz D cy ad H locs rl hC hs hK hH hS hl => ?_⟩
  have hc := suf_cok hs hC.2.2.2.2.2.2.2.2.2.2.2.2.2
  refine lv_istore hC.2.1 hC.2.2.1 (COK.here hc) hl.has hn rfl (fun rl2 h2 => ?_)
  have h1 := k.2 p e R s m args below meth c sz D cy ad H locs rl2 hC (suf_next hs) hK hH hS (lvOK.st hl.2.2.1 h2)
  rw [COK.next hc k.1] at h1
  exact h1
theorem p_istore_n {l : Launch} {d : Nat} {Y : MD} {pc : Nat} {is : List CI} {ls st : List PV} {M : PM} {r : PR} {n : Fin 4} {x : Int32} {ls' : List PV} (hn : ((n : Nat) < Y.2.2.1)) (he : stL ls (n : Nat) (vI x) = ls') (k : PW l d Y is ls' st M r) : PW l d Y ((pc, .istore_n n, 1) :: is) ls (vI x :: st) M r := by
  subst he
  refine ⟨by simp, fun p e R s m args below meth c sz D cy ad H locs rl hC hs hK hH hS hl => ?_⟩
  have hc := suf_cok hs hC.2.2.2.2.2.2.2.2.2.2.2.2.2
  refine lv_istore_n hC.2.1 hC.2.2.1 (COK.here hc) rfl hl.has hn rfl (fun rl2 h2 => ?_)
  have h1 := k.2 p e R s m args below meth c sz D cy ad H locs rl2 hC (suf_next hs) hK hH hS (lvOK.st hl.2.2.1 h2)
  rw [COK.next hc k.1] at h1
  exact h1
theorem p_lstore {l : Launch} {d : Nat} {Y : MD} {pc : Nat} {is : List CI} {ls st : List PV} {M : PM} {r : PR} {n : Nat} {x : Int64} {ls' : List PV} (hn : (n + 1 < Y.2.2.1)) (he : stJ ls n (vJ x) = ls') (k : PW l d Y is ls' st M r) : PW l d Y ((pc, .lstore n, 2) :: is) ls (vJ x :: st) M r := by
  subst he
  refine ⟨by simp, fun p e R s m args below meth c sz D cy ad H locs rl hC hs hK hH hS hl => ?_⟩
  have hc := suf_cok hs hC.2.2.2.2.2.2.2.2.2.2.2.2.2
  refine lv_lstore hC.2.1 hC.2.2.1 (COK.here hc) hl.has hn rfl (fun rl2 h2 => ?_)
  have h1 := k.2 p e R s m args below meth c sz D cy ad H locs rl2 hC (suf_next hs) hK hH hS (lvOK.stj hl.2.2.1 hn h2)
  rw [COK.next hc k.1] at h1
  exact h1
theorem p_lstore_n {l : Launch} {d : Nat} {Y : MD} {pc : Nat} {is : List CI} {ls st : List PV} {M : PM} {r : PR} {n : Fin 4} {x : Int64} {ls' : List PV} (hn : ((n : Nat) + 1 < Y.2.2.1)) (he : stJ ls (n : Nat) (vJ x) = ls') (k : PW l d Y is ls' st M r) : PW l d Y ((pc, .lstore_n n, 1) :: is) ls (vJ x :: st) M r := by
  subst he
  refine ⟨by simp, fun p e R s m args below meth c sz D cy ad H locs rl hC hs hK hH hS hl => ?_⟩
  have hc := suf_cok hs hC.2.2.2.2.2.2.2.2.2.2.2.2.2
  refine lv_lstore_n hC.2.1 hC.2.2.1 (COK.here hc) rfl hl.has hn rfl (fun rl2 h2 => ?_)
  have h1 := k.2 p e R s m args below meth c sz D cy ad H locs rl2 hC (suf_next hs) hK hH hS (lvOK.stj hl.2.2.1 hn h2)
  rw [COK.next hc k.1] at h1
  exact h1
theorem p_iinc {l : Launch} {d : Nat} {Y : MD} {pc : Nat} {is : List CI} {ls st : List PV} {M : PM} {r : PR} {n : Nat} {z : Int} {x v : Int32} {ls' : List PV} (hn : n < Y.2.2.1) (hx : ls[n]? = some (vI x)) (hv : x + Int32.ofInt z = v) (he : stL ls n (vI v) = ls') (k : PW l d Y is ls' st M r) : PW l d Y ((pc, .iinc n z, 3) :: is) ls st M r := by
  subst he
  refine ⟨by simp, fun p e R s m args below meth c sz D cy ad H locs rl hC hs hK hH hS hl => ?_⟩
  have hc := suf_cok hs hC.2.2.2.2.2.2.2.2.2.2.2.2.2
  obtain ⟨kk, hkk⟩ := List.getElem?_of_mem (lvA_of (ad := ad) hx (by simp [jk]))
  refine lv_iinc hC.2.1 hC.2.2.1 (COK.here hc) hl.has hkk hv hn rfl (fun rl2 h2 => ?_)
  have h1 := k.2 p e R s m args below meth c sz D cy ad H locs rl2 hC (suf_next hs) hK hH hS (lvOK.st hl.2.2.1 h2)
  rw [COK.next hc k.1] at h1
  exact h1
theorem p_ret {l : Launch} {d : Nat} {Y : MD} {pc : Nat} {is : List CI} {ls : List PV} {M : PM} {r : PR} (hr : Y.2.2.2.1 = none) (h : some ((.inl none, M) : PR) = some r) : PW l d Y ((pc, .return_, 1) :: is) ls [] M r := by
  cases h
  refine ⟨by simp, fun p e R s m args below meth c sz D cy ad H locs rl hC hs hK hH hS hl => ?_⟩
  have hc := suf_cok hs hC.2.2.2.2.2.2.2.2.2.2.2.2.2
  exact vx_ret (W.vret hC.2.1 hC.2.2.1 (hC.2.2.2.1.trans hr) (fun t ht _ => ⟨none, rfl, rfl, by rw [ht]; exact hH, hS.F ht⟩) hS.2.2 (COK.here hc) hC.2.2.2.2.2.2.1)
theorem p_iret {l : Launch} {d : Nat} {Y : MD} {pc : Nat} {is : List CI} {ls : List PV} {M : PM} {r : PR} {x : Int32} (hr : Y.2.2.2.1 = some .int) (h : some ((.inl (some (.int x)), M) : PR) = some r) : PW l d Y ((pc, .ireturn, 1) :: is) ls [vI x] M r := by
  cases h
  refine ⟨by simp, fun p e R s m args below meth c sz D cy ad H locs rl hC hs hK hH hS hl => ?_⟩
  have hc := suf_cok hs hC.2.2.2.2.2.2.2.2.2.2.2.2.2
  exact vx_ret (W.iret hC.2.1 hC.2.2.1 (hC.2.2.2.1.trans hr) (fun t ht _ => ⟨_, rfl, rfl, by rw [ht]; exact hH, hS.F ht⟩) hS.2.2 (COK.here hc) hC.2.2.2.2.2.2.1)
/-- a boolean: the function's own guard says that it is 0 or 1 -/
theorem p_zret {l : Launch} {d : Nat} {Y : MD} {pc : Nat} {is : List CI} {ls : List PV} {M : PM} {r : PR} {x : Int32} (hr : Y.2.2.2.1 = some .boolean) (h : (if x &&& 1 = x then some ((.inl (some (.int x)), M) : PR) else none) = some r) : PW l d Y ((pc, .ireturn, 1) :: is) ls [vI x] M r := by
  by_cases hx : x &&& 1 = x
  · rw [if_pos hx] at h
    cases h
    refine ⟨by simp, fun p e R s m args below meth c sz D cy ad H locs rl hC hs hK hH hS hl => ?_⟩
    have hc := suf_cok hs hC.2.2.2.2.2.2.2.2.2.2.2.2.2
    exact vx_ret (W.zret hC.2.1 hC.2.2.1 (hC.2.2.2.1.trans hr) (by show Value.int (x &&& 1) = _; rw [hx]) (fun t ht _ => ⟨_, rfl, rfl, by rw [ht]; exact hH, hS.F ht⟩) hS.2.2 (COK.here hc) hC.2.2.2.2.2.2.1)
  · rw [if_neg hx] at h; cases h
theorem p_lret {l : Launch} {d : Nat} {Y : MD} {pc : Nat} {is : List CI} {ls : List PV} {M : PM} {r : PR} {x : Int64} (hr : Y.2.2.2.1 = some .long) (h : some ((.inl (some (.long x)), M) : PR) = some r) : PW l d Y ((pc, .lreturn, 1) :: is) ls [vJ x] M r := by
  cases h
  refine ⟨by simp, fun p e R s m args below meth c sz D cy ad H locs rl hC hs hK hH hS hl => ?_⟩
  have hc := suf_cok hs hC.2.2.2.2.2.2.2.2.2.2.2.2.2
  exact vx_ret (W.lret hC.2.1 hC.2.2.1 (hC.2.2.2.1.trans hr) (fun t ht _ => ⟨_, rfl, rfl, by rw [ht]; exact hH, hS.F ht⟩) hS.2.2 (COK.here hc) hC.2.2.2.2.2.2.1)
