/-! THE WRAPPERS: a method with handlers -/
def wsW (Y : MD) (hh : List (Nat × Nat × Nat × Nat)) : List Cond := Cond.codeWith Y.1 Y.2.1 Y.2.2.1 Y.2.2.2.1 hh :: UW
def RmW (d : Nat) : Room := { frames := d, cells := 1, slots := 6, locals := 60 + 64 * d }
def PCW (l : Launch) (d : Nat) (Y : MD) (hh : List (Nat × Nat × Nat × Nat)) (av : List PV) (M : PM) (x : Int32) (M1 : PM) : Prop := ∀ (sz : Nat) (D : va_G) (cy : Nat → ClassId) (ad : Nat → Nat → Nat),
  Met l Y.1 (wsW Y hh) (RmW d) (va_Pc (av.map (tr ad)) (fun U => Kx sz D cy ad U ∧ WH sz D cy ad M U.heap)) (QcR sz D cy ad (.inl (some (.int x)), M1)) 1 6 (fun q => sz ≤ q)
def WX (Y : MD) (hh : List (Nat × Nat × Nat × Nat)) (x : Int32) (M1 : PM) : GX → Prop
  | (_, _, s, _, args, below, meth, c, Q, sz, D, cy, ad) => c.exceptionTable.toList = tableOf hh ∧ meth.locks = false ∧ meth.sig.returnType = Y.2.2.2.1 ∧ Q = vx_MQ below (QcR sz D cy ad (.inl (some (.int x)), M1)) (fun _ _ _ => False) args s 1 6 (fun q => sz ≤ q)
theorem pcw_of {l : Launch} {d : Nat} {Y : MD} {hh : List (Nat × Nat × Nat × Nat)} {av ls : List PV} {M : PM} {x : Int32} {M1 : PM} (hy : plainName Y.1.cls = true) (hco : COK Y.2.1 Y.code = true) (hle : (enA av).length ≤ Y.2.2.1) (he : enL Y.2.2.1 av = ls) (k : ∀ X : GX, GOK Y X → WX Y hh x M1 X → PG l (RmW d) Y X (0, 0) Y.code ls [] M) (hp0 : hdpc Y.code = 0) : PCW l d Y hh av M x M1 := by
  subst he
  intro sz D cy ad
  refine vx_toMet (XC := fun _ _ _ => False) (vx_ofWH (cc := Y.2.1) (maxL := Y.2.2.1) (ret := Y.2.2.2.1) (hh := hh) hy rfl ?_) (fun _ _ _ h => h)
  intro p e s m args below meth c s₁ B hml hv
  obtain ⟨rfl, hK, hH⟩ := hv
  have hts := atoms_spec (ws := wsW Y hh) B.pre
  have hown : s.vm.findClass Y.1.cls = some m.cls := findClass_of_methodNamed B.named
  have htab := vx_table (x := Y.1) B (hts _ List.mem_cons_self)
  have hl := lv_entry (av.map (tr ad)) (n := Y.2.2.1) (by rw [enA_len]; exact hle)
  have hS : va_S (fun q => sz ≤ q) s.heap s.heap [] := va_S.rf
  rw [lg_entry_eq]
  generalize (lg_sl (av.map (tr ad)) ++ List.replicate (Y.2.2.1 - (lg_sl (av.map (tr ad))).length) Slot.unset).toArray = rl at hl ⊢
  have h := (k (p, e, s, m, (av.map (tr ad)).toArray, below, meth, c, vx_MQ below (QcR sz D cy ad (.inl (some (.int x)), M1)) (fun _ _ _ => False) (av.map (tr ad)).toArray s 1 6 (fun q => sz ≤ q), sz, D, cy, ad) ⟨B.exec, B.bytes, hml, hown, fun w hw => hts w (List.mem_cons_of_mem _ hw), hco, hK⟩ ⟨htab, B.notSynchronized, B.returns, rfl⟩).2 s.heap [] rl ⟨0, rfl⟩ hH hS ⟨hl.1, hl.2.1, by unfold enL; rw [List.length_append, List.length_replicate]; omega, fun i v hi hv => by
    unfold enL at hi
    by_cases hlt : i < (enA av).length
    · rw [List.getElem?_append_left hlt] at hi
      have := enA_at ad av 0 i v hi hv
      rw [Nat.zero_add] at this
      exact hl.2.2 _ this
    · rw [List.getElem?_append_right (by omega)] at hi
      exact absurd (List.eq_of_mem_replicate (List.mem_of_getElem? hi)) hv⟩
  rw [hp0] at h
  exact h
theorem g_wret {l : Launch} {R : Room} {Y : MD} {hh : List (Nat × Nat × Nat × Nat)} {X : GX} {pc : Nat} {is : List CI} {ls : List PV} {M1 : PM} {x : Int32} (hX : GOK Y X) (hW : WX Y hh x M1 X) (hr : Y.2.2.2.1 = some .int) : PG l R Y X (1, 6) ((pc, .ireturn, 1) :: is) ls [vI x] M1 := by
  obtain ⟨p, e, s, m, args, below, meth, c, Q, sz, D, cy, ad⟩ := X
  obtain ⟨x1, x2, x3, x4, x5, x6, x7⟩ := hX
  obtain ⟨w1, w2, w3, rfl⟩ := hW
  refine ⟨by simp, fun H locs rl hs hH hS hl => ?_⟩
  exact vx_ret (W.iret x1 x2 (w3.trans hr) (fun t ht _ => ⟨_, rfl, rfl, by rw [ht]; exact hH, hS.F ht⟩) hS.2.2 (COK.here (suf_cok hs x6)) w2)
theorem WX.h0 {Y : MD} {a b h ct : Nat} {hs : List (Nat × Nat × Nat × Nat)} {X : GX} {pc : Nat} {x : Int32} {M1 : PM} {E : String} {op9 : Instr} {is9 : List CI} (hX : GOK Y X) (hW : WX Y ((a, b, h, ct) :: hs) x M1 X) (hcl : Cond.classLink Y.1.cls ct E ∈ UW) (hca : Cond.castable E E ∈ NW) (hcov : covers ⟨a, b, h, ct⟩ pc = true) (h0 : ct ≠ 0) {p : Program} {e : Env} {s : State} {m : MethodId} {args : Array Value} {below : List Frame} {meth : Method} {c : Code} {Q : State → Prop} {sz : Nat} {D : va_G} {cy : Nat → ClassId} {ad : Nat → Nat → Nat} (he : X = (p, e, s, m, args, below, meth, c, Q, sz, D, cy, ad)) :
    ∃ (pre : List ExceptionTableEntry) (x : ExceptionTableEntry) (suf : List ExceptionTableEntry) (name : String), c.exceptionTable.toList = pre ++ x :: suf ∧ (∀ z ∈ pre, covers z pc = false ∨ (z.catchType ≠ 0 ∧ ∃ nm : String, (Cond.classLink Y.1.cls z.catchType nm).before args s = true ∧ va_Nc E nm s)) ∧ covers x pc = true ∧ x.catchType ≠ 0 ∧ (Cond.classLink Y.1.cls x.catchType name).before args s = true ∧ (Cond.castable E name).before args s = true ∧ x.handlerPc = hdpc ((0, op9, 0) :: is9) + h := by
  subst he
  obtain ⟨x1, x2, x3, x4, x5, x6, x7⟩ := hX
  exact ⟨[], ⟨a, b, h, ct⟩, tableOf hs, E, hW.1, fun z hz => (by cases hz), hcov, h0, x5 _ hcl, NW_use hca (x7.2.1 _ hca), (Nat.zero_add _).symm⟩
theorem WX.h1 {Y : MD} {a0 b0 g0 ct0 a b h ct : Nat} {hs : List (Nat × Nat × Nat × Nat)} {X : GX} {pc : Nat} {x : Int32} {M1 : PM} {E E0 : String} {op9 : Instr} {is9 : List CI} (hX : GOK Y X) (hW : WX Y ((a0, b0, g0, ct0) :: (a, b, h, ct) :: hs) x M1 X) (hcl0 : Cond.classLink Y.1.cls ct0 E0 ∈ UW) (hcl : Cond.classLink Y.1.cls ct E ∈ UW) (hca : Cond.castable E E ∈ NW) (hcov : covers ⟨a, b, h, ct⟩ pc = true) (h0 : ct ≠ 0) (h00 : ct0 ≠ 0) (hno : ∀ {sz : Nat} {D : va_G} {cy : Nat → ClassId} {ad : Nat → Nat → Nat} {s : State}, Kx sz D cy ad s → va_Nc E E0 s) {p : Program} {e : Env} {s : State} {m : MethodId} {args : Array Value} {below : List Frame} {meth : Method} {c : Code} {Q : State → Prop} {sz : Nat} {D : va_G} {cy : Nat → ClassId} {ad : Nat → Nat → Nat} (he : X = (p, e, s, m, args, below, meth, c, Q, sz, D, cy, ad)) :
    ∃ (pre : List ExceptionTableEntry) (x : ExceptionTableEntry) (suf : List ExceptionTableEntry) (name : String), c.exceptionTable.toList = pre ++ x :: suf ∧ (∀ z ∈ pre, covers z pc = false ∨ (z.catchType ≠ 0 ∧ ∃ nm : String, (Cond.classLink Y.1.cls z.catchType nm).before args s = true ∧ va_Nc E nm s)) ∧ covers x pc = true ∧ x.catchType ≠ 0 ∧ (Cond.classLink Y.1.cls x.catchType name).before args s = true ∧ (Cond.castable E name).before args s = true ∧ x.handlerPc = hdpc ((0, op9, 0) :: is9) + h := by
  subst he
  obtain ⟨x1, x2, x3, x4, x5, x6, x7⟩ := hX
  refine ⟨[⟨a0, b0, g0, ct0⟩], ⟨a, b, h, ct⟩, tableOf hs, E, hW.1, fun z hz => ?_, hcov, h0, x5 _ hcl, NW_use hca (x7.2.1 _ hca), (Nat.zero_add _).symm⟩
  rcases List.mem_singleton.mp hz with rfl
  exact Or.inr ⟨h00, E0, x5 _ hcl0, hno x7⟩
/-- what a wrapper answers and leaves: 0 and the answer in out, or the number of the handler -/
def wI1 (E1 : String) (f : Option PR) : Option (Int32 × PM) := match f with
  | some (.inl (some (.int x)), M) => some (0, sB M 129 (0 : Int32).toNatClampNeg x.toInt64)
  | some (.inr E, M) => if E = E1 then some (1, M) else none
  | _ => none
def wI2 (E1 E2 : String) (f : Option PR) : Option (Int32 × PM) := match f with
  | some (.inl (some (.int x)), M) => some (0, sB M 129 (0 : Int32).toNatClampNeg x.toInt64)
  | some (.inr E, M) => if E = E1 then some (1, M) else if E = E2 then some (2, M) else none
  | _ => none
def wJ1 (E1 : String) (f : Option PR) : Option (Int32 × PM) := match f with
  | some (.inl (some (.long x)), M) => some (0, sB M 129 (0 : Int32).toNatClampNeg x)
  | some (.inr E, M) => if E = E1 then some (1, M) else none
  | _ => none
def wJ2 (E1 E2 : String) (f : Option PR) : Option (Int32 × PM) := match f with
  | some (.inl (some (.long x)), M) => some (0, sB M 129 (0 : Int32).toNatClampNeg x)
  | some (.inr E, M) => if E = E1 then some (1, M) else if E = E2 then some (2, M) else none
  | _ => none
def wZ1 (E1 : String) (f : Option PR) : Option (Int32 × PM) := match f with
  | some (.inl (some (.int x)), M) => some (0, sB M 129 (0 : Int32).toNatClampNeg (if x = 0 then 0 else 1))
  | some (.inr E, M) => if E = E1 then some (1, M) else none
  | _ => none
def nIAE : String := "java/lang/IllegalArgumentException"
def nNSE : String := "java/util/NoSuchElementException"
def nIOB : String := "java/lang/IndexOutOfBoundsException"
theorem no_IAE_NSE {sz : Nat} {D : va_G} {cy : Nat → ClassId} {ad : Nat → Nat → Nat} {s : State} (h : Kx sz D cy ad s) : va_Nc nIAE nNSE s := h.2.2.1.2.1
theorem no_NSE_IOB {sz : Nat} {D : va_G} {cy : Nat → ClassId} {ad : Nat → Nat → Nat} {s : State} (h : Kx sz D cy ad s) : va_Nc nNSE nIOB s := h.2.2.1.2.2.1
theorem no_IAE_IOB {sz : Nat} {D : va_G} {cy : Nat → ClassId} {ad : Nat → Nat → Nat} {s : State} (h : Kx sz D cy ad s) : va_Nc nIAE nIOB s := h.2.2.1.2.2.2
theorem cast_IAE : Cond.castable nIAE nIAE ∈ NW := mN_3 1 rfl rfl
theorem cast_NSE : Cond.castable nNSE nNSE ∈ NW := mN_4 108 rfl rfl
theorem cast_IOB : Cond.castable nIOB nIOB ∈ NW := mN_4 177 rfl rfl
theorem lct_13 : Cond.classLink RL 13 nIAE ∈ UW := mU_2 230 rfl rfl
theorem lct_25 : Cond.classLink RL 25 nNSE ∈ UW := mU_4 93 rfl rfl
theorem lct_37 : Cond.classLink RL 37 nIOB ∈ UW := mU_4 165 rfl rfl
def k_L_calendar_15 : List CI := (15, .iconst 0, 1) :: (16, .ireturn, 1) :: []
def k_L_calendar_12 : List CI := (12, .astore_n 3, 1) :: (13, .iconst 1, 1) :: (14, .ireturn, 1) :: k_L_calendar_15
def k_L_calendar_0 : List CI := (0, .aload_n 2, 1) :: (1, .iconst 0, 1) :: (2, .aload_n 0, 1) :: (3, .iload_n 1, 1) :: (4, .invokevirtual 7, 3) :: (7, .i2l, 1) :: (8, .lastore, 1) :: (9, .goto 6, 3) :: k_L_calendar_12
def Y_L_calendar : MD := (yL_calendar, cL_calendar, 4, (some .int), k_L_calendar_0)
theorem cok_L_calendar : COK Y_L_calendar.2.1 Y_L_calendar.code = true := by decide +kernel
def hh_L_calendar : List (Nat × Nat × Nat × Nat) := [(0, 9, 12, 13)]
theorem cw_L_calendar : Cond.codeWith Y_L_calendar.1 Y_L_calendar.2.1 Y_L_calendar.2.2.1 Y_L_calendar.2.2.2.1 hh_L_calendar ∈ UW := mU_2 229 rfl rfl
theorem lk_L_7 : LNK RL 7 Y_X10_calendar := mU_2 231 rfl rfl
def w_calendar (M : PM) (a1 : Int32) : Option (Int32 × PM) := wI1 nIAE (F_X10_calendar_0 M a1)
set_option maxRecDepth 100000 in
theorem pw_calendar {l : Launch} (hl : l.stackTraces = false) {M : PM} {a1 : Int32} {x : Int32} {M1 : PM} (h : w_calendar M a1 = some (x, M1)) : PCW l 11 Y_L_calendar hh_L_calendar [vR 0, vI a1, vR 129] M x M1 := by
  refine pcw_of (ls := [vR 0, vI a1, vR 129, jk]) (by decide +kernel) cok_L_calendar (Nat.le_of_ble_eq_true rfl) rfl (fun X hX hW => ?_) rfl
  refine g_aload_n hX rfl ?_
  refine g_iconst hX (v := 0) rfl ?_
  refine g_aload_n hX rfl ?_
  refine g_iload_n hX rfl ?_
  unfold w_calendar at h
  cases hf : (F_X10_calendar_0 M a1) with
  | none => rw [hf] at h; cases h
  | some rr =>
    rw [hf] at h
    have hpc := pc_X10_calendar_0 hl hf
    obtain ⟨ra, M2⟩ := rr
    rcases ra with ra | E
    · rcases ra with _ | v
      · cases h
      · cases v with
        | int y =>
          cases h
          refine g_call (d2 := 10) hX ⟨mok_X10_calendar, rfl, ⟨10, 0, gt_0, rfl⟩, ins_X10_calendar, lk_L_7⟩ ⟨(Nat.le_of_ble_eq_true rfl), (Nat.le_of_ble_eq_true rfl), (Nat.le_of_ble_eq_true rfl), (Nat.le_of_ble_eq_true rfl)⟩ (Nat.le_of_ble_eq_true rfl) hpc rfl (st1 := [vI y, vI 0, vR 129]) (fun _ => rfl) ?_
          refine g_i2l hX ?_
          refine g_last hX gt_129 rfl ?_
          refine g_goto hX 11 rfl rfl ?_
          refine g_iconst hX (v := 0) rfl ?_
          refine g_widen (cs' := (1, 6)) (Nat.zero_le _) (Nat.zero_le _) ?_
          exact g_wret hX hW rfl
        | _ => cases h
    · change (if E = nIAE then some (1, M2) else (none : Option (Int32 × PM))) = some (x, M1) at h
      by_cases e0 : E = nIAE
      · rw [if_pos e0] at h
        cases h; subst e0
        refine g_catch (d2 := 10) (i9 := 12) hX ⟨mok_X10_calendar, rfl, ⟨10, 0, gt_0, rfl⟩, ins_X10_calendar, lk_L_7⟩ ⟨(Nat.le_of_ble_eq_true rfl), (Nat.le_of_ble_eq_true rfl), (Nat.le_of_ble_eq_true rfl), (Nat.le_of_ble_eq_true rfl)⟩ (Nat.le_of_ble_eq_true rfl) hpc rfl (fun he => WX.h0 hX hW lct_13 cast_IAE rfl (by decide) he) 8 rfl (Or.inl ⟨3, rfl, rfl, (Nat.le_of_ble_eq_true rfl), rfl⟩) ?_
        refine g_iconst hX (v := 1) rfl ?_
        exact g_wret hX hW rfl
      rw [if_neg e0] at h
      cases h
def k_L_wish_15 : List CI := (15, .iconst 0, 1) :: (16, .ireturn, 1) :: []
def k_L_wish_12 : List CI := (12, .astore_n 3, 1) :: (13, .iconst 1, 1) :: (14, .ireturn, 1) :: k_L_wish_15
def k_L_wish_0 : List CI := (0, .aload_n 2, 1) :: (1, .iconst 0, 1) :: (2, .aload_n 0, 1) :: (3, .iload_n 1, 1) :: (4, .invokevirtual 15, 3) :: (7, .i2l, 1) :: (8, .lastore, 1) :: (9, .goto 6, 3) :: k_L_wish_12
def Y_L_wish : MD := (yL_wish, cL_wish, 4, (some .int), k_L_wish_0)
theorem cok_L_wish : COK Y_L_wish.2.1 Y_L_wish.code = true := by decide +kernel
def hh_L_wish : List (Nat × Nat × Nat × Nat) := [(0, 9, 12, 13)]
theorem cw_L_wish : Cond.codeWith Y_L_wish.1 Y_L_wish.2.1 Y_L_wish.2.2.1 Y_L_wish.2.2.2.1 hh_L_wish ∈ UW := mU_4 22 rfl rfl
theorem lk_L_15 : LNK RL 15 Y_X10_wish := mU_4 23 rfl rfl
def w_wish (M : PM) (a1 : Int32) : Option (Int32 × PM) := wI1 nIAE (F_X10_wish_0 M a1)
set_option maxRecDepth 100000 in
theorem pw_wish {l : Launch} (hl : l.stackTraces = false) {M : PM} {a1 : Int32} {x : Int32} {M1 : PM} (h : w_wish M a1 = some (x, M1)) : PCW l 72 Y_L_wish hh_L_wish [vR 0, vI a1, vR 129] M x M1 := by
  refine pcw_of (ls := [vR 0, vI a1, vR 129, jk]) (by decide +kernel) cok_L_wish (Nat.le_of_ble_eq_true rfl) rfl (fun X hX hW => ?_) rfl
  refine g_aload_n hX rfl ?_
  refine g_iconst hX (v := 0) rfl ?_
  refine g_aload_n hX rfl ?_
  refine g_iload_n hX rfl ?_
  unfold w_wish at h
  cases hf : (F_X10_wish_0 M a1) with
  | none => rw [hf] at h; cases h
  | some rr =>
    rw [hf] at h
    have hpc := pc_X10_wish_0 hl hf
    obtain ⟨ra, M2⟩ := rr
    rcases ra with ra | E
    · rcases ra with _ | v
      · cases h
      · cases v with
        | int y =>
          cases h
          refine g_call (d2 := 71) hX ⟨mok_X10_wish, rfl, ⟨10, 0, gt_0, rfl⟩, ins_X10_wish, lk_L_15⟩ ⟨(Nat.le_of_ble_eq_true rfl), (Nat.le_of_ble_eq_true rfl), (Nat.le_of_ble_eq_true rfl), (Nat.le_of_ble_eq_true rfl)⟩ (Nat.le_of_ble_eq_true rfl) hpc rfl (st1 := [vI y, vI 0, vR 129]) (fun _ => rfl) ?_
          refine g_i2l hX ?_
          refine g_last hX gt_129 rfl ?_
          refine g_goto hX 11 rfl rfl ?_
          refine g_iconst hX (v := 0) rfl ?_
          refine g_widen (cs' := (1, 6)) (Nat.zero_le _) (Nat.zero_le _) ?_
          exact g_wret hX hW rfl
        | _ => cases h
    · change (if E = nIAE then some (1, M2) else (none : Option (Int32 × PM))) = some (x, M1) at h
      by_cases e0 : E = nIAE
      · rw [if_pos e0] at h
        cases h; subst e0
        refine g_catch (d2 := 71) (i9 := 12) hX ⟨mok_X10_wish, rfl, ⟨10, 0, gt_0, rfl⟩, ins_X10_wish, lk_L_15⟩ ⟨(Nat.le_of_ble_eq_true rfl), (Nat.le_of_ble_eq_true rfl), (Nat.le_of_ble_eq_true rfl), (Nat.le_of_ble_eq_true rfl)⟩ (Nat.le_of_ble_eq_true rfl) hpc rfl (fun he => WX.h0 hX hW lct_13 cast_IAE rfl (by decide) he) 8 rfl (Or.inl ⟨3, rfl, rfl, (Nat.le_of_ble_eq_true rfl), rfl⟩) ?_
        refine g_iconst hX (v := 1) rfl ?_
        exact g_wret hX hW rfl
      rw [if_neg e0] at h
      cases h
def k_L_told_15 : List CI := (15, .iconst 0, 1) :: (16, .ireturn, 1) :: []
def k_L_told_12 : List CI := (12, .astore_n 3, 1) :: (13, .iconst 1, 1) :: (14, .ireturn, 1) :: k_L_told_15
def k_L_told_0 : List CI := (0, .aload_n 2, 1) :: (1, .iconst 0, 1) :: (2, .aload_n 0, 1) :: (3, .iload_n 1, 1) :: (4, .invokevirtual 18, 3) :: (7, .i2l, 1) :: (8, .lastore, 1) :: (9, .goto 6, 3) :: k_L_told_12
def Y_L_told : MD := (yL_told, cL_told, 4, (some .int), k_L_told_0)
theorem cok_L_told : COK Y_L_told.2.1 Y_L_told.code = true := by decide +kernel
def hh_L_told : List (Nat × Nat × Nat × Nat) := [(0, 9, 12, 13)]
theorem cw_L_told : Cond.codeWith Y_L_told.1 Y_L_told.2.1 Y_L_told.2.2.1 Y_L_told.2.2.2.1 hh_L_told ∈ UW := mU_4 85 rfl rfl
theorem lk_L_18 : LNK RL 18 Y_X10_told := mU_4 86 rfl rfl
def w_told (M : PM) (a1 : Int32) : Option (Int32 × PM) := wI1 nIAE (F_X10_told_0 M a1)
set_option maxRecDepth 100000 in
theorem pw_told {l : Launch} (hl : l.stackTraces = false) {M : PM} {a1 : Int32} {x : Int32} {M1 : PM} (h : w_told M a1 = some (x, M1)) : PCW l 8 Y_L_told hh_L_told [vR 0, vI a1, vR 129] M x M1 := by
  refine pcw_of (ls := [vR 0, vI a1, vR 129, jk]) (by decide +kernel) cok_L_told (Nat.le_of_ble_eq_true rfl) rfl (fun X hX hW => ?_) rfl
  refine g_aload_n hX rfl ?_
  refine g_iconst hX (v := 0) rfl ?_
  refine g_aload_n hX rfl ?_
  refine g_iload_n hX rfl ?_
  unfold w_told at h
  cases hf : (F_X10_told_0 M a1) with
  | none => rw [hf] at h; cases h
  | some rr =>
    rw [hf] at h
    have hpc := pc_X10_told_0 hl hf
    obtain ⟨ra, M2⟩ := rr
    rcases ra with ra | E
    · rcases ra with _ | v
      · cases h
      · cases v with
        | int y =>
          cases h
          refine g_call (d2 := 7) hX ⟨mok_X10_told, rfl, ⟨10, 0, gt_0, rfl⟩, ins_X10_told, lk_L_18⟩ ⟨(Nat.le_of_ble_eq_true rfl), (Nat.le_of_ble_eq_true rfl), (Nat.le_of_ble_eq_true rfl), (Nat.le_of_ble_eq_true rfl)⟩ (Nat.le_of_ble_eq_true rfl) hpc rfl (st1 := [vI y, vI 0, vR 129]) (fun _ => rfl) ?_
          refine g_i2l hX ?_
          refine g_last hX gt_129 rfl ?_
          refine g_goto hX 11 rfl rfl ?_
          refine g_iconst hX (v := 0) rfl ?_
          refine g_widen (cs' := (1, 6)) (Nat.zero_le _) (Nat.zero_le _) ?_
          exact g_wret hX hW rfl
        | _ => cases h
    · change (if E = nIAE then some (1, M2) else (none : Option (Int32 × PM))) = some (x, M1) at h
      by_cases e0 : E = nIAE
      · rw [if_pos e0] at h
        cases h; subst e0
        refine g_catch (d2 := 7) (i9 := 12) hX ⟨mok_X10_told, rfl, ⟨10, 0, gt_0, rfl⟩, ins_X10_told, lk_L_18⟩ ⟨(Nat.le_of_ble_eq_true rfl), (Nat.le_of_ble_eq_true rfl), (Nat.le_of_ble_eq_true rfl), (Nat.le_of_ble_eq_true rfl)⟩ (Nat.le_of_ble_eq_true rfl) hpc rfl (fun he => WX.h0 hX hW lct_13 cast_IAE rfl (by decide) he) 8 rfl (Or.inl ⟨3, rfl, rfl, (Nat.le_of_ble_eq_true rfl), rfl⟩) ?_
        refine g_iconst hX (v := 1) rfl ?_
        exact g_wret hX hW rfl
      rw [if_neg e0] at h
      cases h
def k_L_law_21 : List CI := (21, .iconst 0, 1) :: (22, .ireturn, 1) :: []
def k_L_law_17 : List CI := (17, .astore 4, 2) :: (19, .iconst 2, 1) :: (20, .ireturn, 1) :: k_L_law_21
def k_L_law_13 : List CI := (13, .astore 4, 2) :: (15, .iconst 1, 1) :: (16, .ireturn, 1) :: k_L_law_17
def k_L_law_0 : List CI := (0, .aload_n 3, 1) :: (1, .iconst 0, 1) :: (2, .aload_n 0, 1) :: (3, .iload_n 1, 1) :: (4, .iload_n 2, 1) :: (5, .invokevirtual 21, 3) :: (8, .i2l, 1) :: (9, .lastore, 1) :: (10, .goto 11, 3) :: k_L_law_13
def Y_L_law : MD := (yL_law, cL_law, 5, (some .int), k_L_law_0)
theorem cok_L_law : COK Y_L_law.2.1 Y_L_law.code = true := by decide +kernel
def hh_L_law : List (Nat × Nat × Nat × Nat) := [(0, 10, 13, 25), (0, 10, 17, 13)]
theorem cw_L_law : Cond.codeWith Y_L_law.1 Y_L_law.2.1 Y_L_law.2.2.1 Y_L_law.2.2.2.1 hh_L_law ∈ UW := mU_4 92 rfl rfl
theorem lk_L_21 : LNK RL 21 Y_X10_law := mU_4 94 rfl rfl
def w_law (M : PM) (a1 : Int32) (a2 : Int32) : Option (Int32 × PM) := wI2 nNSE nIAE (F_X10_law_0 M a1 a2)
set_option maxRecDepth 100000 in
theorem pw_law {l : Launch} (hl : l.stackTraces = false) {M : PM} {a1 : Int32} {a2 : Int32} {x : Int32} {M1 : PM} (h : w_law M a1 a2 = some (x, M1)) : PCW l 9 Y_L_law hh_L_law [vR 0, vI a1, vI a2, vR 129] M x M1 := by
  refine pcw_of (ls := [vR 0, vI a1, vI a2, vR 129, jk]) (by decide +kernel) cok_L_law (Nat.le_of_ble_eq_true rfl) rfl (fun X hX hW => ?_) rfl
  refine g_aload_n hX rfl ?_
  refine g_iconst hX (v := 0) rfl ?_
  refine g_aload_n hX rfl ?_
  refine g_iload_n hX rfl ?_
  refine g_iload_n hX rfl ?_
  unfold w_law at h
  cases hf : (F_X10_law_0 M a1 a2) with
  | none => rw [hf] at h; cases h
  | some rr =>
    rw [hf] at h
    have hpc := pc_X10_law_0 hl hf
    obtain ⟨ra, M2⟩ := rr
    rcases ra with ra | E
    · rcases ra with _ | v
      · cases h
      · cases v with
        | int y =>
          cases h
          refine g_call (d2 := 8) hX ⟨mok_X10_law, rfl, ⟨10, 0, gt_0, rfl⟩, ins_X10_law, lk_L_21⟩ ⟨(Nat.le_of_ble_eq_true rfl), (Nat.le_of_ble_eq_true rfl), (Nat.le_of_ble_eq_true rfl), (Nat.le_of_ble_eq_true rfl)⟩ (Nat.le_of_ble_eq_true rfl) hpc rfl (st1 := [vI y, vI 0, vR 129]) (fun _ => rfl) ?_
          refine g_i2l hX ?_
          refine g_last hX gt_129 rfl ?_
          refine g_goto hX 15 rfl rfl ?_
          refine g_iconst hX (v := 0) rfl ?_
          refine g_widen (cs' := (1, 6)) (Nat.zero_le _) (Nat.zero_le _) ?_
          exact g_wret hX hW rfl
        | _ => cases h
    · change (if E = nNSE then some (1, M2) else if E = nIAE then some (2, M2) else (none : Option (Int32 × PM))) = some (x, M1) at h
      by_cases e0 : E = nNSE
      · rw [if_pos e0] at h
        cases h; subst e0
        refine g_catch (d2 := 8) (i9 := 13) hX ⟨mok_X10_law, rfl, ⟨10, 0, gt_0, rfl⟩, ins_X10_law, lk_L_21⟩ ⟨(Nat.le_of_ble_eq_true rfl), (Nat.le_of_ble_eq_true rfl), (Nat.le_of_ble_eq_true rfl), (Nat.le_of_ble_eq_true rfl)⟩ (Nat.le_of_ble_eq_true rfl) hpc rfl (fun he => WX.h0 hX hW lct_25 cast_NSE rfl (by decide) he) 9 rfl (Or.inr ⟨4, rfl, rfl, (Nat.le_of_ble_eq_true rfl), rfl⟩) ?_
        refine g_iconst hX (v := 1) rfl ?_
        exact g_wret hX hW rfl
      rw [if_neg e0] at h
      by_cases e1 : E = nIAE
      · rw [if_pos e1] at h
        cases h; subst e1
        refine g_catch (d2 := 8) (i9 := 17) hX ⟨mok_X10_law, rfl, ⟨10, 0, gt_0, rfl⟩, ins_X10_law, lk_L_21⟩ ⟨(Nat.le_of_ble_eq_true rfl), (Nat.le_of_ble_eq_true rfl), (Nat.le_of_ble_eq_true rfl), (Nat.le_of_ble_eq_true rfl)⟩ (Nat.le_of_ble_eq_true rfl) hpc rfl (fun he => WX.h1 hX hW lct_25 lct_13 cast_IAE rfl (by decide) (by decide) no_IAE_NSE he) 12 rfl (Or.inr ⟨4, rfl, rfl, (Nat.le_of_ble_eq_true rfl), rfl⟩) ?_
        refine g_iconst hX (v := 2) rfl ?_
        exact g_wret hX hW rfl
      rw [if_neg e1] at h
      cases h
def k_L_slip_17 : List CI := (17, .iconst 0, 1) :: (18, .ireturn, 1) :: []
def k_L_slip_13 : List CI := (13, .astore 4, 2) :: (15, .iconst 1, 1) :: (16, .ireturn, 1) :: k_L_slip_17
def k_L_slip_0 : List CI := (0, .aload_n 3, 1) :: (1, .iconst 0, 1) :: (2, .aload_n 0, 1) :: (3, .iload_n 1, 1) :: (4, .iload_n 2, 1) :: (5, .invokevirtual 27, 3) :: (8, .i2l, 1) :: (9, .lastore, 1) :: (10, .goto 7, 3) :: k_L_slip_13
def Y_L_slip : MD := (yL_slip, cL_slip, 5, (some .int), k_L_slip_0)
theorem cok_L_slip : COK Y_L_slip.2.1 Y_L_slip.code = true := by decide +kernel
def hh_L_slip : List (Nat × Nat × Nat × Nat) := [(0, 10, 13, 25)]
theorem cw_L_slip : Cond.codeWith Y_L_slip.1 Y_L_slip.2.1 Y_L_slip.2.2.1 Y_L_slip.2.2.2.1 hh_L_slip ∈ UW := mU_4 133 rfl rfl
theorem lk_L_27 : LNK RL 27 Y_X10_slip := mU_4 134 rfl rfl
def w_slip (M : PM) (a1 : Int32) (a2 : Int32) : Option (Int32 × PM) := wI1 nNSE (F_X10_slip_0 M a1 a2)
set_option maxRecDepth 100000 in
theorem pw_slip {l : Launch} (hl : l.stackTraces = false) {M : PM} {a1 : Int32} {a2 : Int32} {x : Int32} {M1 : PM} (h : w_slip M a1 a2 = some (x, M1)) : PCW l 9 Y_L_slip hh_L_slip [vR 0, vI a1, vI a2, vR 129] M x M1 := by
  refine pcw_of (ls := [vR 0, vI a1, vI a2, vR 129, jk]) (by decide +kernel) cok_L_slip (Nat.le_of_ble_eq_true rfl) rfl (fun X hX hW => ?_) rfl
  refine g_aload_n hX rfl ?_
  refine g_iconst hX (v := 0) rfl ?_
  refine g_aload_n hX rfl ?_
  refine g_iload_n hX rfl ?_
  refine g_iload_n hX rfl ?_
  unfold w_slip at h
  cases hf : (F_X10_slip_0 M a1 a2) with
  | none => rw [hf] at h; cases h
  | some rr =>
    rw [hf] at h
    have hpc := pc_X10_slip_0 hl hf
    obtain ⟨ra, M2⟩ := rr
    rcases ra with ra | E
    · rcases ra with _ | v
      · cases h
      · cases v with
        | int y =>
          cases h
          refine g_call (d2 := 8) hX ⟨mok_X10_slip, rfl, ⟨10, 0, gt_0, rfl⟩, ins_X10_slip, lk_L_27⟩ ⟨(Nat.le_of_ble_eq_true rfl), (Nat.le_of_ble_eq_true rfl), (Nat.le_of_ble_eq_true rfl), (Nat.le_of_ble_eq_true rfl)⟩ (Nat.le_of_ble_eq_true rfl) hpc rfl (st1 := [vI y, vI 0, vR 129]) (fun _ => rfl) ?_
          refine g_i2l hX ?_
          refine g_last hX gt_129 rfl ?_
          refine g_goto hX 12 rfl rfl ?_
          refine g_iconst hX (v := 0) rfl ?_
          refine g_widen (cs' := (1, 6)) (Nat.zero_le _) (Nat.zero_le _) ?_
          exact g_wret hX hW rfl
        | _ => cases h
    · change (if E = nNSE then some (1, M2) else (none : Option (Int32 × PM))) = some (x, M1) at h
      by_cases e0 : E = nNSE
      · rw [if_pos e0] at h
        cases h; subst e0
        refine g_catch (d2 := 8) (i9 := 13) hX ⟨mok_X10_slip, rfl, ⟨10, 0, gt_0, rfl⟩, ins_X10_slip, lk_L_27⟩ ⟨(Nat.le_of_ble_eq_true rfl), (Nat.le_of_ble_eq_true rfl), (Nat.le_of_ble_eq_true rfl), (Nat.le_of_ble_eq_true rfl)⟩ (Nat.le_of_ble_eq_true rfl) hpc rfl (fun he => WX.h0 hX hW lct_25 cast_NSE rfl (by decide) he) 9 rfl (Or.inr ⟨4, rfl, rfl, (Nat.le_of_ble_eq_true rfl), rfl⟩) ?_
        refine g_iconst hX (v := 1) rfl ?_
        exact g_wret hX hW rfl
      rw [if_neg e0] at h
      cases h
def k_L_turn_23 : List CI := (23, .iconst 0, 1) :: (24, .ireturn, 1) :: []
def k_L_turn_19 : List CI := (19, .astore 5, 2) :: (21, .iconst 2, 1) :: (22, .ireturn, 1) :: k_L_turn_23
def k_L_turn_15 : List CI := (15, .astore 5, 2) :: (17, .iconst 1, 1) :: (18, .ireturn, 1) :: k_L_turn_19
def k_L_turn_0 : List CI := (0, .aload 4, 2) :: (2, .iconst 0, 1) :: (3, .aload_n 0, 1) :: (4, .iload_n 1, 1) :: (5, .iload_n 2, 1) :: (6, .iload_n 3, 1) :: (7, .invokevirtual 30, 3) :: (10, .i2l, 1) :: (11, .lastore, 1) :: (12, .goto 11, 3) :: k_L_turn_15
def Y_L_turn : MD := (yL_turn, cL_turn, 6, (some .int), k_L_turn_0)
theorem cok_L_turn : COK Y_L_turn.2.1 Y_L_turn.code = true := by decide +kernel
def hh_L_turn : List (Nat × Nat × Nat × Nat) := [(0, 12, 15, 25), (0, 12, 19, 13)]
theorem cw_L_turn : Cond.codeWith Y_L_turn.1 Y_L_turn.2.1 Y_L_turn.2.2.1 Y_L_turn.2.2.2.1 hh_L_turn ∈ UW := mU_4 152 rfl rfl
theorem lk_L_30 : LNK RL 30 Y_X10_turn := mU_4 153 rfl rfl
def w_turn (M : PM) (a1 : Int32) (a2 : Int32) (a3 : Int32) : Option (Int32 × PM) := wI2 nNSE nIAE (F_X10_turn_0 M a1 a2 a3)
set_option maxRecDepth 100000 in
theorem pw_turn {l : Launch} (hl : l.stackTraces = false) {M : PM} {a1 : Int32} {a2 : Int32} {a3 : Int32} {x : Int32} {M1 : PM} (h : w_turn M a1 a2 a3 = some (x, M1)) : PCW l 9 Y_L_turn hh_L_turn [vR 0, vI a1, vI a2, vI a3, vR 129] M x M1 := by
  refine pcw_of (ls := [vR 0, vI a1, vI a2, vI a3, vR 129, jk]) (by decide +kernel) cok_L_turn (Nat.le_of_ble_eq_true rfl) rfl (fun X hX hW => ?_) rfl
  refine g_aload hX rfl ?_
  refine g_iconst hX (v := 0) rfl ?_
  refine g_aload_n hX rfl ?_
  refine g_iload_n hX rfl ?_
  refine g_iload_n hX rfl ?_
  refine g_iload_n hX rfl ?_
  unfold w_turn at h
  cases hf : (F_X10_turn_0 M a1 a2 a3) with
  | none => rw [hf] at h; cases h
  | some rr =>
    rw [hf] at h
    have hpc := pc_X10_turn_0 hl hf
    obtain ⟨ra, M2⟩ := rr
    rcases ra with ra | E
    · rcases ra with _ | v
      · cases h
      · cases v with
        | int y =>
          cases h
          refine g_call (d2 := 8) hX ⟨mok_X10_turn, rfl, ⟨10, 0, gt_0, rfl⟩, ins_X10_turn, lk_L_30⟩ ⟨(Nat.le_of_ble_eq_true rfl), (Nat.le_of_ble_eq_true rfl), (Nat.le_of_ble_eq_true rfl), (Nat.le_of_ble_eq_true rfl)⟩ (Nat.le_of_ble_eq_true rfl) hpc rfl (st1 := [vI y, vI 0, vR 129]) (fun _ => rfl) ?_
          refine g_i2l hX ?_
          refine g_last hX gt_129 rfl ?_
          refine g_goto hX 16 rfl rfl ?_
          refine g_iconst hX (v := 0) rfl ?_
          refine g_widen (cs' := (1, 6)) (Nat.zero_le _) (Nat.zero_le _) ?_
          exact g_wret hX hW rfl
        | _ => cases h
    · change (if E = nNSE then some (1, M2) else if E = nIAE then some (2, M2) else (none : Option (Int32 × PM))) = some (x, M1) at h
      by_cases e0 : E = nNSE
      · rw [if_pos e0] at h
        cases h; subst e0
        refine g_catch (d2 := 8) (i9 := 15) hX ⟨mok_X10_turn, rfl, ⟨10, 0, gt_0, rfl⟩, ins_X10_turn, lk_L_30⟩ ⟨(Nat.le_of_ble_eq_true rfl), (Nat.le_of_ble_eq_true rfl), (Nat.le_of_ble_eq_true rfl), (Nat.le_of_ble_eq_true rfl)⟩ (Nat.le_of_ble_eq_true rfl) hpc rfl (fun he => WX.h0 hX hW lct_25 cast_NSE rfl (by decide) he) 10 rfl (Or.inr ⟨5, rfl, rfl, (Nat.le_of_ble_eq_true rfl), rfl⟩) ?_
        refine g_iconst hX (v := 1) rfl ?_
        exact g_wret hX hW rfl
      rw [if_neg e0] at h
      by_cases e1 : E = nIAE
      · rw [if_pos e1] at h
        cases h; subst e1
        refine g_catch (d2 := 8) (i9 := 19) hX ⟨mok_X10_turn, rfl, ⟨10, 0, gt_0, rfl⟩, ins_X10_turn, lk_L_30⟩ ⟨(Nat.le_of_ble_eq_true rfl), (Nat.le_of_ble_eq_true rfl), (Nat.le_of_ble_eq_true rfl), (Nat.le_of_ble_eq_true rfl)⟩ (Nat.le_of_ble_eq_true rfl) hpc rfl (fun he => WX.h1 hX hW lct_25 lct_13 cast_IAE rfl (by decide) (by decide) no_IAE_NSE he) 13 rfl (Or.inr ⟨5, rfl, rfl, (Nat.le_of_ble_eq_true rfl), rfl⟩) ?_
        refine g_iconst hX (v := 2) rfl ?_
        exact g_wret hX hW rfl
      rw [if_neg e1] at h
      cases h
def k_L_turned_15 : List CI := (15, .iconst 0, 1) :: (16, .ireturn, 1) :: []
def k_L_turned_12 : List CI := (12, .astore_n 3, 1) :: (13, .iconst 1, 1) :: (14, .ireturn, 1) :: k_L_turned_15
def k_L_turned_0 : List CI := (0, .aload_n 2, 1) :: (1, .iconst 0, 1) :: (2, .aload_n 0, 1) :: (3, .iload_n 1, 1) :: (4, .invokevirtual 34, 3) :: (7, .i2l, 1) :: (8, .lastore, 1) :: (9, .goto 6, 3) :: k_L_turned_12
def Y_L_turned : MD := (yL_turned, cL_turned, 4, (some .int), k_L_turned_0)
theorem cok_L_turned : COK Y_L_turned.2.1 Y_L_turned.code = true := by decide +kernel
def hh_L_turned : List (Nat × Nat × Nat × Nat) := [(0, 9, 12, 37)]
theorem cw_L_turned : Cond.codeWith Y_L_turned.1 Y_L_turned.2.1 Y_L_turned.2.2.1 Y_L_turned.2.2.2.1 hh_L_turned ∈ UW := mU_4 164 rfl rfl
theorem lk_L_34 : LNK RL 34 Y_X10_turned := mU_4 166 rfl rfl
def w_turned (M : PM) (a1 : Int32) : Option (Int32 × PM) := wI1 nIOB (F_X10_turned_0 M a1)
set_option maxRecDepth 100000 in
theorem pw_turned {l : Launch} (hl : l.stackTraces = false) {M : PM} {a1 : Int32} {x : Int32} {M1 : PM} (h : w_turned M a1 = some (x, M1)) : PCW l 8 Y_L_turned hh_L_turned [vR 0, vI a1, vR 129] M x M1 := by
  refine pcw_of (ls := [vR 0, vI a1, vR 129, jk]) (by decide +kernel) cok_L_turned (Nat.le_of_ble_eq_true rfl) rfl (fun X hX hW => ?_) rfl
  refine g_aload_n hX rfl ?_
  refine g_iconst hX (v := 0) rfl ?_
  refine g_aload_n hX rfl ?_
  refine g_iload_n hX rfl ?_
  unfold w_turned at h
  cases hf : (F_X10_turned_0 M a1) with
  | none => rw [hf] at h; cases h
  | some rr =>
    rw [hf] at h
    have hpc := pc_X10_turned_0 hl hf
    obtain ⟨ra, M2⟩ := rr
    rcases ra with ra | E
    · rcases ra with _ | v
      · cases h
      · cases v with
        | int y =>
          cases h
          refine g_call (d2 := 7) hX ⟨mok_X10_turned, rfl, ⟨10, 0, gt_0, rfl⟩, ins_X10_turned, lk_L_34⟩ ⟨(Nat.le_of_ble_eq_true rfl), (Nat.le_of_ble_eq_true rfl), (Nat.le_of_ble_eq_true rfl), (Nat.le_of_ble_eq_true rfl)⟩ (Nat.le_of_ble_eq_true rfl) hpc rfl (st1 := [vI y, vI 0, vR 129]) (fun _ => rfl) ?_
          refine g_i2l hX ?_
          refine g_last hX gt_129 rfl ?_
          refine g_goto hX 11 rfl rfl ?_
          refine g_iconst hX (v := 0) rfl ?_
          refine g_widen (cs' := (1, 6)) (Nat.zero_le _) (Nat.zero_le _) ?_
          exact g_wret hX hW rfl
        | _ => cases h
    · change (if E = nIOB then some (1, M2) else (none : Option (Int32 × PM))) = some (x, M1) at h
      by_cases e0 : E = nIOB
      · rw [if_pos e0] at h
        cases h; subst e0
        refine g_catch (d2 := 7) (i9 := 12) hX ⟨mok_X10_turned, rfl, ⟨10, 0, gt_0, rfl⟩, ins_X10_turned, lk_L_34⟩ ⟨(Nat.le_of_ble_eq_true rfl), (Nat.le_of_ble_eq_true rfl), (Nat.le_of_ble_eq_true rfl), (Nat.le_of_ble_eq_true rfl)⟩ (Nat.le_of_ble_eq_true rfl) hpc rfl (fun he => WX.h0 hX hW lct_37 cast_IOB rfl (by decide) he) 8 rfl (Or.inl ⟨3, rfl, rfl, (Nat.le_of_ble_eq_true rfl), rfl⟩) ?_
        refine g_iconst hX (v := 1) rfl ?_
        exact g_wret hX hW rfl
      rw [if_neg e0] at h
      cases h
def k_L_holds_15 : List CI := (15, .iconst 0, 1) :: (16, .ireturn, 1) :: []
def k_L_holds_12 : List CI := (12, .astore_n 3, 1) :: (13, .iconst 1, 1) :: (14, .ireturn, 1) :: k_L_holds_15
def k_L_holds_0 : List CI := (0, .aload_n 2, 1) :: (1, .iconst 0, 1) :: (2, .aload_n 0, 1) :: (3, .iload_n 1, 1) :: (4, .invokevirtual 39, 3) :: (7, .i2l, 1) :: (8, .lastore, 1) :: (9, .goto 6, 3) :: k_L_holds_12
def Y_L_holds : MD := (yL_holds, cL_holds, 4, (some .int), k_L_holds_0)
theorem cok_L_holds : COK Y_L_holds.2.1 Y_L_holds.code = true := by decide +kernel
def hh_L_holds : List (Nat × Nat × Nat × Nat) := [(0, 9, 12, 37)]
theorem cw_L_holds : Cond.codeWith Y_L_holds.1 Y_L_holds.2.1 Y_L_holds.2.2.1 Y_L_holds.2.2.2.1 hh_L_holds ∈ UW := mU_4 197 rfl rfl
theorem lk_L_39 : LNK RL 39 Y_X10_holds := mU_4 198 rfl rfl
def w_holds (M : PM) (a1 : Int32) : Option (Int32 × PM) := wI1 nIOB (F_X10_holds_0 M a1)
set_option maxRecDepth 100000 in
theorem pw_holds {l : Launch} (hl : l.stackTraces = false) {M : PM} {a1 : Int32} {x : Int32} {M1 : PM} (h : w_holds M a1 = some (x, M1)) : PCW l 8 Y_L_holds hh_L_holds [vR 0, vI a1, vR 129] M x M1 := by
  refine pcw_of (ls := [vR 0, vI a1, vR 129, jk]) (by decide +kernel) cok_L_holds (Nat.le_of_ble_eq_true rfl) rfl (fun X hX hW => ?_) rfl
  refine g_aload_n hX rfl ?_
  refine g_iconst hX (v := 0) rfl ?_
  refine g_aload_n hX rfl ?_
  refine g_iload_n hX rfl ?_
  unfold w_holds at h
  cases hf : (F_X10_holds_0 M a1) with
  | none => rw [hf] at h; cases h
  | some rr =>
    rw [hf] at h
    have hpc := pc_X10_holds_0 hl hf
    obtain ⟨ra, M2⟩ := rr
    rcases ra with ra | E
    · rcases ra with _ | v
      · cases h
      · cases v with
        | int y =>
          cases h
          refine g_call (d2 := 7) hX ⟨mok_X10_holds, rfl, ⟨10, 0, gt_0, rfl⟩, ins_X10_holds, lk_L_39⟩ ⟨(Nat.le_of_ble_eq_true rfl), (Nat.le_of_ble_eq_true rfl), (Nat.le_of_ble_eq_true rfl), (Nat.le_of_ble_eq_true rfl)⟩ (Nat.le_of_ble_eq_true rfl) hpc rfl (st1 := [vI y, vI 0, vR 129]) (fun _ => rfl) ?_
          refine g_i2l hX ?_
          refine g_last hX gt_129 rfl ?_
          refine g_goto hX 11 rfl rfl ?_
          refine g_iconst hX (v := 0) rfl ?_
          refine g_widen (cs' := (1, 6)) (Nat.zero_le _) (Nat.zero_le _) ?_
          exact g_wret hX hW rfl
        | _ => cases h
    · change (if E = nIOB then some (1, M2) else (none : Option (Int32 × PM))) = some (x, M1) at h
      by_cases e0 : E = nIOB
      · rw [if_pos e0] at h
        cases h; subst e0
        refine g_catch (d2 := 7) (i9 := 12) hX ⟨mok_X10_holds, rfl, ⟨10, 0, gt_0, rfl⟩, ins_X10_holds, lk_L_39⟩ ⟨(Nat.le_of_ble_eq_true rfl), (Nat.le_of_ble_eq_true rfl), (Nat.le_of_ble_eq_true rfl), (Nat.le_of_ble_eq_true rfl)⟩ (Nat.le_of_ble_eq_true rfl) hpc rfl (fun he => WX.h0 hX hW lct_37 cast_IOB rfl (by decide) he) 8 rfl (Or.inl ⟨3, rfl, rfl, (Nat.le_of_ble_eq_true rfl), rfl⟩) ?_
        refine g_iconst hX (v := 1) rfl ?_
        exact g_wret hX hW rfl
      rw [if_neg e0] at h
      cases h
def k_L_inHouse_21 : List CI := (21, .iconst 0, 1) :: (22, .ireturn, 1) :: []
def k_L_inHouse_17 : List CI := (17, .astore 4, 2) :: (19, .iconst 2, 1) :: (20, .ireturn, 1) :: k_L_inHouse_21
def k_L_inHouse_13 : List CI := (13, .astore 4, 2) :: (15, .iconst 1, 1) :: (16, .ireturn, 1) :: k_L_inHouse_17
def k_L_inHouse_0 : List CI := (0, .aload_n 3, 1) :: (1, .iconst 0, 1) :: (2, .aload_n 0, 1) :: (3, .iload_n 1, 1) :: (4, .iload_n 2, 1) :: (5, .invokevirtual 42, 3) :: (8, .i2l, 1) :: (9, .lastore, 1) :: (10, .goto 11, 3) :: k_L_inHouse_13
def Y_L_inHouse : MD := (yL_inHouse, cL_inHouse, 5, (some .int), k_L_inHouse_0)
theorem cok_L_inHouse : COK Y_L_inHouse.2.1 Y_L_inHouse.code = true := by decide +kernel
def hh_L_inHouse : List (Nat × Nat × Nat × Nat) := [(0, 10, 13, 37), (0, 10, 17, 25)]
theorem cw_L_inHouse : Cond.codeWith Y_L_inHouse.1 Y_L_inHouse.2.1 Y_L_inHouse.2.2.1 Y_L_inHouse.2.2.2.1 hh_L_inHouse ∈ UW := mU_4 212 rfl rfl
theorem lk_L_42 : LNK RL 42 Y_X10_inHouse := mU_4 213 rfl rfl
def w_inHouse (M : PM) (a1 : Int32) (a2 : Int32) : Option (Int32 × PM) := wI2 nIOB nNSE (F_X10_inHouse_0 M a1 a2)
set_option maxRecDepth 100000 in
theorem pw_inHouse {l : Launch} (hl : l.stackTraces = false) {M : PM} {a1 : Int32} {a2 : Int32} {x : Int32} {M1 : PM} (h : w_inHouse M a1 a2 = some (x, M1)) : PCW l 9 Y_L_inHouse hh_L_inHouse [vR 0, vI a1, vI a2, vR 129] M x M1 := by
  refine pcw_of (ls := [vR 0, vI a1, vI a2, vR 129, jk]) (by decide +kernel) cok_L_inHouse (Nat.le_of_ble_eq_true rfl) rfl (fun X hX hW => ?_) rfl
  refine g_aload_n hX rfl ?_
  refine g_iconst hX (v := 0) rfl ?_
  refine g_aload_n hX rfl ?_
  refine g_iload_n hX rfl ?_
  refine g_iload_n hX rfl ?_
  unfold w_inHouse at h
  cases hf : (F_X10_inHouse_0 M a1 a2) with
  | none => rw [hf] at h; cases h
  | some rr =>
    rw [hf] at h
    have hpc := pc_X10_inHouse_0 hl hf
    obtain ⟨ra, M2⟩ := rr
    rcases ra with ra | E
    · rcases ra with _ | v
      · cases h
      · cases v with
        | int y =>
          cases h
          refine g_call (d2 := 8) hX ⟨mok_X10_inHouse, rfl, ⟨10, 0, gt_0, rfl⟩, ins_X10_inHouse, lk_L_42⟩ ⟨(Nat.le_of_ble_eq_true rfl), (Nat.le_of_ble_eq_true rfl), (Nat.le_of_ble_eq_true rfl), (Nat.le_of_ble_eq_true rfl)⟩ (Nat.le_of_ble_eq_true rfl) hpc rfl (st1 := [vI y, vI 0, vR 129]) (fun _ => rfl) ?_
          refine g_i2l hX ?_
          refine g_last hX gt_129 rfl ?_
          refine g_goto hX 15 rfl rfl ?_
          refine g_iconst hX (v := 0) rfl ?_
          refine g_widen (cs' := (1, 6)) (Nat.zero_le _) (Nat.zero_le _) ?_
          exact g_wret hX hW rfl
        | _ => cases h
    · change (if E = nIOB then some (1, M2) else if E = nNSE then some (2, M2) else (none : Option (Int32 × PM))) = some (x, M1) at h
      by_cases e0 : E = nIOB
      · rw [if_pos e0] at h
        cases h; subst e0
        refine g_catch (d2 := 8) (i9 := 13) hX ⟨mok_X10_inHouse, rfl, ⟨10, 0, gt_0, rfl⟩, ins_X10_inHouse, lk_L_42⟩ ⟨(Nat.le_of_ble_eq_true rfl), (Nat.le_of_ble_eq_true rfl), (Nat.le_of_ble_eq_true rfl), (Nat.le_of_ble_eq_true rfl)⟩ (Nat.le_of_ble_eq_true rfl) hpc rfl (fun he => WX.h0 hX hW lct_37 cast_IOB rfl (by decide) he) 9 rfl (Or.inr ⟨4, rfl, rfl, (Nat.le_of_ble_eq_true rfl), rfl⟩) ?_
        refine g_iconst hX (v := 1) rfl ?_
        exact g_wret hX hW rfl
      rw [if_neg e0] at h
      by_cases e1 : E = nNSE
      · rw [if_pos e1] at h
        cases h; subst e1
        refine g_catch (d2 := 8) (i9 := 17) hX ⟨mok_X10_inHouse, rfl, ⟨10, 0, gt_0, rfl⟩, ins_X10_inHouse, lk_L_42⟩ ⟨(Nat.le_of_ble_eq_true rfl), (Nat.le_of_ble_eq_true rfl), (Nat.le_of_ble_eq_true rfl), (Nat.le_of_ble_eq_true rfl)⟩ (Nat.le_of_ble_eq_true rfl) hpc rfl (fun he => WX.h1 hX hW lct_37 lct_25 cast_NSE rfl (by decide) (by decide) no_NSE_IOB he) 12 rfl (Or.inr ⟨4, rfl, rfl, (Nat.le_of_ble_eq_true rfl), rfl⟩) ?_
        refine g_iconst hX (v := 2) rfl ?_
        exact g_wret hX hW rfl
      rw [if_neg e1] at h
      cases h
def k_L_clashes_15 : List CI := (15, .iconst 0, 1) :: (16, .ireturn, 1) :: []
def k_L_clashes_12 : List CI := (12, .astore_n 3, 1) :: (13, .iconst 1, 1) :: (14, .ireturn, 1) :: k_L_clashes_15
def k_L_clashes_0 : List CI := (0, .aload_n 2, 1) :: (1, .iconst 0, 1) :: (2, .aload_n 0, 1) :: (3, .iload_n 1, 1) :: (4, .invokevirtual 45, 3) :: (7, .i2l, 1) :: (8, .lastore, 1) :: (9, .goto 6, 3) :: k_L_clashes_12
def Y_L_clashes : MD := (yL_clashes, cL_clashes, 4, (some .int), k_L_clashes_0)
theorem cok_L_clashes : COK Y_L_clashes.2.1 Y_L_clashes.code = true := by decide +kernel
def hh_L_clashes : List (Nat × Nat × Nat × Nat) := [(0, 9, 12, 37)]
theorem cw_L_clashes : Cond.codeWith Y_L_clashes.1 Y_L_clashes.2.1 Y_L_clashes.2.2.1 Y_L_clashes.2.2.2.1 hh_L_clashes ∈ UW := mU_4 223 rfl rfl
theorem lk_L_45 : LNK RL 45 Y_X10_clashes := mU_4 224 rfl rfl
def w_clashes (M : PM) (a1 : Int32) : Option (Int32 × PM) := wI1 nIOB (F_X10_clashes_0 M a1)
set_option maxRecDepth 100000 in
theorem pw_clashes {l : Launch} (hl : l.stackTraces = false) {M : PM} {a1 : Int32} {x : Int32} {M1 : PM} (h : w_clashes M a1 = some (x, M1)) : PCW l 8 Y_L_clashes hh_L_clashes [vR 0, vI a1, vR 129] M x M1 := by
  refine pcw_of (ls := [vR 0, vI a1, vR 129, jk]) (by decide +kernel) cok_L_clashes (Nat.le_of_ble_eq_true rfl) rfl (fun X hX hW => ?_) rfl
  refine g_aload_n hX rfl ?_
  refine g_iconst hX (v := 0) rfl ?_
  refine g_aload_n hX rfl ?_
  refine g_iload_n hX rfl ?_
  unfold w_clashes at h
  cases hf : (F_X10_clashes_0 M a1) with
  | none => rw [hf] at h; cases h
  | some rr =>
    rw [hf] at h
    have hpc := pc_X10_clashes_0 hl hf
    obtain ⟨ra, M2⟩ := rr
    rcases ra with ra | E
    · rcases ra with _ | v
      · cases h
      · cases v with
        | int y =>
          cases h
          refine g_call (d2 := 7) hX ⟨mok_X10_clashes, rfl, ⟨10, 0, gt_0, rfl⟩, ins_X10_clashes, lk_L_45⟩ ⟨(Nat.le_of_ble_eq_true rfl), (Nat.le_of_ble_eq_true rfl), (Nat.le_of_ble_eq_true rfl), (Nat.le_of_ble_eq_true rfl)⟩ (Nat.le_of_ble_eq_true rfl) hpc rfl (st1 := [vI y, vI 0, vR 129]) (fun _ => rfl) ?_
          refine g_i2l hX ?_
          refine g_last hX gt_129 rfl ?_
          refine g_goto hX 11 rfl rfl ?_
          refine g_iconst hX (v := 0) rfl ?_
          refine g_widen (cs' := (1, 6)) (Nat.zero_le _) (Nat.zero_le _) ?_
          exact g_wret hX hW rfl
        | _ => cases h
    · change (if E = nIOB then some (1, M2) else (none : Option (Int32 × PM))) = some (x, M1) at h
      by_cases e0 : E = nIOB
      · rw [if_pos e0] at h
        cases h; subst e0
        refine g_catch (d2 := 7) (i9 := 12) hX ⟨mok_X10_clashes, rfl, ⟨10, 0, gt_0, rfl⟩, ins_X10_clashes, lk_L_45⟩ ⟨(Nat.le_of_ble_eq_true rfl), (Nat.le_of_ble_eq_true rfl), (Nat.le_of_ble_eq_true rfl), (Nat.le_of_ble_eq_true rfl)⟩ (Nat.le_of_ble_eq_true rfl) hpc rfl (fun he => WX.h0 hX hW lct_37 cast_IOB rfl (by decide) he) 8 rfl (Or.inl ⟨3, rfl, rfl, (Nat.le_of_ble_eq_true rfl), rfl⟩) ?_
        refine g_iconst hX (v := 1) rfl ?_
        exact g_wret hX hW rfl
      rw [if_neg e0] at h
      cases h
def k_L_such_22 : List CI := (22, .iconst 0, 1) :: (23, .ireturn, 1) :: []
def k_L_such_19 : List CI := (19, .astore_n 3, 1) :: (20, .iconst 1, 1) :: (21, .ireturn, 1) :: k_L_such_22
def k_L_such_15 : List CI := (15, .lastore, 1) :: (16, .goto 6, 3) :: k_L_such_19
def k_L_such_14 : List CI := (14, .lconst 0, 1) :: k_L_such_15
def k_L_such_0 : List CI := (0, .aload_n 2, 1) :: (1, .iconst 0, 1) :: (2, .aload_n 0, 1) :: (3, .iload_n 1, 1) :: (4, .invokevirtual 48, 3) :: (7, .ifCond .eq 7, 3) :: (10, .lconst 1, 1) :: (11, .goto 4, 3) :: k_L_such_14
def Y_L_such : MD := (yL_such, cL_such, 4, (some .int), k_L_such_0)
theorem cok_L_such : COK Y_L_such.2.1 Y_L_such.code = true := by decide +kernel
def hh_L_such : List (Nat × Nat × Nat × Nat) := [(0, 16, 19, 37)]
theorem cw_L_such : Cond.codeWith Y_L_such.1 Y_L_such.2.1 Y_L_such.2.2.1 Y_L_such.2.2.2.1 hh_L_such ∈ UW := mU_4 230 rfl rfl
theorem lk_L_48 : LNK RL 48 Y_X10_such := mU_4 231 rfl rfl
def w_such (M : PM) (a1 : Int32) : Option (Int32 × PM) := wZ1 nIOB (F_X10_such_0 M a1)
set_option maxRecDepth 100000 in
theorem pw_such {l : Launch} (hl : l.stackTraces = false) {M : PM} {a1 : Int32} {x : Int32} {M1 : PM} (h : w_such M a1 = some (x, M1)) : PCW l 8 Y_L_such hh_L_such [vR 0, vI a1, vR 129] M x M1 := by
  refine pcw_of (ls := [vR 0, vI a1, vR 129, jk]) (by decide +kernel) cok_L_such (Nat.le_of_ble_eq_true rfl) rfl (fun X hX hW => ?_) rfl
  refine g_aload_n hX rfl ?_
  refine g_iconst hX (v := 0) rfl ?_
  refine g_aload_n hX rfl ?_
  refine g_iload_n hX rfl ?_
  unfold w_such at h
  cases hf : (F_X10_such_0 M a1) with
  | none => rw [hf] at h; cases h
  | some rr =>
    rw [hf] at h
    have hpc := pc_X10_such_0 hl hf
    obtain ⟨ra, M2⟩ := rr
    rcases ra with ra | E
    · rcases ra with _ | v
      · cases h
      · cases v with
        | int y =>
          cases h
          refine g_call (d2 := 7) hX ⟨mok_X10_such, rfl, ⟨10, 0, gt_0, rfl⟩, ins_X10_such, lk_L_48⟩ ⟨(Nat.le_of_ble_eq_true rfl), (Nat.le_of_ble_eq_true rfl), (Nat.le_of_ble_eq_true rfl), (Nat.le_of_ble_eq_true rfl)⟩ (Nat.le_of_ble_eq_true rfl) hpc rfl (st1 := [vI y, vI 0, vR 129]) (fun _ => rfl) ?_
          by_cases hy : y = 0
          · rw [if_pos hy] at hW
            refine g_if_eqT hX 8 rfl rfl hy ?_
            refine g_lconst hX (v := 0) rfl ?_
            refine g_last hX gt_129 rfl ?_
            refine g_goto hX 14 rfl rfl ?_
            refine g_iconst hX (v := 0) rfl ?_
            refine g_widen (cs' := (1, 6)) (Nat.zero_le _) (Nat.zero_le _) ?_
            exact g_wret hX hW rfl
          · rw [if_neg hy] at hW
            refine g_if_eqF (tg := 14) hX rfl hy ?_
            refine g_lconst hX (v := 1) rfl ?_
            refine g_goto hX 9 rfl rfl ?_
            refine g_last hX gt_129 rfl ?_
            refine g_goto hX 14 rfl rfl ?_
            refine g_iconst hX (v := 0) rfl ?_
            refine g_widen (cs' := (1, 6)) (Nat.zero_le _) (Nat.zero_le _) ?_
            exact g_wret hX hW rfl
        | _ => cases h
    · change (if E = nIOB then some (1, M2) else (none : Option (Int32 × PM))) = some (x, M1) at h
      by_cases e0 : E = nIOB
      · rw [if_pos e0] at h
        cases h; subst e0
        refine g_catch (d2 := 7) (i9 := 19) hX ⟨mok_X10_such, rfl, ⟨10, 0, gt_0, rfl⟩, ins_X10_such, lk_L_48⟩ ⟨(Nat.le_of_ble_eq_true rfl), (Nat.le_of_ble_eq_true rfl), (Nat.le_of_ble_eq_true rfl), (Nat.le_of_ble_eq_true rfl)⟩ (Nat.le_of_ble_eq_true rfl) hpc rfl (fun he => WX.h0 hX hW lct_37 cast_IOB rfl (by decide) he) 11 rfl (Or.inl ⟨3, rfl, rfl, (Nat.le_of_ble_eq_true rfl), rfl⟩) ?_
        refine g_iconst hX (v := 1) rfl ?_
        exact g_wret hX hW rfl
      rw [if_neg e0] at h
      cases h
def k_L_next_15 : List CI := (15, .iconst 0, 1) :: (16, .ireturn, 1) :: []
def k_L_next_12 : List CI := (12, .astore_n 3, 1) :: (13, .iconst 1, 1) :: (14, .ireturn, 1) :: k_L_next_15
def k_L_next_0 : List CI := (0, .aload_n 2, 1) :: (1, .iconst 0, 1) :: (2, .aload_n 0, 1) :: (3, .iload_n 1, 1) :: (4, .invokevirtual 52, 3) :: (7, .i2l, 1) :: (8, .lastore, 1) :: (9, .goto 6, 3) :: k_L_next_12
def Y_L_next : MD := (yL_next, cL_next, 4, (some .int), k_L_next_0)
theorem cok_L_next : COK Y_L_next.2.1 Y_L_next.code = true := by decide +kernel
def hh_L_next : List (Nat × Nat × Nat × Nat) := [(0, 9, 12, 37)]
theorem cw_L_next : Cond.codeWith Y_L_next.1 Y_L_next.2.1 Y_L_next.2.2.1 Y_L_next.2.2.2.1 hh_L_next ∈ UW := mU_5 25 rfl rfl
theorem lk_L_52 : LNK RL 52 Y_X10_next := mU_5 26 rfl rfl
def w_next (M : PM) (a1 : Int32) : Option (Int32 × PM) := wI1 nIOB (F_X10_next_0 M a1)
set_option maxRecDepth 100000 in
theorem pw_next {l : Launch} (hl : l.stackTraces = false) {M : PM} {a1 : Int32} {x : Int32} {M1 : PM} (h : w_next M a1 = some (x, M1)) : PCW l 8 Y_L_next hh_L_next [vR 0, vI a1, vR 129] M x M1 := by
  refine pcw_of (ls := [vR 0, vI a1, vR 129, jk]) (by decide +kernel) cok_L_next (Nat.le_of_ble_eq_true rfl) rfl (fun X hX hW => ?_) rfl
  refine g_aload_n hX rfl ?_
  refine g_iconst hX (v := 0) rfl ?_
  refine g_aload_n hX rfl ?_
  refine g_iload_n hX rfl ?_
  unfold w_next at h
  cases hf : (F_X10_next_0 M a1) with
  | none => rw [hf] at h; cases h
  | some rr =>
    rw [hf] at h
    have hpc := pc_X10_next_0 hl hf
    obtain ⟨ra, M2⟩ := rr
    rcases ra with ra | E
    · rcases ra with _ | v
      · cases h
      · cases v with
        | int y =>
          cases h
          refine g_call (d2 := 7) hX ⟨mok_X10_next, rfl, ⟨10, 0, gt_0, rfl⟩, ins_X10_next, lk_L_52⟩ ⟨(Nat.le_of_ble_eq_true rfl), (Nat.le_of_ble_eq_true rfl), (Nat.le_of_ble_eq_true rfl), (Nat.le_of_ble_eq_true rfl)⟩ (Nat.le_of_ble_eq_true rfl) hpc rfl (st1 := [vI y, vI 0, vR 129]) (fun _ => rfl) ?_
          refine g_i2l hX ?_
          refine g_last hX gt_129 rfl ?_
          refine g_goto hX 11 rfl rfl ?_
          refine g_iconst hX (v := 0) rfl ?_
          refine g_widen (cs' := (1, 6)) (Nat.zero_le _) (Nat.zero_le _) ?_
          exact g_wret hX hW rfl
        | _ => cases h
    · change (if E = nIOB then some (1, M2) else (none : Option (Int32 × PM))) = some (x, M1) at h
      by_cases e0 : E = nIOB
      · rw [if_pos e0] at h
        cases h; subst e0
        refine g_catch (d2 := 7) (i9 := 12) hX ⟨mok_X10_next, rfl, ⟨10, 0, gt_0, rfl⟩, ins_X10_next, lk_L_52⟩ ⟨(Nat.le_of_ble_eq_true rfl), (Nat.le_of_ble_eq_true rfl), (Nat.le_of_ble_eq_true rfl), (Nat.le_of_ble_eq_true rfl)⟩ (Nat.le_of_ble_eq_true rfl) hpc rfl (fun he => WX.h0 hX hW lct_37 cast_IOB rfl (by decide) he) 8 rfl (Or.inl ⟨3, rfl, rfl, (Nat.le_of_ble_eq_true rfl), rfl⟩) ?_
        refine g_iconst hX (v := 1) rfl ?_
        exact g_wret hX hW rfl
      rw [if_neg e0] at h
      cases h
def k_L_never_15 : List CI := (15, .iconst 0, 1) :: (16, .ireturn, 1) :: []
def k_L_never_12 : List CI := (12, .astore_n 3, 1) :: (13, .iconst 1, 1) :: (14, .ireturn, 1) :: k_L_never_15
def k_L_never_0 : List CI := (0, .aload_n 2, 1) :: (1, .iconst 0, 1) :: (2, .aload_n 0, 1) :: (3, .iload_n 1, 1) :: (4, .invokevirtual 55, 3) :: (7, .i2l, 1) :: (8, .lastore, 1) :: (9, .goto 6, 3) :: k_L_never_12
def Y_L_never : MD := (yL_never, cL_never, 4, (some .int), k_L_never_0)
theorem cok_L_never : COK Y_L_never.2.1 Y_L_never.code = true := by decide +kernel
def hh_L_never : List (Nat × Nat × Nat × Nat) := [(0, 9, 12, 13)]
theorem cw_L_never : Cond.codeWith Y_L_never.1 Y_L_never.2.1 Y_L_never.2.2.1 Y_L_never.2.2.2.1 hh_L_never ∈ UW := mU_5 65 rfl rfl
theorem lk_L_55 : LNK RL 55 Y_X10_never := mU_5 66 rfl rfl
def w_never (M : PM) (a1 : Int32) : Option (Int32 × PM) := wI1 nIAE (F_X10_never_0 M a1)
set_option maxRecDepth 100000 in
theorem pw_never {l : Launch} (hl : l.stackTraces = false) {M : PM} {a1 : Int32} {x : Int32} {M1 : PM} (h : w_never M a1 = some (x, M1)) : PCW l 9 Y_L_never hh_L_never [vR 0, vI a1, vR 129] M x M1 := by
  refine pcw_of (ls := [vR 0, vI a1, vR 129, jk]) (by decide +kernel) cok_L_never (Nat.le_of_ble_eq_true rfl) rfl (fun X hX hW => ?_) rfl
  refine g_aload_n hX rfl ?_
  refine g_iconst hX (v := 0) rfl ?_
  refine g_aload_n hX rfl ?_
  refine g_iload_n hX rfl ?_
  unfold w_never at h
  cases hf : (F_X10_never_0 M a1) with
  | none => rw [hf] at h; cases h
  | some rr =>
    rw [hf] at h
    have hpc := pc_X10_never_0 hl hf
    obtain ⟨ra, M2⟩ := rr
    rcases ra with ra | E
    · rcases ra with _ | v
      · cases h
      · cases v with
        | int y =>
          cases h
          refine g_call (d2 := 8) hX ⟨mok_X10_never, rfl, ⟨10, 0, gt_0, rfl⟩, ins_X10_never, lk_L_55⟩ ⟨(Nat.le_of_ble_eq_true rfl), (Nat.le_of_ble_eq_true rfl), (Nat.le_of_ble_eq_true rfl), (Nat.le_of_ble_eq_true rfl)⟩ (Nat.le_of_ble_eq_true rfl) hpc rfl (st1 := [vI y, vI 0, vR 129]) (fun _ => rfl) ?_
          refine g_i2l hX ?_
          refine g_last hX gt_129 rfl ?_
          refine g_goto hX 11 rfl rfl ?_
          refine g_iconst hX (v := 0) rfl ?_
          refine g_widen (cs' := (1, 6)) (Nat.zero_le _) (Nat.zero_le _) ?_
          exact g_wret hX hW rfl
        | _ => cases h
    · change (if E = nIAE then some (1, M2) else (none : Option (Int32 × PM))) = some (x, M1) at h
      by_cases e0 : E = nIAE
      · rw [if_pos e0] at h
        cases h; subst e0
        refine g_catch (d2 := 8) (i9 := 12) hX ⟨mok_X10_never, rfl, ⟨10, 0, gt_0, rfl⟩, ins_X10_never, lk_L_55⟩ ⟨(Nat.le_of_ble_eq_true rfl), (Nat.le_of_ble_eq_true rfl), (Nat.le_of_ble_eq_true rfl), (Nat.le_of_ble_eq_true rfl)⟩ (Nat.le_of_ble_eq_true rfl) hpc rfl (fun he => WX.h0 hX hW lct_13 cast_IAE rfl (by decide) he) 8 rfl (Or.inl ⟨3, rfl, rfl, (Nat.le_of_ble_eq_true rfl), rfl⟩) ?_
        refine g_iconst hX (v := 1) rfl ?_
        exact g_wret hX hW rfl
      rw [if_neg e0] at h
      cases h
def k_L_together_15 : List CI := (15, .iconst 0, 1) :: (16, .ireturn, 1) :: []
def k_L_together_12 : List CI := (12, .astore_n 3, 1) :: (13, .iconst 1, 1) :: (14, .ireturn, 1) :: k_L_together_15
def k_L_together_0 : List CI := (0, .aload_n 2, 1) :: (1, .iconst 0, 1) :: (2, .aload_n 0, 1) :: (3, .iload_n 1, 1) :: (4, .invokevirtual 58, 3) :: (7, .i2l, 1) :: (8, .lastore, 1) :: (9, .goto 6, 3) :: k_L_together_12
def Y_L_together : MD := (yL_together, cL_together, 4, (some .int), k_L_together_0)
theorem cok_L_together : COK Y_L_together.2.1 Y_L_together.code = true := by decide +kernel
def hh_L_together : List (Nat × Nat × Nat × Nat) := [(0, 9, 12, 13)]
theorem cw_L_together : Cond.codeWith Y_L_together.1 Y_L_together.2.1 Y_L_together.2.2.1 Y_L_together.2.2.2.1 hh_L_together ∈ UW := mU_5 82 rfl rfl
theorem lk_L_58 : LNK RL 58 Y_X10_together := mU_5 83 rfl rfl
def w_together (M : PM) (a1 : Int32) : Option (Int32 × PM) := wI1 nIAE (F_X10_together_0 M a1)
set_option maxRecDepth 100000 in
theorem pw_together {l : Launch} (hl : l.stackTraces = false) {M : PM} {a1 : Int32} {x : Int32} {M1 : PM} (h : w_together M a1 = some (x, M1)) : PCW l 9 Y_L_together hh_L_together [vR 0, vI a1, vR 129] M x M1 := by
  refine pcw_of (ls := [vR 0, vI a1, vR 129, jk]) (by decide +kernel) cok_L_together (Nat.le_of_ble_eq_true rfl) rfl (fun X hX hW => ?_) rfl
  refine g_aload_n hX rfl ?_
  refine g_iconst hX (v := 0) rfl ?_
  refine g_aload_n hX rfl ?_
  refine g_iload_n hX rfl ?_
  unfold w_together at h
  cases hf : (F_X10_together_0 M a1) with
  | none => rw [hf] at h; cases h
  | some rr =>
    rw [hf] at h
    have hpc := pc_X10_together_0 hl hf
    obtain ⟨ra, M2⟩ := rr
    rcases ra with ra | E
    · rcases ra with _ | v
      · cases h
      · cases v with
        | int y =>
          cases h
          refine g_call (d2 := 8) hX ⟨mok_X10_together, rfl, ⟨10, 0, gt_0, rfl⟩, ins_X10_together, lk_L_58⟩ ⟨(Nat.le_of_ble_eq_true rfl), (Nat.le_of_ble_eq_true rfl), (Nat.le_of_ble_eq_true rfl), (Nat.le_of_ble_eq_true rfl)⟩ (Nat.le_of_ble_eq_true rfl) hpc rfl (st1 := [vI y, vI 0, vR 129]) (fun _ => rfl) ?_
          refine g_i2l hX ?_
          refine g_last hX gt_129 rfl ?_
          refine g_goto hX 11 rfl rfl ?_
          refine g_iconst hX (v := 0) rfl ?_
          refine g_widen (cs' := (1, 6)) (Nat.zero_le _) (Nat.zero_le _) ?_
          exact g_wret hX hW rfl
        | _ => cases h
    · change (if E = nIAE then some (1, M2) else (none : Option (Int32 × PM))) = some (x, M1) at h
      by_cases e0 : E = nIAE
      · rw [if_pos e0] at h
        cases h; subst e0
        refine g_catch (d2 := 8) (i9 := 12) hX ⟨mok_X10_together, rfl, ⟨10, 0, gt_0, rfl⟩, ins_X10_together, lk_L_58⟩ ⟨(Nat.le_of_ble_eq_true rfl), (Nat.le_of_ble_eq_true rfl), (Nat.le_of_ble_eq_true rfl), (Nat.le_of_ble_eq_true rfl)⟩ (Nat.le_of_ble_eq_true rfl) hpc rfl (fun he => WX.h0 hX hW lct_13 cast_IAE rfl (by decide) he) 8 rfl (Or.inl ⟨3, rfl, rfl, (Nat.le_of_ble_eq_true rfl), rfl⟩) ?_
        refine g_iconst hX (v := 1) rfl ?_
        exact g_wret hX hW rfl
      rw [if_neg e0] at h
      cases h
def k_L_most_15 : List CI := (15, .iconst 0, 1) :: (16, .ireturn, 1) :: []
def k_L_most_12 : List CI := (12, .astore_n 3, 1) :: (13, .iconst 1, 1) :: (14, .ireturn, 1) :: k_L_most_15
def k_L_most_0 : List CI := (0, .aload_n 2, 1) :: (1, .iconst 0, 1) :: (2, .aload_n 0, 1) :: (3, .iload_n 1, 1) :: (4, .invokevirtual 61, 3) :: (7, .i2l, 1) :: (8, .lastore, 1) :: (9, .goto 6, 3) :: k_L_most_12
def Y_L_most : MD := (yL_most, cL_most, 4, (some .int), k_L_most_0)
theorem cok_L_most : COK Y_L_most.2.1 Y_L_most.code = true := by decide +kernel
def hh_L_most : List (Nat × Nat × Nat × Nat) := [(0, 9, 12, 13)]
theorem cw_L_most : Cond.codeWith Y_L_most.1 Y_L_most.2.1 Y_L_most.2.2.1 Y_L_most.2.2.2.1 hh_L_most ∈ UW := mU_5 94 rfl rfl
theorem lk_L_61 : LNK RL 61 Y_X10_most := mU_5 95 rfl rfl
def w_most (M : PM) (a1 : Int32) : Option (Int32 × PM) := wI1 nIAE (F_X10_most_0 M a1)
set_option maxRecDepth 100000 in
theorem pw_most {l : Launch} (hl : l.stackTraces = false) {M : PM} {a1 : Int32} {x : Int32} {M1 : PM} (h : w_most M a1 = some (x, M1)) : PCW l 9 Y_L_most hh_L_most [vR 0, vI a1, vR 129] M x M1 := by
  refine pcw_of (ls := [vR 0, vI a1, vR 129, jk]) (by decide +kernel) cok_L_most (Nat.le_of_ble_eq_true rfl) rfl (fun X hX hW => ?_) rfl
  refine g_aload_n hX rfl ?_
  refine g_iconst hX (v := 0) rfl ?_
  refine g_aload_n hX rfl ?_
  refine g_iload_n hX rfl ?_
  unfold w_most at h
  cases hf : (F_X10_most_0 M a1) with
  | none => rw [hf] at h; cases h
  | some rr =>
    rw [hf] at h
    have hpc := pc_X10_most_0 hl hf
    obtain ⟨ra, M2⟩ := rr
    rcases ra with ra | E
    · rcases ra with _ | v
      · cases h
      · cases v with
        | int y =>
          cases h
          refine g_call (d2 := 8) hX ⟨mok_X10_most, rfl, ⟨10, 0, gt_0, rfl⟩, ins_X10_most, lk_L_61⟩ ⟨(Nat.le_of_ble_eq_true rfl), (Nat.le_of_ble_eq_true rfl), (Nat.le_of_ble_eq_true rfl), (Nat.le_of_ble_eq_true rfl)⟩ (Nat.le_of_ble_eq_true rfl) hpc rfl (st1 := [vI y, vI 0, vR 129]) (fun _ => rfl) ?_
          refine g_i2l hX ?_
          refine g_last hX gt_129 rfl ?_
          refine g_goto hX 11 rfl rfl ?_
          refine g_iconst hX (v := 0) rfl ?_
          refine g_widen (cs' := (1, 6)) (Nat.zero_le _) (Nat.zero_le _) ?_
          exact g_wret hX hW rfl
        | _ => cases h
    · change (if E = nIAE then some (1, M2) else (none : Option (Int32 × PM))) = some (x, M1) at h
      by_cases e0 : E = nIAE
      · rw [if_pos e0] at h
        cases h; subst e0
        refine g_catch (d2 := 8) (i9 := 12) hX ⟨mok_X10_most, rfl, ⟨10, 0, gt_0, rfl⟩, ins_X10_most, lk_L_61⟩ ⟨(Nat.le_of_ble_eq_true rfl), (Nat.le_of_ble_eq_true rfl), (Nat.le_of_ble_eq_true rfl), (Nat.le_of_ble_eq_true rfl)⟩ (Nat.le_of_ble_eq_true rfl) hpc rfl (fun he => WX.h0 hX hW lct_13 cast_IAE rfl (by decide) he) 8 rfl (Or.inl ⟨3, rfl, rfl, (Nat.le_of_ble_eq_true rfl), rfl⟩) ?_
        refine g_iconst hX (v := 1) rfl ?_
        exact g_wret hX hW rfl
      rw [if_neg e0] at h
      cases h
def k_L_count_15 : List CI := (15, .iconst 0, 1) :: (16, .ireturn, 1) :: []
def k_L_count_12 : List CI := (12, .astore_n 3, 1) :: (13, .iconst 1, 1) :: (14, .ireturn, 1) :: k_L_count_15
def k_L_count_0 : List CI := (0, .aload_n 2, 1) :: (1, .iconst 0, 1) :: (2, .aload_n 0, 1) :: (3, .iload_n 1, 1) :: (4, .invokevirtual 64, 3) :: (7, .i2l, 1) :: (8, .lastore, 1) :: (9, .goto 6, 3) :: k_L_count_12
def Y_L_count : MD := (yL_count, cL_count, 4, (some .int), k_L_count_0)
theorem cok_L_count : COK Y_L_count.2.1 Y_L_count.code = true := by decide +kernel
def hh_L_count : List (Nat × Nat × Nat × Nat) := [(0, 9, 12, 13)]
theorem cw_L_count : Cond.codeWith Y_L_count.1 Y_L_count.2.1 Y_L_count.2.2.1 Y_L_count.2.2.2.1 hh_L_count ∈ UW := mU_5 117 rfl rfl
theorem lk_L_64 : LNK RL 64 Y_X10_count := mU_5 118 rfl rfl
def w_count (M : PM) (a1 : Int32) : Option (Int32 × PM) := wI1 nIAE (F_X10_count_0 M a1)
set_option maxRecDepth 100000 in
theorem pw_count {l : Launch} (hl : l.stackTraces = false) {M : PM} {a1 : Int32} {x : Int32} {M1 : PM} (h : w_count M a1 = some (x, M1)) : PCW l 8 Y_L_count hh_L_count [vR 0, vI a1, vR 129] M x M1 := by
  refine pcw_of (ls := [vR 0, vI a1, vR 129, jk]) (by decide +kernel) cok_L_count (Nat.le_of_ble_eq_true rfl) rfl (fun X hX hW => ?_) rfl
  refine g_aload_n hX rfl ?_
  refine g_iconst hX (v := 0) rfl ?_
  refine g_aload_n hX rfl ?_
  refine g_iload_n hX rfl ?_
  unfold w_count at h
  cases hf : (F_X10_count_0 M a1) with
  | none => rw [hf] at h; cases h
  | some rr =>
    rw [hf] at h
    have hpc := pc_X10_count_0 hl hf
    obtain ⟨ra, M2⟩ := rr
    rcases ra with ra | E
    · rcases ra with _ | v
      · cases h
      · cases v with
        | int y =>
          cases h
          refine g_call (d2 := 7) hX ⟨mok_X10_count, rfl, ⟨10, 0, gt_0, rfl⟩, ins_X10_count, lk_L_64⟩ ⟨(Nat.le_of_ble_eq_true rfl), (Nat.le_of_ble_eq_true rfl), (Nat.le_of_ble_eq_true rfl), (Nat.le_of_ble_eq_true rfl)⟩ (Nat.le_of_ble_eq_true rfl) hpc rfl (st1 := [vI y, vI 0, vR 129]) (fun _ => rfl) ?_
          refine g_i2l hX ?_
          refine g_last hX gt_129 rfl ?_
          refine g_goto hX 11 rfl rfl ?_
          refine g_iconst hX (v := 0) rfl ?_
          refine g_widen (cs' := (1, 6)) (Nat.zero_le _) (Nat.zero_le _) ?_
          exact g_wret hX hW rfl
        | _ => cases h
    · change (if E = nIAE then some (1, M2) else (none : Option (Int32 × PM))) = some (x, M1) at h
      by_cases e0 : E = nIAE
      · rw [if_pos e0] at h
        cases h; subst e0
        refine g_catch (d2 := 7) (i9 := 12) hX ⟨mok_X10_count, rfl, ⟨10, 0, gt_0, rfl⟩, ins_X10_count, lk_L_64⟩ ⟨(Nat.le_of_ble_eq_true rfl), (Nat.le_of_ble_eq_true rfl), (Nat.le_of_ble_eq_true rfl), (Nat.le_of_ble_eq_true rfl)⟩ (Nat.le_of_ble_eq_true rfl) hpc rfl (fun he => WX.h0 hX hW lct_13 cast_IAE rfl (by decide) he) 8 rfl (Or.inl ⟨3, rfl, rfl, (Nat.le_of_ble_eq_true rfl), rfl⟩) ?_
        refine g_iconst hX (v := 1) rfl ?_
        exact g_wret hX hW rfl
      rw [if_neg e0] at h
      cases h
def k_L_row_21 : List CI := (21, .iconst 0, 1) :: (22, .ireturn, 1) :: []
def k_L_row_17 : List CI := (17, .astore 4, 2) :: (19, .iconst 2, 1) :: (20, .ireturn, 1) :: k_L_row_21
def k_L_row_13 : List CI := (13, .astore 4, 2) :: (15, .iconst 1, 1) :: (16, .ireturn, 1) :: k_L_row_17
def k_L_row_0 : List CI := (0, .aload_n 3, 1) :: (1, .iconst 0, 1) :: (2, .aload_n 0, 1) :: (3, .iload_n 1, 1) :: (4, .iload_n 2, 1) :: (5, .invokevirtual 67, 3) :: (8, .i2l, 1) :: (9, .lastore, 1) :: (10, .goto 11, 3) :: k_L_row_13
def Y_L_row : MD := (yL_row, cL_row, 5, (some .int), k_L_row_0)
theorem cok_L_row : COK Y_L_row.2.1 Y_L_row.code = true := by decide +kernel
def hh_L_row : List (Nat × Nat × Nat × Nat) := [(0, 10, 13, 37), (0, 10, 17, 13)]
theorem cw_L_row : Cond.codeWith Y_L_row.1 Y_L_row.2.1 Y_L_row.2.2.1 Y_L_row.2.2.2.1 hh_L_row ∈ UW := mU_5 127 rfl rfl
theorem lk_L_67 : LNK RL 67 Y_X10_row := mU_5 128 rfl rfl
def w_row (M : PM) (a1 : Int32) (a2 : Int32) : Option (Int32 × PM) := wI2 nIOB nIAE (F_X10_row_0 M a1 a2)
set_option maxRecDepth 100000 in
theorem pw_row {l : Launch} (hl : l.stackTraces = false) {M : PM} {a1 : Int32} {a2 : Int32} {x : Int32} {M1 : PM} (h : w_row M a1 a2 = some (x, M1)) : PCW l 8 Y_L_row hh_L_row [vR 0, vI a1, vI a2, vR 129] M x M1 := by
  refine pcw_of (ls := [vR 0, vI a1, vI a2, vR 129, jk]) (by decide +kernel) cok_L_row (Nat.le_of_ble_eq_true rfl) rfl (fun X hX hW => ?_) rfl
  refine g_aload_n hX rfl ?_
  refine g_iconst hX (v := 0) rfl ?_
  refine g_aload_n hX rfl ?_
  refine g_iload_n hX rfl ?_
  refine g_iload_n hX rfl ?_
  unfold w_row at h
  cases hf : (F_X10_row_0 M a1 a2) with
  | none => rw [hf] at h; cases h
  | some rr =>
    rw [hf] at h
    have hpc := pc_X10_row_0 hl hf
    obtain ⟨ra, M2⟩ := rr
    rcases ra with ra | E
    · rcases ra with _ | v
      · cases h
      · cases v with
        | int y =>
          cases h
          refine g_call (d2 := 7) hX ⟨mok_X10_row, rfl, ⟨10, 0, gt_0, rfl⟩, ins_X10_row, lk_L_67⟩ ⟨(Nat.le_of_ble_eq_true rfl), (Nat.le_of_ble_eq_true rfl), (Nat.le_of_ble_eq_true rfl), (Nat.le_of_ble_eq_true rfl)⟩ (Nat.le_of_ble_eq_true rfl) hpc rfl (st1 := [vI y, vI 0, vR 129]) (fun _ => rfl) ?_
          refine g_i2l hX ?_
          refine g_last hX gt_129 rfl ?_
          refine g_goto hX 15 rfl rfl ?_
          refine g_iconst hX (v := 0) rfl ?_
          refine g_widen (cs' := (1, 6)) (Nat.zero_le _) (Nat.zero_le _) ?_
          exact g_wret hX hW rfl
        | _ => cases h
    · change (if E = nIOB then some (1, M2) else if E = nIAE then some (2, M2) else (none : Option (Int32 × PM))) = some (x, M1) at h
      by_cases e0 : E = nIOB
      · rw [if_pos e0] at h
        cases h; subst e0
        refine g_catch (d2 := 7) (i9 := 13) hX ⟨mok_X10_row, rfl, ⟨10, 0, gt_0, rfl⟩, ins_X10_row, lk_L_67⟩ ⟨(Nat.le_of_ble_eq_true rfl), (Nat.le_of_ble_eq_true rfl), (Nat.le_of_ble_eq_true rfl), (Nat.le_of_ble_eq_true rfl)⟩ (Nat.le_of_ble_eq_true rfl) hpc rfl (fun he => WX.h0 hX hW lct_37 cast_IOB rfl (by decide) he) 9 rfl (Or.inr ⟨4, rfl, rfl, (Nat.le_of_ble_eq_true rfl), rfl⟩) ?_
        refine g_iconst hX (v := 1) rfl ?_
        exact g_wret hX hW rfl
      rw [if_neg e0] at h
      by_cases e1 : E = nIAE
      · rw [if_pos e1] at h
        cases h; subst e1
        refine g_catch (d2 := 7) (i9 := 17) hX ⟨mok_X10_row, rfl, ⟨10, 0, gt_0, rfl⟩, ins_X10_row, lk_L_67⟩ ⟨(Nat.le_of_ble_eq_true rfl), (Nat.le_of_ble_eq_true rfl), (Nat.le_of_ble_eq_true rfl), (Nat.le_of_ble_eq_true rfl)⟩ (Nat.le_of_ble_eq_true rfl) hpc rfl (fun he => WX.h1 hX hW lct_37 lct_13 cast_IAE rfl (by decide) (by decide) no_IAE_IOB he) 12 rfl (Or.inr ⟨4, rfl, rfl, (Nat.le_of_ble_eq_true rfl), rfl⟩) ?_
        refine g_iconst hX (v := 2) rfl ?_
        exact g_wret hX hW rfl
      rw [if_neg e1] at h
      cases h
def k_L_free_19 : List CI := (19, .iconst 0, 1) :: (20, .ireturn, 1) :: []
def k_L_free_15 : List CI := (15, .astore 5, 2) :: (17, .iconst 1, 1) :: (18, .ireturn, 1) :: k_L_free_19
def k_L_free_0 : List CI := (0, .aload 4, 2) :: (2, .iconst 0, 1) :: (3, .aload_n 0, 1) :: (4, .iload_n 1, 1) :: (5, .iload_n 2, 1) :: (6, .iload_n 3, 1) :: (7, .invokevirtual 70, 3) :: (10, .i2l, 1) :: (11, .lastore, 1) :: (12, .goto 7, 3) :: k_L_free_15
def Y_L_free : MD := (yL_free, cL_free, 6, (some .int), k_L_free_0)
theorem cok_L_free : COK Y_L_free.2.1 Y_L_free.code = true := by decide +kernel
def hh_L_free : List (Nat × Nat × Nat × Nat) := [(0, 12, 15, 13)]
theorem cw_L_free : Cond.codeWith Y_L_free.1 Y_L_free.2.1 Y_L_free.2.2.1 Y_L_free.2.2.2.1 hh_L_free ∈ UW := mU_5 160 rfl rfl
theorem lk_L_70 : LNK RL 70 Y_X10_free := mU_5 161 rfl rfl
def w_free (M : PM) (a1 : Int32) (a2 : Int32) (a3 : Int32) : Option (Int32 × PM) := wI1 nIAE (F_X10_free_0 M a1 a2 a3)
set_option maxRecDepth 100000 in
theorem pw_free {l : Launch} (hl : l.stackTraces = false) {M : PM} {a1 : Int32} {a2 : Int32} {a3 : Int32} {x : Int32} {M1 : PM} (h : w_free M a1 a2 a3 = some (x, M1)) : PCW l 9 Y_L_free hh_L_free [vR 0, vI a1, vI a2, vI a3, vR 129] M x M1 := by
  refine pcw_of (ls := [vR 0, vI a1, vI a2, vI a3, vR 129, jk]) (by decide +kernel) cok_L_free (Nat.le_of_ble_eq_true rfl) rfl (fun X hX hW => ?_) rfl
  refine g_aload hX rfl ?_
  refine g_iconst hX (v := 0) rfl ?_
  refine g_aload_n hX rfl ?_
  refine g_iload_n hX rfl ?_
  refine g_iload_n hX rfl ?_
  refine g_iload_n hX rfl ?_
  unfold w_free at h
  cases hf : (F_X10_free_0 M a1 a2 a3) with
  | none => rw [hf] at h; cases h
  | some rr =>
    rw [hf] at h
    have hpc := pc_X10_free_0 hl hf
    obtain ⟨ra, M2⟩ := rr
    rcases ra with ra | E
    · rcases ra with _ | v
      · cases h
      · cases v with
        | int y =>
          cases h
          refine g_call (d2 := 8) hX ⟨mok_X10_free, rfl, ⟨10, 0, gt_0, rfl⟩, ins_X10_free, lk_L_70⟩ ⟨(Nat.le_of_ble_eq_true rfl), (Nat.le_of_ble_eq_true rfl), (Nat.le_of_ble_eq_true rfl), (Nat.le_of_ble_eq_true rfl)⟩ (Nat.le_of_ble_eq_true rfl) hpc rfl (st1 := [vI y, vI 0, vR 129]) (fun _ => rfl) ?_
          refine g_i2l hX ?_
          refine g_last hX gt_129 rfl ?_
          refine g_goto hX 13 rfl rfl ?_
          refine g_iconst hX (v := 0) rfl ?_
          refine g_widen (cs' := (1, 6)) (Nat.zero_le _) (Nat.zero_le _) ?_
          exact g_wret hX hW rfl
        | _ => cases h
    · change (if E = nIAE then some (1, M2) else (none : Option (Int32 × PM))) = some (x, M1) at h
      by_cases e0 : E = nIAE
      · rw [if_pos e0] at h
        cases h; subst e0
        refine g_catch (d2 := 8) (i9 := 15) hX ⟨mok_X10_free, rfl, ⟨10, 0, gt_0, rfl⟩, ins_X10_free, lk_L_70⟩ ⟨(Nat.le_of_ble_eq_true rfl), (Nat.le_of_ble_eq_true rfl), (Nat.le_of_ble_eq_true rfl), (Nat.le_of_ble_eq_true rfl)⟩ (Nat.le_of_ble_eq_true rfl) hpc rfl (fun he => WX.h0 hX hW lct_13 cast_IAE rfl (by decide) he) 10 rfl (Or.inr ⟨5, rfl, rfl, (Nat.le_of_ble_eq_true rfl), rfl⟩) ?_
        refine g_iconst hX (v := 1) rfl ?_
        exact g_wret hX hW rfl
      rw [if_neg e0] at h
      cases h
def k_L_meeting_15 : List CI := (15, .iconst 0, 1) :: (16, .ireturn, 1) :: []
def k_L_meeting_12 : List CI := (12, .astore_n 3, 1) :: (13, .iconst 1, 1) :: (14, .ireturn, 1) :: k_L_meeting_15
def k_L_meeting_0 : List CI := (0, .aload_n 2, 1) :: (1, .iconst 0, 1) :: (2, .aload_n 0, 1) :: (3, .iload_n 1, 1) :: (4, .invokevirtual 73, 3) :: (7, .i2l, 1) :: (8, .lastore, 1) :: (9, .goto 6, 3) :: k_L_meeting_12
def Y_L_meeting : MD := (yL_meeting, cL_meeting, 4, (some .int), k_L_meeting_0)
theorem cok_L_meeting : COK Y_L_meeting.2.1 Y_L_meeting.code = true := by decide +kernel
def hh_L_meeting : List (Nat × Nat × Nat × Nat) := [(0, 9, 12, 13)]
theorem cw_L_meeting : Cond.codeWith Y_L_meeting.1 Y_L_meeting.2.1 Y_L_meeting.2.2.1 Y_L_meeting.2.2.2.1 hh_L_meeting ∈ UW := mU_5 176 rfl rfl
theorem lk_L_73 : LNK RL 73 Y_X10_meeting := mU_5 177 rfl rfl
def w_meeting (M : PM) (a1 : Int32) : Option (Int32 × PM) := wI1 nIAE (F_X10_meeting_0 M a1)
set_option maxRecDepth 100000 in
theorem pw_meeting {l : Launch} (hl : l.stackTraces = false) {M : PM} {a1 : Int32} {x : Int32} {M1 : PM} (h : w_meeting M a1 = some (x, M1)) : PCW l 9 Y_L_meeting hh_L_meeting [vR 0, vI a1, vR 129] M x M1 := by
  refine pcw_of (ls := [vR 0, vI a1, vR 129, jk]) (by decide +kernel) cok_L_meeting (Nat.le_of_ble_eq_true rfl) rfl (fun X hX hW => ?_) rfl
  refine g_aload_n hX rfl ?_
  refine g_iconst hX (v := 0) rfl ?_
  refine g_aload_n hX rfl ?_
  refine g_iload_n hX rfl ?_
  unfold w_meeting at h
  cases hf : (F_X10_meeting_0 M a1) with
  | none => rw [hf] at h; cases h
  | some rr =>
    rw [hf] at h
    have hpc := pc_X10_meeting_0 hl hf
    obtain ⟨ra, M2⟩ := rr
    rcases ra with ra | E
    · rcases ra with _ | v
      · cases h
      · cases v with
        | int y =>
          cases h
          refine g_call (d2 := 8) hX ⟨mok_X10_meeting, rfl, ⟨10, 0, gt_0, rfl⟩, ins_X10_meeting, lk_L_73⟩ ⟨(Nat.le_of_ble_eq_true rfl), (Nat.le_of_ble_eq_true rfl), (Nat.le_of_ble_eq_true rfl), (Nat.le_of_ble_eq_true rfl)⟩ (Nat.le_of_ble_eq_true rfl) hpc rfl (st1 := [vI y, vI 0, vR 129]) (fun _ => rfl) ?_
          refine g_i2l hX ?_
          refine g_last hX gt_129 rfl ?_
          refine g_goto hX 11 rfl rfl ?_
          refine g_iconst hX (v := 0) rfl ?_
          refine g_widen (cs' := (1, 6)) (Nat.zero_le _) (Nat.zero_le _) ?_
          exact g_wret hX hW rfl
        | _ => cases h
    · change (if E = nIAE then some (1, M2) else (none : Option (Int32 × PM))) = some (x, M1) at h
      by_cases e0 : E = nIAE
      · rw [if_pos e0] at h
        cases h; subst e0
        refine g_catch (d2 := 8) (i9 := 12) hX ⟨mok_X10_meeting, rfl, ⟨10, 0, gt_0, rfl⟩, ins_X10_meeting, lk_L_73⟩ ⟨(Nat.le_of_ble_eq_true rfl), (Nat.le_of_ble_eq_true rfl), (Nat.le_of_ble_eq_true rfl), (Nat.le_of_ble_eq_true rfl)⟩ (Nat.le_of_ble_eq_true rfl) hpc rfl (fun he => WX.h0 hX hW lct_13 cast_IAE rfl (by decide) he) 8 rfl (Or.inl ⟨3, rfl, rfl, (Nat.le_of_ble_eq_true rfl), rfl⟩) ?_
        refine g_iconst hX (v := 1) rfl ?_
        exact g_wret hX hW rfl
      rw [if_neg e0] at h
      cases h
def k_L_weeks_17 : List CI := (17, .iconst 0, 1) :: (18, .ireturn, 1) :: []
def k_L_weeks_13 : List CI := (13, .astore 5, 2) :: (15, .iconst 1, 1) :: (16, .ireturn, 1) :: k_L_weeks_17
def k_L_weeks_0 : List CI := (0, .aload 4, 2) :: (2, .iconst 0, 1) :: (3, .aload_n 0, 1) :: (4, .lload_n 1, 1) :: (5, .iload_n 3, 1) :: (6, .invokevirtual 76, 3) :: (9, .lastore, 1) :: (10, .goto 7, 3) :: k_L_weeks_13
def Y_L_weeks : MD := (yL_weeks, cL_weeks, 6, (some .int), k_L_weeks_0)
theorem cok_L_weeks : COK Y_L_weeks.2.1 Y_L_weeks.code = true := by decide +kernel
def hh_L_weeks : List (Nat × Nat × Nat × Nat) := [(0, 10, 13, 13)]
theorem cw_L_weeks : Cond.codeWith Y_L_weeks.1 Y_L_weeks.2.1 Y_L_weeks.2.2.1 Y_L_weeks.2.2.2.1 hh_L_weeks ∈ UW := mU_5 196 rfl rfl
theorem lk_L_76 : LNK RL 76 Y_X10_weeks := mU_5 197 rfl rfl
def w_weeks (M : PM) (a1 : Int64) (a2 : Int32) : Option (Int32 × PM) := wJ1 nIAE (F_X10_weeks_0 M a1 a2)
set_option maxRecDepth 100000 in
theorem pw_weeks {l : Launch} (hl : l.stackTraces = false) {M : PM} {a1 : Int64} {a2 : Int32} {x : Int32} {M1 : PM} (h : w_weeks M a1 a2 = some (x, M1)) : PCW l 16 Y_L_weeks hh_L_weeks [vR 0, vJ a1, vI a2, vR 129] M x M1 := by
  refine pcw_of (ls := [vR 0, vJ a1, jk, vI a2, vR 129, jk]) (by decide +kernel) cok_L_weeks (Nat.le_of_ble_eq_true rfl) rfl (fun X hX hW => ?_) rfl
  refine g_aload hX rfl ?_
  refine g_iconst hX (v := 0) rfl ?_
  refine g_aload_n hX rfl ?_
  refine g_lload_n hX rfl ?_
  refine g_iload_n hX rfl ?_
  unfold w_weeks at h
  cases hf : (F_X10_weeks_0 M a1 a2) with
  | none => rw [hf] at h; cases h
  | some rr =>
    rw [hf] at h
    have hpc := pc_X10_weeks_0 hl hf
    obtain ⟨ra, M2⟩ := rr
    rcases ra with ra | E
    · rcases ra with _ | v
      · cases h
      · cases v with
        | long y =>
          cases h
          refine g_call (d2 := 15) hX ⟨mok_X10_weeks, rfl, ⟨10, 0, gt_0, rfl⟩, ins_X10_weeks, lk_L_76⟩ ⟨(Nat.le_of_ble_eq_true rfl), (Nat.le_of_ble_eq_true rfl), (Nat.le_of_ble_eq_true rfl), (Nat.le_of_ble_eq_true rfl)⟩ (Nat.le_of_ble_eq_true rfl) hpc rfl (st1 := [vJ y, vI 0, vR 129]) (fun _ => rfl) ?_
          refine g_last hX gt_129 rfl ?_
          refine g_goto hX 11 rfl rfl ?_
          refine g_iconst hX (v := 0) rfl ?_
          refine g_widen (cs' := (1, 6)) (Nat.zero_le _) (Nat.zero_le _) ?_
          exact g_wret hX hW rfl
        | _ => cases h
    · change (if E = nIAE then some (1, M2) else (none : Option (Int32 × PM))) = some (x, M1) at h
      by_cases e0 : E = nIAE
      · rw [if_pos e0] at h
        cases h; subst e0
        refine g_catch (d2 := 15) (i9 := 13) hX ⟨mok_X10_weeks, rfl, ⟨10, 0, gt_0, rfl⟩, ins_X10_weeks, lk_L_76⟩ ⟨(Nat.le_of_ble_eq_true rfl), (Nat.le_of_ble_eq_true rfl), (Nat.le_of_ble_eq_true rfl), (Nat.le_of_ble_eq_true rfl)⟩ (Nat.le_of_ble_eq_true rfl) hpc rfl (fun he => WX.h0 hX hW lct_13 cast_IAE rfl (by decide) he) 8 rfl (Or.inr ⟨5, rfl, rfl, (Nat.le_of_ble_eq_true rfl), rfl⟩) ?_
        refine g_iconst hX (v := 1) rfl ?_
        exact g_wret hX hW rfl
      rw [if_neg e0] at h
      cases h
def k_L_seen_23 : List CI := (23, .iconst 0, 1) :: (24, .ireturn, 1) :: []
def k_L_seen_19 : List CI := (19, .astore 5, 2) :: (21, .iconst 2, 1) :: (22, .ireturn, 1) :: k_L_seen_23
def k_L_seen_15 : List CI := (15, .astore 5, 2) :: (17, .iconst 1, 1) :: (18, .ireturn, 1) :: k_L_seen_19
def k_L_seen_0 : List CI := (0, .aload 4, 2) :: (2, .iconst 0, 1) :: (3, .aload_n 0, 1) :: (4, .iload_n 1, 1) :: (5, .iload_n 2, 1) :: (6, .iload_n 3, 1) :: (7, .invokevirtual 80, 3) :: (10, .i2l, 1) :: (11, .lastore, 1) :: (12, .goto 11, 3) :: k_L_seen_15
def Y_L_seen : MD := (yL_seen, cL_seen, 6, (some .int), k_L_seen_0)
theorem cok_L_seen : COK Y_L_seen.2.1 Y_L_seen.code = true := by decide +kernel
def hh_L_seen : List (Nat × Nat × Nat × Nat) := [(0, 12, 15, 25), (0, 12, 19, 13)]
theorem cw_L_seen : Cond.codeWith Y_L_seen.1 Y_L_seen.2.1 Y_L_seen.2.2.1 Y_L_seen.2.2.2.1 hh_L_seen ∈ UW := mU_5 238 rfl rfl
theorem lk_L_80 : LNK RL 80 Y_X10_seen := mU_5 239 rfl rfl
def w_seen (M : PM) (a1 : Int32) (a2 : Int32) (a3 : Int32) : Option (Int32 × PM) := wI2 nNSE nIAE (F_X10_seen_0 M a1 a2 a3)
set_option maxRecDepth 100000 in
theorem pw_seen {l : Launch} (hl : l.stackTraces = false) {M : PM} {a1 : Int32} {a2 : Int32} {a3 : Int32} {x : Int32} {M1 : PM} (h : w_seen M a1 a2 a3 = some (x, M1)) : PCW l 9 Y_L_seen hh_L_seen [vR 0, vI a1, vI a2, vI a3, vR 129] M x M1 := by
  refine pcw_of (ls := [vR 0, vI a1, vI a2, vI a3, vR 129, jk]) (by decide +kernel) cok_L_seen (Nat.le_of_ble_eq_true rfl) rfl (fun X hX hW => ?_) rfl
  refine g_aload hX rfl ?_
  refine g_iconst hX (v := 0) rfl ?_
  refine g_aload_n hX rfl ?_
  refine g_iload_n hX rfl ?_
  refine g_iload_n hX rfl ?_
  refine g_iload_n hX rfl ?_
  unfold w_seen at h
  cases hf : (F_X10_seen_0 M a1 a2 a3) with
  | none => rw [hf] at h; cases h
  | some rr =>
    rw [hf] at h
    have hpc := pc_X10_seen_0 hl hf
    obtain ⟨ra, M2⟩ := rr
    rcases ra with ra | E
    · rcases ra with _ | v
      · cases h
      · cases v with
        | int y =>
          cases h
          refine g_call (d2 := 8) hX ⟨mok_X10_seen, rfl, ⟨10, 0, gt_0, rfl⟩, ins_X10_seen, lk_L_80⟩ ⟨(Nat.le_of_ble_eq_true rfl), (Nat.le_of_ble_eq_true rfl), (Nat.le_of_ble_eq_true rfl), (Nat.le_of_ble_eq_true rfl)⟩ (Nat.le_of_ble_eq_true rfl) hpc rfl (st1 := [vI y, vI 0, vR 129]) (fun _ => rfl) ?_
          refine g_i2l hX ?_
          refine g_last hX gt_129 rfl ?_
          refine g_goto hX 16 rfl rfl ?_
          refine g_iconst hX (v := 0) rfl ?_
          refine g_widen (cs' := (1, 6)) (Nat.zero_le _) (Nat.zero_le _) ?_
          exact g_wret hX hW rfl
        | _ => cases h
    · change (if E = nNSE then some (1, M2) else if E = nIAE then some (2, M2) else (none : Option (Int32 × PM))) = some (x, M1) at h
      by_cases e0 : E = nNSE
      · rw [if_pos e0] at h
        cases h; subst e0
        refine g_catch (d2 := 8) (i9 := 15) hX ⟨mok_X10_seen, rfl, ⟨10, 0, gt_0, rfl⟩, ins_X10_seen, lk_L_80⟩ ⟨(Nat.le_of_ble_eq_true rfl), (Nat.le_of_ble_eq_true rfl), (Nat.le_of_ble_eq_true rfl), (Nat.le_of_ble_eq_true rfl)⟩ (Nat.le_of_ble_eq_true rfl) hpc rfl (fun he => WX.h0 hX hW lct_25 cast_NSE rfl (by decide) he) 10 rfl (Or.inr ⟨5, rfl, rfl, (Nat.le_of_ble_eq_true rfl), rfl⟩) ?_
        refine g_iconst hX (v := 1) rfl ?_
        exact g_wret hX hW rfl
      rw [if_neg e0] at h
      by_cases e1 : E = nIAE
      · rw [if_pos e1] at h
        cases h; subst e1
        refine g_catch (d2 := 8) (i9 := 19) hX ⟨mok_X10_seen, rfl, ⟨10, 0, gt_0, rfl⟩, ins_X10_seen, lk_L_80⟩ ⟨(Nat.le_of_ble_eq_true rfl), (Nat.le_of_ble_eq_true rfl), (Nat.le_of_ble_eq_true rfl), (Nat.le_of_ble_eq_true rfl)⟩ (Nat.le_of_ble_eq_true rfl) hpc rfl (fun he => WX.h1 hX hW lct_25 lct_13 cast_IAE rfl (by decide) (by decide) no_IAE_NSE he) 13 rfl (Or.inr ⟨5, rfl, rfl, (Nat.le_of_ble_eq_true rfl), rfl⟩) ?_
        refine g_iconst hX (v := 2) rfl ?_
        exact g_wret hX hW rfl
      rw [if_neg e1] at h
      cases h
def k_L_fits_15 : List CI := (15, .iconst 0, 1) :: (16, .ireturn, 1) :: []
def k_L_fits_12 : List CI := (12, .astore_n 3, 1) :: (13, .iconst 1, 1) :: (14, .ireturn, 1) :: k_L_fits_15
def k_L_fits_0 : List CI := (0, .aload_n 2, 1) :: (1, .iconst 0, 1) :: (2, .aload_n 0, 1) :: (3, .iload_n 1, 1) :: (4, .invokevirtual 84, 3) :: (7, .i2l, 1) :: (8, .lastore, 1) :: (9, .goto 6, 3) :: k_L_fits_12
def Y_L_fits : MD := (yL_fits, cL_fits, 4, (some .int), k_L_fits_0)
theorem cok_L_fits : COK Y_L_fits.2.1 Y_L_fits.code = true := by decide +kernel
def hh_L_fits : List (Nat × Nat × Nat × Nat) := [(0, 9, 12, 13)]
theorem cw_L_fits : Cond.codeWith Y_L_fits.1 Y_L_fits.2.1 Y_L_fits.2.2.1 Y_L_fits.2.2.2.1 hh_L_fits ∈ UW := mU_6 9 rfl rfl
theorem lk_L_84 : LNK RL 84 Y_X10_fits := mU_6 10 rfl rfl
def w_fits (M : PM) (a1 : Int32) : Option (Int32 × PM) := wI1 nIAE (F_X10_fits_0 M a1)
set_option maxRecDepth 100000 in
theorem pw_fits {l : Launch} (hl : l.stackTraces = false) {M : PM} {a1 : Int32} {x : Int32} {M1 : PM} (h : w_fits M a1 = some (x, M1)) : PCW l 8 Y_L_fits hh_L_fits [vR 0, vI a1, vR 129] M x M1 := by
  refine pcw_of (ls := [vR 0, vI a1, vR 129, jk]) (by decide +kernel) cok_L_fits (Nat.le_of_ble_eq_true rfl) rfl (fun X hX hW => ?_) rfl
  refine g_aload_n hX rfl ?_
  refine g_iconst hX (v := 0) rfl ?_
  refine g_aload_n hX rfl ?_
  refine g_iload_n hX rfl ?_
  unfold w_fits at h
  cases hf : (F_X10_fits_0 M a1) with
  | none => rw [hf] at h; cases h
  | some rr =>
    rw [hf] at h
    have hpc := pc_X10_fits_0 hl hf
    obtain ⟨ra, M2⟩ := rr
    rcases ra with ra | E
    · rcases ra with _ | v
      · cases h
      · cases v with
        | int y =>
          cases h
          refine g_call (d2 := 7) hX ⟨mok_X10_fits, rfl, ⟨10, 0, gt_0, rfl⟩, ins_X10_fits, lk_L_84⟩ ⟨(Nat.le_of_ble_eq_true rfl), (Nat.le_of_ble_eq_true rfl), (Nat.le_of_ble_eq_true rfl), (Nat.le_of_ble_eq_true rfl)⟩ (Nat.le_of_ble_eq_true rfl) hpc rfl (st1 := [vI y, vI 0, vR 129]) (fun _ => rfl) ?_
          refine g_i2l hX ?_
          refine g_last hX gt_129 rfl ?_
          refine g_goto hX 11 rfl rfl ?_
          refine g_iconst hX (v := 0) rfl ?_
          refine g_widen (cs' := (1, 6)) (Nat.zero_le _) (Nat.zero_le _) ?_
          exact g_wret hX hW rfl
        | _ => cases h
    · change (if E = nIAE then some (1, M2) else (none : Option (Int32 × PM))) = some (x, M1) at h
      by_cases e0 : E = nIAE
      · rw [if_pos e0] at h
        cases h; subst e0
        refine g_catch (d2 := 7) (i9 := 12) hX ⟨mok_X10_fits, rfl, ⟨10, 0, gt_0, rfl⟩, ins_X10_fits, lk_L_84⟩ ⟨(Nat.le_of_ble_eq_true rfl), (Nat.le_of_ble_eq_true rfl), (Nat.le_of_ble_eq_true rfl), (Nat.le_of_ble_eq_true rfl)⟩ (Nat.le_of_ble_eq_true rfl) hpc rfl (fun he => WX.h0 hX hW lct_13 cast_IAE rfl (by decide) he) 8 rfl (Or.inl ⟨3, rfl, rfl, (Nat.le_of_ble_eq_true rfl), rfl⟩) ?_
        refine g_iconst hX (v := 1) rfl ?_
        exact g_wret hX hW rfl
      rw [if_neg e0] at h
      cases h
def k_L_look_15 : List CI := (15, .iconst 0, 1) :: (16, .ireturn, 1) :: []
def k_L_look_12 : List CI := (12, .astore_n 3, 1) :: (13, .iconst 1, 1) :: (14, .ireturn, 1) :: k_L_look_15
def k_L_look_0 : List CI := (0, .aload_n 2, 1) :: (1, .iconst 0, 1) :: (2, .aload_n 0, 1) :: (3, .iload_n 1, 1) :: (4, .invokevirtual 87, 3) :: (7, .i2l, 1) :: (8, .lastore, 1) :: (9, .goto 6, 3) :: k_L_look_12
def Y_L_look : MD := (yL_look, cL_look, 4, (some .int), k_L_look_0)
theorem cok_L_look : COK Y_L_look.2.1 Y_L_look.code = true := by decide +kernel
def hh_L_look : List (Nat × Nat × Nat × Nat) := [(0, 9, 12, 13)]
theorem cw_L_look : Cond.codeWith Y_L_look.1 Y_L_look.2.1 Y_L_look.2.2.1 Y_L_look.2.2.2.1 hh_L_look ∈ UW := mU_6 37 rfl rfl
theorem lk_L_87 : LNK RL 87 Y_X10_look := mU_6 38 rfl rfl
def w_look (M : PM) (a1 : Int32) : Option (Int32 × PM) := wI1 nIAE (F_X10_look_0 M a1)
set_option maxRecDepth 100000 in
theorem pw_look {l : Launch} (hl : l.stackTraces = false) {M : PM} {a1 : Int32} {x : Int32} {M1 : PM} (h : w_look M a1 = some (x, M1)) : PCW l 9 Y_L_look hh_L_look [vR 0, vI a1, vR 129] M x M1 := by
  refine pcw_of (ls := [vR 0, vI a1, vR 129, jk]) (by decide +kernel) cok_L_look (Nat.le_of_ble_eq_true rfl) rfl (fun X hX hW => ?_) rfl
  refine g_aload_n hX rfl ?_
  refine g_iconst hX (v := 0) rfl ?_
  refine g_aload_n hX rfl ?_
  refine g_iload_n hX rfl ?_
  unfold w_look at h
  cases hf : (F_X10_look_0 M a1) with
  | none => rw [hf] at h; cases h
  | some rr =>
    rw [hf] at h
    have hpc := pc_X10_look_0 hl hf
    obtain ⟨ra, M2⟩ := rr
    rcases ra with ra | E
    · rcases ra with _ | v
      · cases h
      · cases v with
        | int y =>
          cases h
          refine g_call (d2 := 8) hX ⟨mok_X10_look, rfl, ⟨10, 0, gt_0, rfl⟩, ins_X10_look, lk_L_87⟩ ⟨(Nat.le_of_ble_eq_true rfl), (Nat.le_of_ble_eq_true rfl), (Nat.le_of_ble_eq_true rfl), (Nat.le_of_ble_eq_true rfl)⟩ (Nat.le_of_ble_eq_true rfl) hpc rfl (st1 := [vI y, vI 0, vR 129]) (fun _ => rfl) ?_
          refine g_i2l hX ?_
          refine g_last hX gt_129 rfl ?_
          refine g_goto hX 11 rfl rfl ?_
          refine g_iconst hX (v := 0) rfl ?_
          refine g_widen (cs' := (1, 6)) (Nat.zero_le _) (Nat.zero_le _) ?_
          exact g_wret hX hW rfl
        | _ => cases h
    · change (if E = nIAE then some (1, M2) else (none : Option (Int32 × PM))) = some (x, M1) at h
      by_cases e0 : E = nIAE
      · rw [if_pos e0] at h
        cases h; subst e0
        refine g_catch (d2 := 8) (i9 := 12) hX ⟨mok_X10_look, rfl, ⟨10, 0, gt_0, rfl⟩, ins_X10_look, lk_L_87⟩ ⟨(Nat.le_of_ble_eq_true rfl), (Nat.le_of_ble_eq_true rfl), (Nat.le_of_ble_eq_true rfl), (Nat.le_of_ble_eq_true rfl)⟩ (Nat.le_of_ble_eq_true rfl) hpc rfl (fun he => WX.h0 hX hW lct_13 cast_IAE rfl (by decide) he) 8 rfl (Or.inl ⟨3, rfl, rfl, (Nat.le_of_ble_eq_true rfl), rfl⟩) ?_
        refine g_iconst hX (v := 1) rfl ?_
        exact g_wret hX hW rfl
      rw [if_neg e0] at h
      cases h
def k_L_did_25 : List CI := (25, .iconst 0, 1) :: (26, .ireturn, 1) :: []
def k_L_did_21 : List CI := (21, .astore 6, 2) :: (23, .iconst 2, 1) :: (24, .ireturn, 1) :: k_L_did_25
def k_L_did_17 : List CI := (17, .astore 6, 2) :: (19, .iconst 1, 1) :: (20, .ireturn, 1) :: k_L_did_21
def k_L_did_0 : List CI := (0, .aload 5, 2) :: (2, .iconst 0, 1) :: (3, .aload_n 0, 1) :: (4, .iload_n 1, 1) :: (5, .iload_n 2, 1) :: (6, .iload_n 3, 1) :: (7, .iload 4, 2) :: (9, .invokevirtual 90, 3) :: (12, .i2l, 1) :: (13, .lastore, 1) :: (14, .goto 11, 3) :: k_L_did_17
def Y_L_did : MD := (yL_did, cL_did, 7, (some .int), k_L_did_0)
theorem cok_L_did : COK Y_L_did.2.1 Y_L_did.code = true := by decide +kernel
def hh_L_did : List (Nat × Nat × Nat × Nat) := [(0, 14, 17, 37), (0, 14, 21, 25)]
theorem cw_L_did : Cond.codeWith Y_L_did.1 Y_L_did.2.1 Y_L_did.2.2.1 Y_L_did.2.2.2.1 hh_L_did ∈ UW := mU_6 54 rfl rfl
theorem lk_L_90 : LNK RL 90 Y_X10_did := mU_6 55 rfl rfl
def w_did (M : PM) (a1 : Int32) (a2 : Int32) (a3 : Int32) (a4 : Int32) : Option (Int32 × PM) := wI2 nIOB nNSE (F_X10_did_0 M a1 a2 a3 a4)
set_option maxRecDepth 100000 in
theorem pw_did {l : Launch} (hl : l.stackTraces = false) {M : PM} {a1 : Int32} {a2 : Int32} {a3 : Int32} {a4 : Int32} {x : Int32} {M1 : PM} (h : w_did M a1 a2 a3 a4 = some (x, M1)) : PCW l 9 Y_L_did hh_L_did [vR 0, vI a1, vI a2, vI a3, vI a4, vR 129] M x M1 := by
  refine pcw_of (ls := [vR 0, vI a1, vI a2, vI a3, vI a4, vR 129, jk]) (by decide +kernel) cok_L_did (Nat.le_of_ble_eq_true rfl) rfl (fun X hX hW => ?_) rfl
  refine g_aload hX rfl ?_
  refine g_iconst hX (v := 0) rfl ?_
  refine g_aload_n hX rfl ?_
  refine g_iload_n hX rfl ?_
  refine g_iload_n hX rfl ?_
  refine g_iload_n hX rfl ?_
  refine g_iload hX rfl ?_
  unfold w_did at h
  cases hf : (F_X10_did_0 M a1 a2 a3 a4) with
  | none => rw [hf] at h; cases h
  | some rr =>
    rw [hf] at h
    have hpc := pc_X10_did_0 hl hf
    obtain ⟨ra, M2⟩ := rr
    rcases ra with ra | E
    · rcases ra with _ | v
      · cases h
      · cases v with
        | int y =>
          cases h
          refine g_call (d2 := 8) hX ⟨mok_X10_did, rfl, ⟨10, 0, gt_0, rfl⟩, ins_X10_did, lk_L_90⟩ ⟨(Nat.le_of_ble_eq_true rfl), (Nat.le_of_ble_eq_true rfl), (Nat.le_of_ble_eq_true rfl), (Nat.le_of_ble_eq_true rfl)⟩ (Nat.le_of_ble_eq_true rfl) hpc rfl (st1 := [vI y, vI 0, vR 129]) (fun _ => rfl) ?_
          refine g_i2l hX ?_
          refine g_last hX gt_129 rfl ?_
          refine g_goto hX 17 rfl rfl ?_
          refine g_iconst hX (v := 0) rfl ?_
          refine g_widen (cs' := (1, 6)) (Nat.zero_le _) (Nat.zero_le _) ?_
          exact g_wret hX hW rfl
        | _ => cases h
    · change (if E = nIOB then some (1, M2) else if E = nNSE then some (2, M2) else (none : Option (Int32 × PM))) = some (x, M1) at h
      by_cases e0 : E = nIOB
      · rw [if_pos e0] at h
        cases h; subst e0
        refine g_catch (d2 := 8) (i9 := 17) hX ⟨mok_X10_did, rfl, ⟨10, 0, gt_0, rfl⟩, ins_X10_did, lk_L_90⟩ ⟨(Nat.le_of_ble_eq_true rfl), (Nat.le_of_ble_eq_true rfl), (Nat.le_of_ble_eq_true rfl), (Nat.le_of_ble_eq_true rfl)⟩ (Nat.le_of_ble_eq_true rfl) hpc rfl (fun he => WX.h0 hX hW lct_37 cast_IOB rfl (by decide) he) 11 rfl (Or.inr ⟨6, rfl, rfl, (Nat.le_of_ble_eq_true rfl), rfl⟩) ?_
        refine g_iconst hX (v := 1) rfl ?_
        exact g_wret hX hW rfl
      rw [if_neg e0] at h
      by_cases e1 : E = nNSE
      · rw [if_pos e1] at h
        cases h; subst e1
        refine g_catch (d2 := 8) (i9 := 21) hX ⟨mok_X10_did, rfl, ⟨10, 0, gt_0, rfl⟩, ins_X10_did, lk_L_90⟩ ⟨(Nat.le_of_ble_eq_true rfl), (Nat.le_of_ble_eq_true rfl), (Nat.le_of_ble_eq_true rfl), (Nat.le_of_ble_eq_true rfl)⟩ (Nat.le_of_ble_eq_true rfl) hpc rfl (fun he => WX.h1 hX hW lct_37 lct_25 cast_NSE rfl (by decide) (by decide) no_NSE_IOB he) 14 rfl (Or.inr ⟨6, rfl, rfl, (Nat.le_of_ble_eq_true rfl), rfl⟩) ?_
        refine g_iconst hX (v := 2) rfl ?_
        exact g_wret hX hW rfl
      rw [if_neg e1] at h
      cases h
def k_L_slipped_21 : List CI := (21, .iconst 0, 1) :: (22, .ireturn, 1) :: []
def k_L_slipped_17 : List CI := (17, .astore 4, 2) :: (19, .iconst 2, 1) :: (20, .ireturn, 1) :: k_L_slipped_21
def k_L_slipped_13 : List CI := (13, .astore 4, 2) :: (15, .iconst 1, 1) :: (16, .ireturn, 1) :: k_L_slipped_17
def k_L_slipped_0 : List CI := (0, .aload_n 3, 1) :: (1, .iconst 0, 1) :: (2, .aload_n 0, 1) :: (3, .iload_n 1, 1) :: (4, .iload_n 2, 1) :: (5, .invokevirtual 94, 3) :: (8, .i2l, 1) :: (9, .lastore, 1) :: (10, .goto 11, 3) :: k_L_slipped_13
def Y_L_slipped : MD := (yL_slipped, cL_slipped, 5, (some .int), k_L_slipped_0)
theorem cok_L_slipped : COK Y_L_slipped.2.1 Y_L_slipped.code = true := by decide +kernel
def hh_L_slipped : List (Nat × Nat × Nat × Nat) := [(0, 10, 13, 25), (0, 10, 17, 13)]
theorem cw_L_slipped : Cond.codeWith Y_L_slipped.1 Y_L_slipped.2.1 Y_L_slipped.2.2.1 Y_L_slipped.2.2.2.1 hh_L_slipped ∈ UW := mU_6 65 rfl rfl
theorem lk_L_94 : LNK RL 94 Y_X10_slipped := mU_6 66 rfl rfl
def w_slipped (M : PM) (a1 : Int32) (a2 : Int32) : Option (Int32 × PM) := wI2 nNSE nIAE (F_X10_slipped_0 M a1 a2)
set_option maxRecDepth 100000 in
theorem pw_slipped {l : Launch} (hl : l.stackTraces = false) {M : PM} {a1 : Int32} {a2 : Int32} {x : Int32} {M1 : PM} (h : w_slipped M a1 a2 = some (x, M1)) : PCW l 9 Y_L_slipped hh_L_slipped [vR 0, vI a1, vI a2, vR 129] M x M1 := by
  refine pcw_of (ls := [vR 0, vI a1, vI a2, vR 129, jk]) (by decide +kernel) cok_L_slipped (Nat.le_of_ble_eq_true rfl) rfl (fun X hX hW => ?_) rfl
  refine g_aload_n hX rfl ?_
  refine g_iconst hX (v := 0) rfl ?_
  refine g_aload_n hX rfl ?_
  refine g_iload_n hX rfl ?_
  refine g_iload_n hX rfl ?_
  unfold w_slipped at h
  cases hf : (F_X10_slipped_0 M a1 a2) with
  | none => rw [hf] at h; cases h
  | some rr =>
    rw [hf] at h
    have hpc := pc_X10_slipped_0 hl hf
    obtain ⟨ra, M2⟩ := rr
    rcases ra with ra | E
    · rcases ra with _ | v
      · cases h
      · cases v with
        | int y =>
          cases h
          refine g_call (d2 := 8) hX ⟨mok_X10_slipped, rfl, ⟨10, 0, gt_0, rfl⟩, ins_X10_slipped, lk_L_94⟩ ⟨(Nat.le_of_ble_eq_true rfl), (Nat.le_of_ble_eq_true rfl), (Nat.le_of_ble_eq_true rfl), (Nat.le_of_ble_eq_true rfl)⟩ (Nat.le_of_ble_eq_true rfl) hpc rfl (st1 := [vI y, vI 0, vR 129]) (fun _ => rfl) ?_
          refine g_i2l hX ?_
          refine g_last hX gt_129 rfl ?_
          refine g_goto hX 15 rfl rfl ?_
          refine g_iconst hX (v := 0) rfl ?_
          refine g_widen (cs' := (1, 6)) (Nat.zero_le _) (Nat.zero_le _) ?_
          exact g_wret hX hW rfl
        | _ => cases h
    · change (if E = nNSE then some (1, M2) else if E = nIAE then some (2, M2) else (none : Option (Int32 × PM))) = some (x, M1) at h
      by_cases e0 : E = nNSE
      · rw [if_pos e0] at h
        cases h; subst e0
        refine g_catch (d2 := 8) (i9 := 13) hX ⟨mok_X10_slipped, rfl, ⟨10, 0, gt_0, rfl⟩, ins_X10_slipped, lk_L_94⟩ ⟨(Nat.le_of_ble_eq_true rfl), (Nat.le_of_ble_eq_true rfl), (Nat.le_of_ble_eq_true rfl), (Nat.le_of_ble_eq_true rfl)⟩ (Nat.le_of_ble_eq_true rfl) hpc rfl (fun he => WX.h0 hX hW lct_25 cast_NSE rfl (by decide) he) 9 rfl (Or.inr ⟨4, rfl, rfl, (Nat.le_of_ble_eq_true rfl), rfl⟩) ?_
        refine g_iconst hX (v := 1) rfl ?_
        exact g_wret hX hW rfl
      rw [if_neg e0] at h
      by_cases e1 : E = nIAE
      · rw [if_pos e1] at h
        cases h; subst e1
        refine g_catch (d2 := 8) (i9 := 17) hX ⟨mok_X10_slipped, rfl, ⟨10, 0, gt_0, rfl⟩, ins_X10_slipped, lk_L_94⟩ ⟨(Nat.le_of_ble_eq_true rfl), (Nat.le_of_ble_eq_true rfl), (Nat.le_of_ble_eq_true rfl), (Nat.le_of_ble_eq_true rfl)⟩ (Nat.le_of_ble_eq_true rfl) hpc rfl (fun he => WX.h1 hX hW lct_25 lct_13 cast_IAE rfl (by decide) (by decide) no_IAE_NSE he) 12 rfl (Or.inr ⟨4, rfl, rfl, (Nat.le_of_ble_eq_true rfl), rfl⟩) ?_
        refine g_iconst hX (v := 2) rfl ?_
        exact g_wret hX hW rfl
      rw [if_neg e1] at h
      cases h
def k_L_right_15 : List CI := (15, .iconst 0, 1) :: (16, .ireturn, 1) :: []
def k_L_right_12 : List CI := (12, .astore_n 3, 1) :: (13, .iconst 1, 1) :: (14, .ireturn, 1) :: k_L_right_15
def k_L_right_0 : List CI := (0, .aload_n 2, 1) :: (1, .iconst 0, 1) :: (2, .aload_n 0, 1) :: (3, .iload_n 1, 1) :: (4, .invokevirtual 97, 3) :: (7, .i2l, 1) :: (8, .lastore, 1) :: (9, .goto 6, 3) :: k_L_right_12
def Y_L_right : MD := (yL_right, cL_right, 4, (some .int), k_L_right_0)
theorem cok_L_right : COK Y_L_right.2.1 Y_L_right.code = true := by decide +kernel
def hh_L_right : List (Nat × Nat × Nat × Nat) := [(0, 9, 12, 13)]
theorem cw_L_right : Cond.codeWith Y_L_right.1 Y_L_right.2.1 Y_L_right.2.2.1 Y_L_right.2.2.2.1 hh_L_right ∈ UW := mU_6 77 rfl rfl
theorem lk_L_97 : LNK RL 97 Y_X10_right := mU_6 78 rfl rfl
def w_right (M : PM) (a1 : Int32) : Option (Int32 × PM) := wI1 nIAE (F_X10_right_0 M a1)
set_option maxRecDepth 100000 in
theorem pw_right {l : Launch} (hl : l.stackTraces = false) {M : PM} {a1 : Int32} {x : Int32} {M1 : PM} (h : w_right M a1 = some (x, M1)) : PCW l 9 Y_L_right hh_L_right [vR 0, vI a1, vR 129] M x M1 := by
  refine pcw_of (ls := [vR 0, vI a1, vR 129, jk]) (by decide +kernel) cok_L_right (Nat.le_of_ble_eq_true rfl) rfl (fun X hX hW => ?_) rfl
  refine g_aload_n hX rfl ?_
  refine g_iconst hX (v := 0) rfl ?_
  refine g_aload_n hX rfl ?_
  refine g_iload_n hX rfl ?_
  unfold w_right at h
  cases hf : (F_X10_right_0 M a1) with
  | none => rw [hf] at h; cases h
  | some rr =>
    rw [hf] at h
    have hpc := pc_X10_right_0 hl hf
    obtain ⟨ra, M2⟩ := rr
    rcases ra with ra | E
    · rcases ra with _ | v
      · cases h
      · cases v with
        | int y =>
          cases h
          refine g_call (d2 := 8) hX ⟨mok_X10_right, rfl, ⟨10, 0, gt_0, rfl⟩, ins_X10_right, lk_L_97⟩ ⟨(Nat.le_of_ble_eq_true rfl), (Nat.le_of_ble_eq_true rfl), (Nat.le_of_ble_eq_true rfl), (Nat.le_of_ble_eq_true rfl)⟩ (Nat.le_of_ble_eq_true rfl) hpc rfl (st1 := [vI y, vI 0, vR 129]) (fun _ => rfl) ?_
          refine g_i2l hX ?_
          refine g_last hX gt_129 rfl ?_
          refine g_goto hX 11 rfl rfl ?_
          refine g_iconst hX (v := 0) rfl ?_
          refine g_widen (cs' := (1, 6)) (Nat.zero_le _) (Nat.zero_le _) ?_
          exact g_wret hX hW rfl
        | _ => cases h
    · change (if E = nIAE then some (1, M2) else (none : Option (Int32 × PM))) = some (x, M1) at h
      by_cases e0 : E = nIAE
      · rw [if_pos e0] at h
        cases h; subst e0
        refine g_catch (d2 := 8) (i9 := 12) hX ⟨mok_X10_right, rfl, ⟨10, 0, gt_0, rfl⟩, ins_X10_right, lk_L_97⟩ ⟨(Nat.le_of_ble_eq_true rfl), (Nat.le_of_ble_eq_true rfl), (Nat.le_of_ble_eq_true rfl), (Nat.le_of_ble_eq_true rfl)⟩ (Nat.le_of_ble_eq_true rfl) hpc rfl (fun he => WX.h0 hX hW lct_13 cast_IAE rfl (by decide) he) 8 rfl (Or.inl ⟨3, rfl, rfl, (Nat.le_of_ble_eq_true rfl), rfl⟩) ?_
        refine g_iconst hX (v := 1) rfl ?_
        exact g_wret hX hW rfl
      rw [if_neg e0] at h
      cases h
def k_L_work_17 : List CI := (17, .iconst 0, 1) :: (18, .ireturn, 1) :: []
def k_L_work_13 : List CI := (13, .astore 4, 2) :: (15, .iconst 1, 1) :: (16, .ireturn, 1) :: k_L_work_17
def k_L_work_0 : List CI := (0, .aload_n 3, 1) :: (1, .iconst 0, 1) :: (2, .aload_n 0, 1) :: (3, .iload_n 1, 1) :: (4, .iload_n 2, 1) :: (5, .invokevirtual 100, 3) :: (8, .i2l, 1) :: (9, .lastore, 1) :: (10, .goto 7, 3) :: k_L_work_13
def Y_L_work : MD := (yL_work, cL_work, 5, (some .int), k_L_work_0)
theorem cok_L_work : COK Y_L_work.2.1 Y_L_work.code = true := by decide +kernel
def hh_L_work : List (Nat × Nat × Nat × Nat) := [(0, 10, 13, 13)]
theorem cw_L_work : Cond.codeWith Y_L_work.1 Y_L_work.2.1 Y_L_work.2.2.1 Y_L_work.2.2.2.1 hh_L_work ∈ UW := mU_6 93 rfl rfl
theorem lk_L_100 : LNK RL 100 Y_X10_work := mU_6 94 rfl rfl
def w_work (M : PM) (a1 : Int32) (a2 : Int32) : Option (Int32 × PM) := wI1 nIAE (F_X10_work_0 M a1 a2)
set_option maxRecDepth 100000 in
theorem pw_work {l : Launch} (hl : l.stackTraces = false) {M : PM} {a1 : Int32} {a2 : Int32} {x : Int32} {M1 : PM} (h : w_work M a1 a2 = some (x, M1)) : PCW l 9 Y_L_work hh_L_work [vR 0, vI a1, vI a2, vR 129] M x M1 := by
  refine pcw_of (ls := [vR 0, vI a1, vI a2, vR 129, jk]) (by decide +kernel) cok_L_work (Nat.le_of_ble_eq_true rfl) rfl (fun X hX hW => ?_) rfl
  refine g_aload_n hX rfl ?_
  refine g_iconst hX (v := 0) rfl ?_
  refine g_aload_n hX rfl ?_
  refine g_iload_n hX rfl ?_
  refine g_iload_n hX rfl ?_
  unfold w_work at h
  cases hf : (F_X10_work_0 M a1 a2) with
  | none => rw [hf] at h; cases h
  | some rr =>
    rw [hf] at h
    have hpc := pc_X10_work_0 hl hf
    obtain ⟨ra, M2⟩ := rr
    rcases ra with ra | E
    · rcases ra with _ | v
      · cases h
      · cases v with
        | int y =>
          cases h
          refine g_call (d2 := 8) hX ⟨mok_X10_work, rfl, ⟨10, 0, gt_0, rfl⟩, ins_X10_work, lk_L_100⟩ ⟨(Nat.le_of_ble_eq_true rfl), (Nat.le_of_ble_eq_true rfl), (Nat.le_of_ble_eq_true rfl), (Nat.le_of_ble_eq_true rfl)⟩ (Nat.le_of_ble_eq_true rfl) hpc rfl (st1 := [vI y, vI 0, vR 129]) (fun _ => rfl) ?_
          refine g_i2l hX ?_
          refine g_last hX gt_129 rfl ?_
          refine g_goto hX 12 rfl rfl ?_
          refine g_iconst hX (v := 0) rfl ?_
          refine g_widen (cs' := (1, 6)) (Nat.zero_le _) (Nat.zero_le _) ?_
          exact g_wret hX hW rfl
        | _ => cases h
    · change (if E = nIAE then some (1, M2) else (none : Option (Int32 × PM))) = some (x, M1) at h
      by_cases e0 : E = nIAE
      · rw [if_pos e0] at h
        cases h; subst e0
        refine g_catch (d2 := 8) (i9 := 13) hX ⟨mok_X10_work, rfl, ⟨10, 0, gt_0, rfl⟩, ins_X10_work, lk_L_100⟩ ⟨(Nat.le_of_ble_eq_true rfl), (Nat.le_of_ble_eq_true rfl), (Nat.le_of_ble_eq_true rfl), (Nat.le_of_ble_eq_true rfl)⟩ (Nat.le_of_ble_eq_true rfl) hpc rfl (fun he => WX.h0 hX hW lct_13 cast_IAE rfl (by decide) he) 9 rfl (Or.inr ⟨4, rfl, rfl, (Nat.le_of_ble_eq_true rfl), rfl⟩) ?_
        refine g_iconst hX (v := 1) rfl ?_
        exact g_wret hX hW rfl
      rw [if_neg e0] at h
      cases h
def k_L_done_21 : List CI := (21, .iconst 0, 1) :: (22, .ireturn, 1) :: []
def k_L_done_17 : List CI := (17, .astore 4, 2) :: (19, .iconst 2, 1) :: (20, .ireturn, 1) :: k_L_done_21
def k_L_done_13 : List CI := (13, .astore 4, 2) :: (15, .iconst 1, 1) :: (16, .ireturn, 1) :: k_L_done_17
def k_L_done_0 : List CI := (0, .aload_n 3, 1) :: (1, .iconst 0, 1) :: (2, .aload_n 0, 1) :: (3, .iload_n 1, 1) :: (4, .iload_n 2, 1) :: (5, .invokevirtual 103, 3) :: (8, .i2l, 1) :: (9, .lastore, 1) :: (10, .goto 11, 3) :: k_L_done_13
def Y_L_done : MD := (yL_done, cL_done, 5, (some .int), k_L_done_0)
theorem cok_L_done : COK Y_L_done.2.1 Y_L_done.code = true := by decide +kernel
def hh_L_done : List (Nat × Nat × Nat × Nat) := [(0, 10, 13, 37), (0, 10, 17, 25)]
theorem cw_L_done : Cond.codeWith Y_L_done.1 Y_L_done.2.1 Y_L_done.2.2.1 Y_L_done.2.2.2.1 hh_L_done ∈ UW := mU_6 104 rfl rfl
theorem lk_L_103 : LNK RL 103 Y_X10_done := mU_6 105 rfl rfl
def w_done (M : PM) (a1 : Int32) (a2 : Int32) : Option (Int32 × PM) := wI2 nIOB nNSE (F_X10_done_0 M a1 a2)
set_option maxRecDepth 100000 in
theorem pw_done {l : Launch} (hl : l.stackTraces = false) {M : PM} {a1 : Int32} {a2 : Int32} {x : Int32} {M1 : PM} (h : w_done M a1 a2 = some (x, M1)) : PCW l 9 Y_L_done hh_L_done [vR 0, vI a1, vI a2, vR 129] M x M1 := by
  refine pcw_of (ls := [vR 0, vI a1, vI a2, vR 129, jk]) (by decide +kernel) cok_L_done (Nat.le_of_ble_eq_true rfl) rfl (fun X hX hW => ?_) rfl
  refine g_aload_n hX rfl ?_
  refine g_iconst hX (v := 0) rfl ?_
  refine g_aload_n hX rfl ?_
  refine g_iload_n hX rfl ?_
  refine g_iload_n hX rfl ?_
  unfold w_done at h
  cases hf : (F_X10_done_0 M a1 a2) with
  | none => rw [hf] at h; cases h
  | some rr =>
    rw [hf] at h
    have hpc := pc_X10_done_0 hl hf
    obtain ⟨ra, M2⟩ := rr
    rcases ra with ra | E
    · rcases ra with _ | v
      · cases h
      · cases v with
        | int y =>
          cases h
          refine g_call (d2 := 8) hX ⟨mok_X10_done, rfl, ⟨10, 0, gt_0, rfl⟩, ins_X10_done, lk_L_103⟩ ⟨(Nat.le_of_ble_eq_true rfl), (Nat.le_of_ble_eq_true rfl), (Nat.le_of_ble_eq_true rfl), (Nat.le_of_ble_eq_true rfl)⟩ (Nat.le_of_ble_eq_true rfl) hpc rfl (st1 := [vI y, vI 0, vR 129]) (fun _ => rfl) ?_
          refine g_i2l hX ?_
          refine g_last hX gt_129 rfl ?_
          refine g_goto hX 15 rfl rfl ?_
          refine g_iconst hX (v := 0) rfl ?_
          refine g_widen (cs' := (1, 6)) (Nat.zero_le _) (Nat.zero_le _) ?_
          exact g_wret hX hW rfl
        | _ => cases h
    · change (if E = nIOB then some (1, M2) else if E = nNSE then some (2, M2) else (none : Option (Int32 × PM))) = some (x, M1) at h
      by_cases e0 : E = nIOB
      · rw [if_pos e0] at h
        cases h; subst e0
        refine g_catch (d2 := 8) (i9 := 13) hX ⟨mok_X10_done, rfl, ⟨10, 0, gt_0, rfl⟩, ins_X10_done, lk_L_103⟩ ⟨(Nat.le_of_ble_eq_true rfl), (Nat.le_of_ble_eq_true rfl), (Nat.le_of_ble_eq_true rfl), (Nat.le_of_ble_eq_true rfl)⟩ (Nat.le_of_ble_eq_true rfl) hpc rfl (fun he => WX.h0 hX hW lct_37 cast_IOB rfl (by decide) he) 9 rfl (Or.inr ⟨4, rfl, rfl, (Nat.le_of_ble_eq_true rfl), rfl⟩) ?_
        refine g_iconst hX (v := 1) rfl ?_
        exact g_wret hX hW rfl
      rw [if_neg e0] at h
      by_cases e1 : E = nNSE
      · rw [if_pos e1] at h
        cases h; subst e1
        refine g_catch (d2 := 8) (i9 := 17) hX ⟨mok_X10_done, rfl, ⟨10, 0, gt_0, rfl⟩, ins_X10_done, lk_L_103⟩ ⟨(Nat.le_of_ble_eq_true rfl), (Nat.le_of_ble_eq_true rfl), (Nat.le_of_ble_eq_true rfl), (Nat.le_of_ble_eq_true rfl)⟩ (Nat.le_of_ble_eq_true rfl) hpc rfl (fun he => WX.h1 hX hW lct_37 lct_25 cast_NSE rfl (by decide) (by decide) no_NSE_IOB he) 12 rfl (Or.inr ⟨4, rfl, rfl, (Nat.le_of_ble_eq_true rfl), rfl⟩) ?_
        refine g_iconst hX (v := 2) rfl ?_
        exact g_wret hX hW rfl
      rw [if_neg e1] at h
      cases h
def k_L_begun_21 : List CI := (21, .iconst 0, 1) :: (22, .ireturn, 1) :: []
def k_L_begun_17 : List CI := (17, .astore 4, 2) :: (19, .iconst 2, 1) :: (20, .ireturn, 1) :: k_L_begun_21
def k_L_begun_13 : List CI := (13, .astore 4, 2) :: (15, .iconst 1, 1) :: (16, .ireturn, 1) :: k_L_begun_17
def k_L_begun_0 : List CI := (0, .aload_n 3, 1) :: (1, .iconst 0, 1) :: (2, .aload_n 0, 1) :: (3, .iload_n 1, 1) :: (4, .iload_n 2, 1) :: (5, .invokevirtual 106, 3) :: (8, .i2l, 1) :: (9, .lastore, 1) :: (10, .goto 11, 3) :: k_L_begun_13
def Y_L_begun : MD := (yL_begun, cL_begun, 5, (some .int), k_L_begun_0)
theorem cok_L_begun : COK Y_L_begun.2.1 Y_L_begun.code = true := by decide +kernel
def hh_L_begun : List (Nat × Nat × Nat × Nat) := [(0, 10, 13, 37), (0, 10, 17, 25)]
theorem cw_L_begun : Cond.codeWith Y_L_begun.1 Y_L_begun.2.1 Y_L_begun.2.2.1 Y_L_begun.2.2.2.1 hh_L_begun ∈ UW := mU_6 133 rfl rfl
theorem lk_L_106 : LNK RL 106 Y_X10_begun := mU_6 134 rfl rfl
def w_begun (M : PM) (a1 : Int32) (a2 : Int32) : Option (Int32 × PM) := wI2 nIOB nNSE (F_X10_begun_0 M a1 a2)
set_option maxRecDepth 100000 in
theorem pw_begun {l : Launch} (hl : l.stackTraces = false) {M : PM} {a1 : Int32} {a2 : Int32} {x : Int32} {M1 : PM} (h : w_begun M a1 a2 = some (x, M1)) : PCW l 9 Y_L_begun hh_L_begun [vR 0, vI a1, vI a2, vR 129] M x M1 := by
  refine pcw_of (ls := [vR 0, vI a1, vI a2, vR 129, jk]) (by decide +kernel) cok_L_begun (Nat.le_of_ble_eq_true rfl) rfl (fun X hX hW => ?_) rfl
  refine g_aload_n hX rfl ?_
  refine g_iconst hX (v := 0) rfl ?_
  refine g_aload_n hX rfl ?_
  refine g_iload_n hX rfl ?_
  refine g_iload_n hX rfl ?_
  unfold w_begun at h
  cases hf : (F_X10_begun_0 M a1 a2) with
  | none => rw [hf] at h; cases h
  | some rr =>
    rw [hf] at h
    have hpc := pc_X10_begun_0 hl hf
    obtain ⟨ra, M2⟩ := rr
    rcases ra with ra | E
    · rcases ra with _ | v
      · cases h
      · cases v with
        | int y =>
          cases h
          refine g_call (d2 := 8) hX ⟨mok_X10_begun, rfl, ⟨10, 0, gt_0, rfl⟩, ins_X10_begun, lk_L_106⟩ ⟨(Nat.le_of_ble_eq_true rfl), (Nat.le_of_ble_eq_true rfl), (Nat.le_of_ble_eq_true rfl), (Nat.le_of_ble_eq_true rfl)⟩ (Nat.le_of_ble_eq_true rfl) hpc rfl (st1 := [vI y, vI 0, vR 129]) (fun _ => rfl) ?_
          refine g_i2l hX ?_
          refine g_last hX gt_129 rfl ?_
          refine g_goto hX 15 rfl rfl ?_
          refine g_iconst hX (v := 0) rfl ?_
          refine g_widen (cs' := (1, 6)) (Nat.zero_le _) (Nat.zero_le _) ?_
          exact g_wret hX hW rfl
        | _ => cases h
    · change (if E = nIOB then some (1, M2) else if E = nNSE then some (2, M2) else (none : Option (Int32 × PM))) = some (x, M1) at h
      by_cases e0 : E = nIOB
      · rw [if_pos e0] at h
        cases h; subst e0
        refine g_catch (d2 := 8) (i9 := 13) hX ⟨mok_X10_begun, rfl, ⟨10, 0, gt_0, rfl⟩, ins_X10_begun, lk_L_106⟩ ⟨(Nat.le_of_ble_eq_true rfl), (Nat.le_of_ble_eq_true rfl), (Nat.le_of_ble_eq_true rfl), (Nat.le_of_ble_eq_true rfl)⟩ (Nat.le_of_ble_eq_true rfl) hpc rfl (fun he => WX.h0 hX hW lct_37 cast_IOB rfl (by decide) he) 9 rfl (Or.inr ⟨4, rfl, rfl, (Nat.le_of_ble_eq_true rfl), rfl⟩) ?_
        refine g_iconst hX (v := 1) rfl ?_
        exact g_wret hX hW rfl
      rw [if_neg e0] at h
      by_cases e1 : E = nNSE
      · rw [if_pos e1] at h
        cases h; subst e1
        refine g_catch (d2 := 8) (i9 := 17) hX ⟨mok_X10_begun, rfl, ⟨10, 0, gt_0, rfl⟩, ins_X10_begun, lk_L_106⟩ ⟨(Nat.le_of_ble_eq_true rfl), (Nat.le_of_ble_eq_true rfl), (Nat.le_of_ble_eq_true rfl), (Nat.le_of_ble_eq_true rfl)⟩ (Nat.le_of_ble_eq_true rfl) hpc rfl (fun he => WX.h1 hX hW lct_37 lct_25 cast_NSE rfl (by decide) (by decide) no_NSE_IOB he) 12 rfl (Or.inr ⟨4, rfl, rfl, (Nat.le_of_ble_eq_true rfl), rfl⟩) ?_
        refine g_iconst hX (v := 2) rfl ?_
        exact g_wret hX hW rfl
      rw [if_neg e1] at h
      cases h
def k_L_soonest_21 : List CI := (21, .iconst 0, 1) :: (22, .ireturn, 1) :: []
def k_L_soonest_17 : List CI := (17, .astore 4, 2) :: (19, .iconst 2, 1) :: (20, .ireturn, 1) :: k_L_soonest_21
def k_L_soonest_13 : List CI := (13, .astore 4, 2) :: (15, .iconst 1, 1) :: (16, .ireturn, 1) :: k_L_soonest_17
def k_L_soonest_0 : List CI := (0, .aload_n 3, 1) :: (1, .iconst 0, 1) :: (2, .aload_n 0, 1) :: (3, .iload_n 1, 1) :: (4, .iload_n 2, 1) :: (5, .invokevirtual 109, 3) :: (8, .i2l, 1) :: (9, .lastore, 1) :: (10, .goto 11, 3) :: k_L_soonest_13
def Y_L_soonest : MD := (yL_soonest, cL_soonest, 5, (some .int), k_L_soonest_0)
theorem cok_L_soonest : COK Y_L_soonest.2.1 Y_L_soonest.code = true := by decide +kernel
def hh_L_soonest : List (Nat × Nat × Nat × Nat) := [(0, 10, 13, 37), (0, 10, 17, 13)]
theorem cw_L_soonest : Cond.codeWith Y_L_soonest.1 Y_L_soonest.2.1 Y_L_soonest.2.2.1 Y_L_soonest.2.2.2.1 hh_L_soonest ∈ UW := mU_6 155 rfl rfl
theorem lk_L_109 : LNK RL 109 Y_X10_soonest := mU_6 156 rfl rfl
def w_soonest (M : PM) (a1 : Int32) (a2 : Int32) : Option (Int32 × PM) := wI2 nIOB nIAE (F_X10_soonest_0 M a1 a2)
set_option maxRecDepth 100000 in
theorem pw_soonest {l : Launch} (hl : l.stackTraces = false) {M : PM} {a1 : Int32} {a2 : Int32} {x : Int32} {M1 : PM} (h : w_soonest M a1 a2 = some (x, M1)) : PCW l 9 Y_L_soonest hh_L_soonest [vR 0, vI a1, vI a2, vR 129] M x M1 := by
  refine pcw_of (ls := [vR 0, vI a1, vI a2, vR 129, jk]) (by decide +kernel) cok_L_soonest (Nat.le_of_ble_eq_true rfl) rfl (fun X hX hW => ?_) rfl
  refine g_aload_n hX rfl ?_
  refine g_iconst hX (v := 0) rfl ?_
  refine g_aload_n hX rfl ?_
  refine g_iload_n hX rfl ?_
  refine g_iload_n hX rfl ?_
  unfold w_soonest at h
  cases hf : (F_X10_soonest_0 M a1 a2) with
  | none => rw [hf] at h; cases h
  | some rr =>
    rw [hf] at h
    have hpc := pc_X10_soonest_0 hl hf
    obtain ⟨ra, M2⟩ := rr
    rcases ra with ra | E
    · rcases ra with _ | v
      · cases h
      · cases v with
        | int y =>
          cases h
          refine g_call (d2 := 8) hX ⟨mok_X10_soonest, rfl, ⟨10, 0, gt_0, rfl⟩, ins_X10_soonest, lk_L_109⟩ ⟨(Nat.le_of_ble_eq_true rfl), (Nat.le_of_ble_eq_true rfl), (Nat.le_of_ble_eq_true rfl), (Nat.le_of_ble_eq_true rfl)⟩ (Nat.le_of_ble_eq_true rfl) hpc rfl (st1 := [vI y, vI 0, vR 129]) (fun _ => rfl) ?_
          refine g_i2l hX ?_
          refine g_last hX gt_129 rfl ?_
          refine g_goto hX 15 rfl rfl ?_
          refine g_iconst hX (v := 0) rfl ?_
          refine g_widen (cs' := (1, 6)) (Nat.zero_le _) (Nat.zero_le _) ?_
          exact g_wret hX hW rfl
        | _ => cases h
    · change (if E = nIOB then some (1, M2) else if E = nIAE then some (2, M2) else (none : Option (Int32 × PM))) = some (x, M1) at h
      by_cases e0 : E = nIOB
      · rw [if_pos e0] at h
        cases h; subst e0
        refine g_catch (d2 := 8) (i9 := 13) hX ⟨mok_X10_soonest, rfl, ⟨10, 0, gt_0, rfl⟩, ins_X10_soonest, lk_L_109⟩ ⟨(Nat.le_of_ble_eq_true rfl), (Nat.le_of_ble_eq_true rfl), (Nat.le_of_ble_eq_true rfl), (Nat.le_of_ble_eq_true rfl)⟩ (Nat.le_of_ble_eq_true rfl) hpc rfl (fun he => WX.h0 hX hW lct_37 cast_IOB rfl (by decide) he) 9 rfl (Or.inr ⟨4, rfl, rfl, (Nat.le_of_ble_eq_true rfl), rfl⟩) ?_
        refine g_iconst hX (v := 1) rfl ?_
        exact g_wret hX hW rfl
      rw [if_neg e0] at h
      by_cases e1 : E = nIAE
      · rw [if_pos e1] at h
        cases h; subst e1
        refine g_catch (d2 := 8) (i9 := 17) hX ⟨mok_X10_soonest, rfl, ⟨10, 0, gt_0, rfl⟩, ins_X10_soonest, lk_L_109⟩ ⟨(Nat.le_of_ble_eq_true rfl), (Nat.le_of_ble_eq_true rfl), (Nat.le_of_ble_eq_true rfl), (Nat.le_of_ble_eq_true rfl)⟩ (Nat.le_of_ble_eq_true rfl) hpc rfl (fun he => WX.h1 hX hW lct_37 lct_13 cast_IAE rfl (by decide) (by decide) no_IAE_IOB he) 12 rfl (Or.inr ⟨4, rfl, rfl, (Nat.le_of_ble_eq_true rfl), rfl⟩) ?_
        refine g_iconst hX (v := 2) rfl ?_
        exact g_wret hX hW rfl
      rw [if_neg e1] at h
      cases h
def k_L_thief_21 : List CI := (21, .iconst 0, 1) :: (22, .ireturn, 1) :: []
def k_L_thief_17 : List CI := (17, .astore 4, 2) :: (19, .iconst 2, 1) :: (20, .ireturn, 1) :: k_L_thief_21
def k_L_thief_13 : List CI := (13, .astore 4, 2) :: (15, .iconst 1, 1) :: (16, .ireturn, 1) :: k_L_thief_17
def k_L_thief_0 : List CI := (0, .aload_n 3, 1) :: (1, .iconst 0, 1) :: (2, .aload_n 0, 1) :: (3, .iload_n 1, 1) :: (4, .iload_n 2, 1) :: (5, .invokevirtual 112, 3) :: (8, .i2l, 1) :: (9, .lastore, 1) :: (10, .goto 11, 3) :: k_L_thief_13
def Y_L_thief : MD := (yL_thief, cL_thief, 5, (some .int), k_L_thief_0)
theorem cok_L_thief : COK Y_L_thief.2.1 Y_L_thief.code = true := by decide +kernel
def hh_L_thief : List (Nat × Nat × Nat × Nat) := [(0, 10, 13, 25), (0, 10, 17, 13)]
theorem cw_L_thief : Cond.codeWith Y_L_thief.1 Y_L_thief.2.1 Y_L_thief.2.2.1 Y_L_thief.2.2.2.1 hh_L_thief ∈ UW := mU_6 202 rfl rfl
theorem lk_L_112 : LNK RL 112 Y_X10_thief := mU_6 203 rfl rfl
def w_thief (M : PM) (a1 : Int32) (a2 : Int32) : Option (Int32 × PM) := wI2 nNSE nIAE (F_X10_thief_0 M a1 a2)
set_option maxRecDepth 100000 in
theorem pw_thief {l : Launch} (hl : l.stackTraces = false) {M : PM} {a1 : Int32} {a2 : Int32} {x : Int32} {M1 : PM} (h : w_thief M a1 a2 = some (x, M1)) : PCW l 10 Y_L_thief hh_L_thief [vR 0, vI a1, vI a2, vR 129] M x M1 := by
  refine pcw_of (ls := [vR 0, vI a1, vI a2, vR 129, jk]) (by decide +kernel) cok_L_thief (Nat.le_of_ble_eq_true rfl) rfl (fun X hX hW => ?_) rfl
  refine g_aload_n hX rfl ?_
  refine g_iconst hX (v := 0) rfl ?_
  refine g_aload_n hX rfl ?_
  refine g_iload_n hX rfl ?_
  refine g_iload_n hX rfl ?_
  unfold w_thief at h
  cases hf : (F_X10_thief_0 M a1 a2) with
  | none => rw [hf] at h; cases h
  | some rr =>
    rw [hf] at h
    have hpc := pc_X10_thief_0 hl hf
    obtain ⟨ra, M2⟩ := rr
    rcases ra with ra | E
    · rcases ra with _ | v
      · cases h
      · cases v with
        | int y =>
          cases h
          refine g_call (d2 := 9) hX ⟨mok_X10_thief, rfl, ⟨10, 0, gt_0, rfl⟩, ins_X10_thief, lk_L_112⟩ ⟨(Nat.le_of_ble_eq_true rfl), (Nat.le_of_ble_eq_true rfl), (Nat.le_of_ble_eq_true rfl), (Nat.le_of_ble_eq_true rfl)⟩ (Nat.le_of_ble_eq_true rfl) hpc rfl (st1 := [vI y, vI 0, vR 129]) (fun _ => rfl) ?_
          refine g_i2l hX ?_
          refine g_last hX gt_129 rfl ?_
          refine g_goto hX 15 rfl rfl ?_
          refine g_iconst hX (v := 0) rfl ?_
          refine g_widen (cs' := (1, 6)) (Nat.zero_le _) (Nat.zero_le _) ?_
          exact g_wret hX hW rfl
        | _ => cases h
    · change (if E = nNSE then some (1, M2) else if E = nIAE then some (2, M2) else (none : Option (Int32 × PM))) = some (x, M1) at h
      by_cases e0 : E = nNSE
      · rw [if_pos e0] at h
        cases h; subst e0
        refine g_catch (d2 := 9) (i9 := 13) hX ⟨mok_X10_thief, rfl, ⟨10, 0, gt_0, rfl⟩, ins_X10_thief, lk_L_112⟩ ⟨(Nat.le_of_ble_eq_true rfl), (Nat.le_of_ble_eq_true rfl), (Nat.le_of_ble_eq_true rfl), (Nat.le_of_ble_eq_true rfl)⟩ (Nat.le_of_ble_eq_true rfl) hpc rfl (fun he => WX.h0 hX hW lct_25 cast_NSE rfl (by decide) he) 9 rfl (Or.inr ⟨4, rfl, rfl, (Nat.le_of_ble_eq_true rfl), rfl⟩) ?_
        refine g_iconst hX (v := 1) rfl ?_
        exact g_wret hX hW rfl
      rw [if_neg e0] at h
      by_cases e1 : E = nIAE
      · rw [if_pos e1] at h
        cases h; subst e1
        refine g_catch (d2 := 9) (i9 := 17) hX ⟨mok_X10_thief, rfl, ⟨10, 0, gt_0, rfl⟩, ins_X10_thief, lk_L_112⟩ ⟨(Nat.le_of_ble_eq_true rfl), (Nat.le_of_ble_eq_true rfl), (Nat.le_of_ble_eq_true rfl), (Nat.le_of_ble_eq_true rfl)⟩ (Nat.le_of_ble_eq_true rfl) hpc rfl (fun he => WX.h1 hX hW lct_25 lct_13 cast_IAE rfl (by decide) (by decide) no_IAE_NSE he) 12 rfl (Or.inr ⟨4, rfl, rfl, (Nat.le_of_ble_eq_true rfl), rfl⟩) ?_
        refine g_iconst hX (v := 2) rfl ?_
        exact g_wret hX hW rfl
      rw [if_neg e1] at h
      cases h
def k_L_guard_21 : List CI := (21, .iconst 0, 1) :: (22, .ireturn, 1) :: []
def k_L_guard_17 : List CI := (17, .astore 4, 2) :: (19, .iconst 2, 1) :: (20, .ireturn, 1) :: k_L_guard_21
def k_L_guard_13 : List CI := (13, .astore 4, 2) :: (15, .iconst 1, 1) :: (16, .ireturn, 1) :: k_L_guard_17
def k_L_guard_0 : List CI := (0, .aload_n 3, 1) :: (1, .iconst 0, 1) :: (2, .aload_n 0, 1) :: (3, .iload_n 1, 1) :: (4, .iload_n 2, 1) :: (5, .invokevirtual 115, 3) :: (8, .i2l, 1) :: (9, .lastore, 1) :: (10, .goto 11, 3) :: k_L_guard_13
def Y_L_guard : MD := (yL_guard, cL_guard, 5, (some .int), k_L_guard_0)
theorem cok_L_guard : COK Y_L_guard.2.1 Y_L_guard.code = true := by decide +kernel
def hh_L_guard : List (Nat × Nat × Nat × Nat) := [(0, 10, 13, 25), (0, 10, 17, 13)]
theorem cw_L_guard : Cond.codeWith Y_L_guard.1 Y_L_guard.2.1 Y_L_guard.2.2.1 Y_L_guard.2.2.2.1 hh_L_guard ∈ UW := mU_6 219 rfl rfl
theorem lk_L_115 : LNK RL 115 Y_X10_guard := mU_6 220 rfl rfl
def w_guard (M : PM) (a1 : Int32) (a2 : Int32) : Option (Int32 × PM) := wI2 nNSE nIAE (F_X10_guard_0 M a1 a2)
set_option maxRecDepth 100000 in
theorem pw_guard {l : Launch} (hl : l.stackTraces = false) {M : PM} {a1 : Int32} {a2 : Int32} {x : Int32} {M1 : PM} (h : w_guard M a1 a2 = some (x, M1)) : PCW l 10 Y_L_guard hh_L_guard [vR 0, vI a1, vI a2, vR 129] M x M1 := by
  refine pcw_of (ls := [vR 0, vI a1, vI a2, vR 129, jk]) (by decide +kernel) cok_L_guard (Nat.le_of_ble_eq_true rfl) rfl (fun X hX hW => ?_) rfl
  refine g_aload_n hX rfl ?_
  refine g_iconst hX (v := 0) rfl ?_
  refine g_aload_n hX rfl ?_
  refine g_iload_n hX rfl ?_
  refine g_iload_n hX rfl ?_
  unfold w_guard at h
  cases hf : (F_X10_guard_0 M a1 a2) with
  | none => rw [hf] at h; cases h
  | some rr =>
    rw [hf] at h
    have hpc := pc_X10_guard_0 hl hf
    obtain ⟨ra, M2⟩ := rr
    rcases ra with ra | E
    · rcases ra with _ | v
      · cases h
      · cases v with
        | int y =>
          cases h
          refine g_call (d2 := 9) hX ⟨mok_X10_guard, rfl, ⟨10, 0, gt_0, rfl⟩, ins_X10_guard, lk_L_115⟩ ⟨(Nat.le_of_ble_eq_true rfl), (Nat.le_of_ble_eq_true rfl), (Nat.le_of_ble_eq_true rfl), (Nat.le_of_ble_eq_true rfl)⟩ (Nat.le_of_ble_eq_true rfl) hpc rfl (st1 := [vI y, vI 0, vR 129]) (fun _ => rfl) ?_
          refine g_i2l hX ?_
          refine g_last hX gt_129 rfl ?_
          refine g_goto hX 15 rfl rfl ?_
          refine g_iconst hX (v := 0) rfl ?_
          refine g_widen (cs' := (1, 6)) (Nat.zero_le _) (Nat.zero_le _) ?_
          exact g_wret hX hW rfl
        | _ => cases h
    · change (if E = nNSE then some (1, M2) else if E = nIAE then some (2, M2) else (none : Option (Int32 × PM))) = some (x, M1) at h
      by_cases e0 : E = nNSE
      · rw [if_pos e0] at h
        cases h; subst e0
        refine g_catch (d2 := 9) (i9 := 13) hX ⟨mok_X10_guard, rfl, ⟨10, 0, gt_0, rfl⟩, ins_X10_guard, lk_L_115⟩ ⟨(Nat.le_of_ble_eq_true rfl), (Nat.le_of_ble_eq_true rfl), (Nat.le_of_ble_eq_true rfl), (Nat.le_of_ble_eq_true rfl)⟩ (Nat.le_of_ble_eq_true rfl) hpc rfl (fun he => WX.h0 hX hW lct_25 cast_NSE rfl (by decide) he) 9 rfl (Or.inr ⟨4, rfl, rfl, (Nat.le_of_ble_eq_true rfl), rfl⟩) ?_
        refine g_iconst hX (v := 1) rfl ?_
        exact g_wret hX hW rfl
      rw [if_neg e0] at h
      by_cases e1 : E = nIAE
      · rw [if_pos e1] at h
        cases h; subst e1
        refine g_catch (d2 := 9) (i9 := 17) hX ⟨mok_X10_guard, rfl, ⟨10, 0, gt_0, rfl⟩, ins_X10_guard, lk_L_115⟩ ⟨(Nat.le_of_ble_eq_true rfl), (Nat.le_of_ble_eq_true rfl), (Nat.le_of_ble_eq_true rfl), (Nat.le_of_ble_eq_true rfl)⟩ (Nat.le_of_ble_eq_true rfl) hpc rfl (fun he => WX.h1 hX hW lct_25 lct_13 cast_IAE rfl (by decide) (by decide) no_IAE_NSE he) 12 rfl (Or.inr ⟨4, rfl, rfl, (Nat.le_of_ble_eq_true rfl), rfl⟩) ?_
        refine g_iconst hX (v := 2) rfl ?_
        exact g_wret hX hW rfl
      rw [if_neg e1] at h
      cases h
def k_L_trade_17 : List CI := (17, .iconst 0, 1) :: (18, .ireturn, 1) :: []
def k_L_trade_13 : List CI := (13, .astore 4, 2) :: (15, .iconst 1, 1) :: (16, .ireturn, 1) :: k_L_trade_17
def k_L_trade_0 : List CI := (0, .aload_n 3, 1) :: (1, .iconst 0, 1) :: (2, .aload_n 0, 1) :: (3, .iload_n 1, 1) :: (4, .iload_n 2, 1) :: (5, .invokevirtual 118, 3) :: (8, .i2l, 1) :: (9, .lastore, 1) :: (10, .goto 7, 3) :: k_L_trade_13
def Y_L_trade : MD := (yL_trade, cL_trade, 5, (some .int), k_L_trade_0)
theorem cok_L_trade : COK Y_L_trade.2.1 Y_L_trade.code = true := by decide +kernel
def hh_L_trade : List (Nat × Nat × Nat × Nat) := [(0, 10, 13, 13)]
theorem cw_L_trade : Cond.codeWith Y_L_trade.1 Y_L_trade.2.1 Y_L_trade.2.2.1 Y_L_trade.2.2.2.1 hh_L_trade ∈ UW := mU_6 231 rfl rfl
theorem lk_L_118 : LNK RL 118 Y_X10_trade := mU_6 232 rfl rfl
def w_trade (M : PM) (a1 : Int32) (a2 : Int32) : Option (Int32 × PM) := wI1 nIAE (F_X10_trade_0 M a1 a2)
set_option maxRecDepth 100000 in
theorem pw_trade {l : Launch} (hl : l.stackTraces = false) {M : PM} {a1 : Int32} {a2 : Int32} {x : Int32} {M1 : PM} (h : w_trade M a1 a2 = some (x, M1)) : PCW l 9 Y_L_trade hh_L_trade [vR 0, vI a1, vI a2, vR 129] M x M1 := by
  refine pcw_of (ls := [vR 0, vI a1, vI a2, vR 129, jk]) (by decide +kernel) cok_L_trade (Nat.le_of_ble_eq_true rfl) rfl (fun X hX hW => ?_) rfl
  refine g_aload_n hX rfl ?_
  refine g_iconst hX (v := 0) rfl ?_
  refine g_aload_n hX rfl ?_
  refine g_iload_n hX rfl ?_
  refine g_iload_n hX rfl ?_
  unfold w_trade at h
  cases hf : (F_X10_trade_0 M a1 a2) with
  | none => rw [hf] at h; cases h
  | some rr =>
    rw [hf] at h
    have hpc := pc_X10_trade_0 hl hf
    obtain ⟨ra, M2⟩ := rr
    rcases ra with ra | E
    · rcases ra with _ | v
      · cases h
      · cases v with
        | int y =>
          cases h
          refine g_call (d2 := 8) hX ⟨mok_X10_trade, rfl, ⟨10, 0, gt_0, rfl⟩, ins_X10_trade, lk_L_118⟩ ⟨(Nat.le_of_ble_eq_true rfl), (Nat.le_of_ble_eq_true rfl), (Nat.le_of_ble_eq_true rfl), (Nat.le_of_ble_eq_true rfl)⟩ (Nat.le_of_ble_eq_true rfl) hpc rfl (st1 := [vI y, vI 0, vR 129]) (fun _ => rfl) ?_
          refine g_i2l hX ?_
          refine g_last hX gt_129 rfl ?_
          refine g_goto hX 12 rfl rfl ?_
          refine g_iconst hX (v := 0) rfl ?_
          refine g_widen (cs' := (1, 6)) (Nat.zero_le _) (Nat.zero_le _) ?_
          exact g_wret hX hW rfl
        | _ => cases h
    · change (if E = nIAE then some (1, M2) else (none : Option (Int32 × PM))) = some (x, M1) at h
      by_cases e0 : E = nIAE
      · rw [if_pos e0] at h
        cases h; subst e0
        refine g_catch (d2 := 8) (i9 := 13) hX ⟨mok_X10_trade, rfl, ⟨10, 0, gt_0, rfl⟩, ins_X10_trade, lk_L_118⟩ ⟨(Nat.le_of_ble_eq_true rfl), (Nat.le_of_ble_eq_true rfl), (Nat.le_of_ble_eq_true rfl), (Nat.le_of_ble_eq_true rfl)⟩ (Nat.le_of_ble_eq_true rfl) hpc rfl (fun he => WX.h0 hX hW lct_13 cast_IAE rfl (by decide) he) 9 rfl (Or.inr ⟨4, rfl, rfl, (Nat.le_of_ble_eq_true rfl), rfl⟩) ?_
        refine g_iconst hX (v := 1) rfl ?_
        exact g_wret hX hW rfl
      rw [if_neg e0] at h
      cases h
def k_L_market_23 : List CI := (23, .iconst 0, 1) :: (24, .ireturn, 1) :: []
def k_L_market_19 : List CI := (19, .astore 5, 2) :: (21, .iconst 2, 1) :: (22, .ireturn, 1) :: k_L_market_23
def k_L_market_15 : List CI := (15, .astore 5, 2) :: (17, .iconst 1, 1) :: (18, .ireturn, 1) :: k_L_market_19
def k_L_market_0 : List CI := (0, .aload 4, 2) :: (2, .iconst 0, 1) :: (3, .aload_n 0, 1) :: (4, .iload_n 1, 1) :: (5, .iload_n 2, 1) :: (6, .iload_n 3, 1) :: (7, .invokevirtual 121, 3) :: (10, .i2l, 1) :: (11, .lastore, 1) :: (12, .goto 11, 3) :: k_L_market_15
def Y_L_market : MD := (yL_market, cL_market, 6, (some .int), k_L_market_0)
theorem cok_L_market : COK Y_L_market.2.1 Y_L_market.code = true := by decide +kernel
def hh_L_market : List (Nat × Nat × Nat × Nat) := [(0, 12, 15, 37), (0, 12, 19, 13)]
theorem cw_L_market : Cond.codeWith Y_L_market.1 Y_L_market.2.1 Y_L_market.2.2.1 Y_L_market.2.2.2.1 hh_L_market ∈ UW := mU_7 3 rfl rfl
theorem lk_L_121 : LNK RL 121 Y_X10_market := mU_7 4 rfl rfl
def w_market (M : PM) (a1 : Int32) (a2 : Int32) (a3 : Int32) : Option (Int32 × PM) := wI2 nIOB nIAE (F_X10_market_0 M a1 a2 a3)
set_option maxRecDepth 100000 in
theorem pw_market {l : Launch} (hl : l.stackTraces = false) {M : PM} {a1 : Int32} {a2 : Int32} {a3 : Int32} {x : Int32} {M1 : PM} (h : w_market M a1 a2 a3 = some (x, M1)) : PCW l 9 Y_L_market hh_L_market [vR 0, vI a1, vI a2, vI a3, vR 129] M x M1 := by
  refine pcw_of (ls := [vR 0, vI a1, vI a2, vI a3, vR 129, jk]) (by decide +kernel) cok_L_market (Nat.le_of_ble_eq_true rfl) rfl (fun X hX hW => ?_) rfl
  refine g_aload hX rfl ?_
  refine g_iconst hX (v := 0) rfl ?_
  refine g_aload_n hX rfl ?_
  refine g_iload_n hX rfl ?_
  refine g_iload_n hX rfl ?_
  refine g_iload_n hX rfl ?_
  unfold w_market at h
  cases hf : (F_X10_market_0 M a1 a2 a3) with
  | none => rw [hf] at h; cases h
  | some rr =>
    rw [hf] at h
    have hpc := pc_X10_market_0 hl hf
    obtain ⟨ra, M2⟩ := rr
    rcases ra with ra | E
    · rcases ra with _ | v
      · cases h
      · cases v with
        | int y =>
          cases h
          refine g_call (d2 := 8) hX ⟨mok_X10_market, rfl, ⟨10, 0, gt_0, rfl⟩, ins_X10_market, lk_L_121⟩ ⟨(Nat.le_of_ble_eq_true rfl), (Nat.le_of_ble_eq_true rfl), (Nat.le_of_ble_eq_true rfl), (Nat.le_of_ble_eq_true rfl)⟩ (Nat.le_of_ble_eq_true rfl) hpc rfl (st1 := [vI y, vI 0, vR 129]) (fun _ => rfl) ?_
          refine g_i2l hX ?_
          refine g_last hX gt_129 rfl ?_
          refine g_goto hX 16 rfl rfl ?_
          refine g_iconst hX (v := 0) rfl ?_
          refine g_widen (cs' := (1, 6)) (Nat.zero_le _) (Nat.zero_le _) ?_
          exact g_wret hX hW rfl
        | _ => cases h
    · change (if E = nIOB then some (1, M2) else if E = nIAE then some (2, M2) else (none : Option (Int32 × PM))) = some (x, M1) at h
      by_cases e0 : E = nIOB
      · rw [if_pos e0] at h
        cases h; subst e0
        refine g_catch (d2 := 8) (i9 := 15) hX ⟨mok_X10_market, rfl, ⟨10, 0, gt_0, rfl⟩, ins_X10_market, lk_L_121⟩ ⟨(Nat.le_of_ble_eq_true rfl), (Nat.le_of_ble_eq_true rfl), (Nat.le_of_ble_eq_true rfl), (Nat.le_of_ble_eq_true rfl)⟩ (Nat.le_of_ble_eq_true rfl) hpc rfl (fun he => WX.h0 hX hW lct_37 cast_IOB rfl (by decide) he) 10 rfl (Or.inr ⟨5, rfl, rfl, (Nat.le_of_ble_eq_true rfl), rfl⟩) ?_
        refine g_iconst hX (v := 1) rfl ?_
        exact g_wret hX hW rfl
      rw [if_neg e0] at h
      by_cases e1 : E = nIAE
      · rw [if_pos e1] at h
        cases h; subst e1
        refine g_catch (d2 := 8) (i9 := 19) hX ⟨mok_X10_market, rfl, ⟨10, 0, gt_0, rfl⟩, ins_X10_market, lk_L_121⟩ ⟨(Nat.le_of_ble_eq_true rfl), (Nat.le_of_ble_eq_true rfl), (Nat.le_of_ble_eq_true rfl), (Nat.le_of_ble_eq_true rfl)⟩ (Nat.le_of_ble_eq_true rfl) hpc rfl (fun he => WX.h1 hX hW lct_37 lct_13 cast_IAE rfl (by decide) (by decide) no_IAE_IOB he) 13 rfl (Or.inr ⟨5, rfl, rfl, (Nat.le_of_ble_eq_true rfl), rfl⟩) ?_
        refine g_iconst hX (v := 2) rfl ?_
        exact g_wret hX hW rfl
      rw [if_neg e1] at h
      cases h
