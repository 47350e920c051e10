/-- a call of a wrapper -/
def CALLW (ix : Nat) (Y2 : MD) (hh : List (Nat × Nat × Nat × Nat)) (n : Nat) (av : List PV) : Prop := Cond.codeWith Y2.1 Y2.2.1 Y2.2.2.1 Y2.2.2.2.1 hh ∈ UW ∧ Cond.initialized Y2.1.cls ∈ UW ∧ Cond.methodLink RL ix Y2.1 ∈ UW ∧ Cond.static Y2.1 ∈ UW ∧ (Y2.1.cls ≠ "java/lang/invoke/MethodHandle" ∧ Y2.1.cls ≠ "java/lang/invoke/VarHandle" ∧ (parseMethodDescriptor Y2.1.desc).map (fun d => d.parameters.length) = some n) ∧ av.length = n ∧ Y2.2.2.1 ≤ 40
theorem g_callW {l : Launch} {R : Room} {Y : MD} {X : GX} {cs : Nat × Nat} {pc ix n d2 : Nat} {is : List CI} {ls st st0 : List PV} {M M1 : PM} {Y2 : MD} {hh : List (Nat × Nat × Nat × Nat)} {av : List PV} {x : Int32} (hX : GOK Y X) (hY : Y.1.cls = RL) (hc : CALLW ix Y2 hh n av) (hR : d2 + 1 ≤ R.frames ∧ 120 + 64 * d2 ≤ R.locals ∧ cs.1 + 1 ≤ R.cells ∧ cs.2 + 6 ≤ R.slots) (hst : catS st ≤ 8) (hM : PCW l d2 Y2 hh av M x M1) (hs0 : st0 = av.reverse ++ st) (kk : PG l R Y X (cs.1 + 1, cs.2 + 6) is ls (vI x :: st) M1) : PG l R Y X cs ((pc, .invokestatic ix, 3) :: is) ls st0 M := by
  subst hs0
  obtain ⟨p, e, s, m, args, below, meth, c, Q, sz, D, cy, ad⟩ := X
  obtain ⟨x1, x2, x3, x4, x5, x6, x7⟩ := hX
  obtain ⟨c1, c2, c3, c4, c5, c6, c7⟩ := hc
  refine ⟨by simp, fun H locs rl hs hH hS hl => ?_⟩
  have hco := suf_cok hs x6
  have hr1 : d2 + 1 ≤ R.frames := hR.1
  have hr2 : 120 + 64 * d2 ≤ R.locals := hR.2.1
  have hW8 : 2 * (F0 m pc rl ((av.reverse ++ st).map (tr ad))).monitorRoom + ((st.map (tr ad)).map fun v => v.category).sum ≤ 8 := by
    rw [catS_tr]
    show 2 * 0 + catS st ≤ 8
    omega
  have hpre : ∀ U : State, U.heap = H → s.WarmedH U.vm → va_Pc (av.map (tr ad)) (fun U => Kx sz D cy ad U ∧ WH sz D cy ad M U.heap) (av.map (tr ad)).toArray U := fun U hU hWm =>
    ⟨rfl, Kx.on x7 hWm (by rw [hU]; exact hS.1) (fun a h1 h2 => by rw [hU]; exact hS.2.1 a h1 h2), by rw [hU]; exact hH⟩
  have fix : CallFix p m c Y.2.1 Y.2.2.1 s args UW Y.1.cls := ⟨x1, x2, x3, x4, x5⟩
  have hstack : (av.reverse ++ st).map (tr ad) = (av.map (tr ad)).reverse ++ st.map (tr ad) := by
    simp [List.map_append, List.map_reverse]
  have hgood : GoodIn UW (va_wsS Y.1.cls ix Y2.1 (wsW Y2 hh)) := fun w hw => by
    rw [hY] at hw
    rcases List.mem_append.mp hw with hw | hw
    · simp only [List.mem_cons, List.not_mem_nil, or_false] at hw
      rcases hw with rfl | rfl | rfl
      all_goals first | exact ⟨c3, good_of_word (UW_good c3)⟩ | exact ⟨c4, good_of_word (UW_good c4)⟩ | exact ⟨c2, good_of_word (UW_good c2)⟩
    · rcases List.mem_cons.mp hw with rfl | hw
      · exact ⟨c1, good_of_word (UW_good c1)⟩
      · exact ⟨hw, good_of_word (UW_good hw)⟩
  refine W.backG (vx_runSW (mc := 1) (ms := 6) (hh := hh) (As := av.map (tr ad)) (rest := st.map (tr ad)) fix (hM sz D cy ad) (vx_cwSW n x5 hgood rfl rfl rfl c5 ⟨by show d2 + 1 ≤ R.frames; omega, by show 8 + (Y2.2.2.1 + 11) + (60 + 64 * d2) ≤ R.locals; omega⟩) ⟨Kx.blind, hpre⟩ rfl (by rw [List.length_map]; exact c6) hl.1 hstack hW8 (COK.here hco) ⟨hR.2.2.1, hR.2.2.2⟩) hS (fun H1 locs1 a1 a2 => ?_)
  have h1 := kk.2 H1 locs1 rl (suf_next hs) a1 a2 hl
  rw [COK.next hco kk.1] at h1
  exact h1
/-! what a case does with the two answers -/
def stepI (w : Option (Int32 × PM)) (f : PM → Option PR) : Option PM := match w with
  | some (k, M1) => match f M1 with
    | some (.inl (some (.int b)), M2) => match F_X11_thrown_99 M2 with
      | some (.inl (some (.int t)), M3) => if t = k ∧ (k = 0 → mB M3 129 (0 : Int32).toNatClampNeg = b.toInt64) then some M3 else none
      | _ => none
    | _ => none
  | none => none
def stepJ (w : Option (Int32 × PM)) (f : PM → Option PR) : Option PM := match w with
  | some (k, M1) => match f M1 with
    | some (.inl (some (.long b)), M2) => match F_X11_thrown_99 M2 with
      | some (.inl (some (.int t)), M3) => if t = k ∧ (k = 0 → mB M3 129 (0 : Int32).toNatClampNeg = b) then some M3 else none
      | _ => none
    | _ => none
  | none => none
def stepZ (w : Option (Int32 × PM)) (f : PM → Option PR) : Option PM := match w with
  | some (k, M1) => match f M1 with
    | some (.inl (some (.int b)), M2) => match F_X11_thrown_99 M2 with
      | some (.inl (some (.int t)), M3) => if t = k ∧ (k = 0 → mB M3 129 (0 : Int32).toNatClampNeg = if b = 0 then 0 else 1) then some M3 else none
      | _ => none
    | _ => none
  | none => none
def dirI (f : Option PR) (g : PM → Option PR) : Option PM := match f with
  | some (.inl (some (.int x)), M1) => match g M1 with
    | some (.inl (some (.int y)), M2) => if x = y then some M2 else none
    | _ => none
  | _ => none
def dirJ (f : Option PR) (g : PM → Option PR) : Option PM := match f with
  | some (.inl (some (.long x)), M1) => match g M1 with
    | some (.inl (some (.long y)), M2) => if x = y then some M2 else none
    | _ => none
  | _ => none
def bz (x : Int32) : Int32 := if x = 0 then 0 else 1
theorem lg_cmp_self (x : Int64) : lg_cmp x x = 0 := by
  unfold lg_cmp
  simp [Int64.lt_irrefl]
theorem stepI_inv {w : Option (Int32 × PM)} {f : PM → Option PR} {M' : PM} (h : stepI w f = some M') : ∃ k M1 b M2, w = some (k, M1) ∧ f M1 = some (.inl (some (.int b)), M2) ∧ F_X11_thrown_99 M2 = some (.inl (some (.int k)), M') ∧ (k = 0 → mB M' 129 (0 : Int32).toNatClampNeg = b.toInt64) := by
  unfold stepI at h
  split at h
  · rename_i k M1
    split at h
    · rename_i b M2 hf
      split at h
      · rename_i t M3 ht
        by_cases hc : t = k ∧ (k = 0 → mB M3 129 (0 : Int32).toNatClampNeg = b.toInt64)
        · rw [if_pos hc] at h
          cases h
          exact ⟨k, M1, b, M2, rfl, hf, by rw [← hc.1]; exact ht, hc.2⟩
        · rw [if_neg hc] at h; cases h
      · cases h
    · cases h
  · cases h
theorem stepJ_inv {w : Option (Int32 × PM)} {f : PM → Option PR} {M' : PM} (h : stepJ w f = some M') : ∃ k M1 b M2, w = some (k, M1) ∧ f M1 = some (.inl (some (.long b)), M2) ∧ F_X11_thrown_99 M2 = some (.inl (some (.int k)), M') ∧ (k = 0 → mB M' 129 (0 : Int32).toNatClampNeg = b) := by
  unfold stepJ at h
  split at h
  · rename_i k M1
    split at h
    · rename_i b M2 hf
      split at h
      · rename_i t M3 ht
        by_cases hc : t = k ∧ (k = 0 → mB M3 129 (0 : Int32).toNatClampNeg = b)
        · rw [if_pos hc] at h
          cases h
          exact ⟨k, M1, b, M2, rfl, hf, by rw [← hc.1]; exact ht, hc.2⟩
        · rw [if_neg hc] at h; cases h
      · cases h
    · cases h
  · cases h
theorem stepZ_inv {w : Option (Int32 × PM)} {f : PM → Option PR} {M' : PM} (h : stepZ w f = some M') : ∃ k M1 b M2, w = some (k, M1) ∧ f M1 = some (.inl (some (.int b)), M2) ∧ F_X11_thrown_99 M2 = some (.inl (some (.int k)), M') ∧ (k = 0 → mB M' 129 (0 : Int32).toNatClampNeg = if b = 0 then 0 else 1) := by
  unfold stepZ at h
  split at h
  · rename_i k M1
    split at h
    · rename_i b M2 hf
      split at h
      · rename_i t M3 ht
        by_cases hc : t = k ∧ (k = 0 → mB M3 129 (0 : Int32).toNatClampNeg = if b = 0 then 0 else 1)
        · rw [if_pos hc] at h
          cases h
          exact ⟨k, M1, b, M2, rfl, hf, by rw [← hc.1]; exact ht, hc.2⟩
        · rw [if_neg hc] at h; cases h
      · cases h
    · cases h
  · cases h
theorem dirI_inv {f : Option PR} {g : PM → Option PR} {M' : PM} (h : dirI f g = some M') : ∃ x M1, f = some (.inl (some (.int x)), M1) ∧ g M1 = some (.inl (some (.int x)), M') := by
  unfold dirI at h
  split at h
  · rename_i x M1
    split at h
    · rename_i y M2 hg
      by_cases hc : x = y
      · rw [if_pos hc] at h
        cases h; subst hc
        exact ⟨x, M1, rfl, hg⟩
      · rw [if_neg hc] at h; cases h
    · cases h
  · cases h
theorem dirJ_inv {f : Option PR} {g : PM → Option PR} {M' : PM} (h : dirJ f g = some M') : ∃ x M1, f = some (.inl (some (.long x)), M1) ∧ g M1 = some (.inl (some (.long x)), M') := by
  unfold dirJ at h
  split at h
  · rename_i x M1
    split at h
    · rename_i y M2 hg
      by_cases hc : x = y
      · rw [if_pos hc] at h
        cases h; subst hc
        exact ⟨x, M1, rfl, hg⟩
      · rw [if_neg hc] at h; cases h
    · cases h
  · cases h
theorem lcl_203 : Cond.constantLong RL 203 4294967295 ∈ UW := mU_9 84 rfl rfl
theorem lkl_128 : LNK RL 128 Y_X10_feed := mU_2 184 rfl rfl
theorem lkl_132 : LNK RL 132 Y_X11_feed := mU_7 166 rfl rfl
theorem lkl_138 : LNK RL 138 Y_X11_calendar := mU_7 170 rfl rfl
theorem lkl_139 : LNK RL 139 Y_X11_thrown := mU_7 162 rfl rfl
theorem lkl_145 : LNK RL 145 Y_X11_wish := mU_8 1 rfl rfl
theorem lkl_146 : LNK RL 146 Y_X10_fault := mU_2 192 rfl rfl
theorem lkl_149 : LNK RL 149 Y_X11_fault := mU_8 29 rfl rfl
theorem lkl_152 : LNK RL 152 Y_X11_told := mU_8 33 rfl rfl
theorem lkl_156 : LNK RL 156 Y_X11_law := mU_8 37 rfl rfl
theorem lkl_159 : LNK RL 159 Y_X11_slip := mU_8 45 rfl rfl
theorem lkl_163 : LNK RL 163 Y_X11_turn := mU_8 53 rfl rfl
theorem lkl_166 : LNK RL 166 Y_X11_turned := mU_8 57 rfl rfl
theorem lkl_169 : LNK RL 169 Y_X11_holds := mU_8 69 rfl rfl
theorem lkl_172 : LNK RL 172 Y_X11_inHouse := mU_8 81 rfl rfl
theorem lkl_175 : LNK RL 175 Y_X11_clashes := mU_8 93 rfl rfl
theorem lkl_178 : LNK RL 178 Y_X11_such := mU_8 97 rfl rfl
theorem lkl_181 : LNK RL 181 Y_X11_next := mU_8 112 rfl rfl
theorem lkl_184 : LNK RL 184 Y_X11_never := mU_8 119 rfl rfl
theorem lkl_187 : LNK RL 187 Y_X11_together := mU_8 138 rfl rfl
theorem lkl_190 : LNK RL 190 Y_X11_most := mU_8 142 rfl rfl
theorem lkl_193 : LNK RL 193 Y_X11_count := mU_8 146 rfl rfl
theorem lkl_196 : LNK RL 196 Y_X11_row := mU_8 150 rfl rfl
theorem lkl_199 : LNK RL 199 Y_X11_free := mU_8 154 rfl rfl
theorem lkl_202 : LNK RL 202 Y_X11_meeting := mU_8 158 rfl rfl
theorem lkl_208 : LNK RL 208 Y_X11_weeks := mU_8 166 rfl rfl
theorem lkl_212 : LNK RL 212 Y_X11_seen := mU_8 180 rfl rfl
theorem lkl_215 : LNK RL 215 Y_X11_fits := mU_8 184 rfl rfl
theorem lkl_218 : LNK RL 218 Y_X11_look := mU_8 192 rfl rfl
theorem lkl_222 : LNK RL 222 Y_X11_did := mU_8 196 rfl rfl
theorem lkl_225 : LNK RL 225 Y_X11_slipped := mU_8 200 rfl rfl
theorem lkl_226 : LNK RL 226 Y_X10_forget := mU_2 196 rfl rfl
theorem lkl_229 : LNK RL 229 Y_X11_forget := mU_8 208 rfl rfl
theorem lkl_232 : LNK RL 232 Y_X11_right := mU_8 212 rfl rfl
theorem lkl_235 : LNK RL 235 Y_X11_work := mU_8 220 rfl rfl
theorem lkl_238 : LNK RL 238 Y_X11_done := mU_8 224 rfl rfl
theorem lkl_241 : LNK RL 241 Y_X11_begun := mU_9 0 rfl rfl
theorem lkl_244 : LNK RL 244 Y_X11_soonest := mU_9 4 rfl rfl
theorem lkl_245 : LNK RL 245 Y_X10_rest := mU_2 200 rfl rfl
theorem lkl_248 : LNK RL 248 Y_X11_rest := mU_9 24 rfl rfl
theorem lkl_251 : LNK RL 251 Y_X11_thief := mU_9 28 rfl rfl
theorem lkl_254 : LNK RL 254 Y_X11_guard := mU_9 40 rfl rfl
theorem lkl_257 : LNK RL 257 Y_X11_trade := mU_9 44 rfl rfl
theorem lkl_260 : LNK RL 260 Y_X11_market := mU_9 56 rfl rfl
theorem lkl_261 : LNK RL 261 Y_X10_image := mU_2 204 rfl rfl
theorem lkl_264 : LNK RL 264 Y_X11_image := mU_9 60 rfl rfl
theorem lkl_265 : LNK RL 265 Y_X10_restore := mU_2 215 rfl rfl
theorem lkl_268 : LNK RL 268 Y_X11_restore := mU_9 72 rfl rfl
theorem lkl_269 : LNK RL 269 Y_X10_status := mU_2 219 rfl rfl
theorem lkl_272 : LNK RL 272 Y_X11_status := mU_9 76 rfl rfl
theorem lkl_273 : LNK RL 273 Y_X10_sums := mU_2 223 rfl rfl
theorem lkl_276 : LNK RL 276 Y_X11_sums := mU_9 80 rfl rfl
def c_0 (M : PM) (a1 : Int32) (a2 : Int32) (a3 : Int32) (a4 : Int32) (a5 : Int32) : Option PM := dirI (F_X10_feed_0 M a1 a2 a3 a4 a5) (fun M => F_X11_feed_99 M a1 a2 a3 a4 a5)
set_option maxRecDepth 100000 in
theorem case_0 {l : Launch} (hl : l.stackTraces = false) {X : GX} {cs : Nat × Nat} {L : Nat} {xs : Nat → Int32} {i : Int32} {M M' : PM} (hX : GOK Y_L_law_ X) (hs : SCR X L xs) (hc : cs.1 + 1 ≤ 601024 ∧ cs.2 + 6 ≤ 7293034) (hi1 : vp_in (i + 1) L) (hi2 : vp_in (i + 2) L) (hi3 : vp_in (i + 3) L) (hi4 : vp_in (i + 4) L) (hi5 : vp_in (i + 5) L) (h : c_0 M (xs (i + 1).toNatClampNeg) (xs (i + 2).toNatClampNeg) (xs (i + 3).toNatClampNeg) (xs (i + 4).toNatClampNeg) (xs (i + 5).toNatClampNeg) = some M') (kk : PG l room_1 Y_L_law_ X (cs.1 + 1, cs.2 + 6) k_L_law__2674 [vR 99999, vR 0, vR 99, vR 129, vI i, jk, jk, jk] [] M') : PG l room_1 Y_L_law_ X cs k_L_law__224 [vR 99999, vR 0, vR 99, vR 129, vI i, jk, jk, jk] [] M := by
  have hc0 : cs.1 ≤ 601024 ∧ cs.2 ≤ 7293034 := ⟨by omega, by omega⟩
  have hc2 : (cs.1 + 1, cs.2 + 6).1 ≤ 601024 ∧ (cs.1 + 1, cs.2 + 6).2 ≤ 7293034 := hc
  unfold c_0 at h
  obtain ⟨x, M1, hf, hg⟩ := dirI_inv h
  refine g_aload_n hX rfl ?_
  refine g_aload_n hX rfl ?_
  refine g_iload hX rfl ?_
  refine g_iconst hX (v := 1) rfl ?_
  refine g_iadd hX ?_
  refine g_sld hX hs hi1 ?_
  refine g_aload_n hX rfl ?_
  refine g_iload hX rfl ?_
  refine g_iconst hX (v := 2) rfl ?_
  refine g_iadd hX ?_
  refine g_sld hX hs hi2 ?_
  refine g_aload_n hX rfl ?_
  refine g_iload hX rfl ?_
  refine g_iconst hX (v := 3) rfl ?_
  refine g_iadd hX ?_
  refine g_sld hX hs hi3 ?_
  refine g_aload_n hX rfl ?_
  refine g_iload hX rfl ?_
  refine g_iconst hX (v := 4) rfl ?_
  refine g_iadd hX ?_
  refine g_sld hX hs hi4 ?_
  refine g_aload_n hX rfl ?_
  refine g_iload hX rfl ?_
  refine g_iconst hX (v := 5) rfl ?_
  refine g_iadd hX ?_
  refine g_sld hX hs hi5 ?_
  refine g_call (d2 := 1) (as := [_, _, _, _, _]) hX ⟨mok_X10_feed, rfl, ⟨10, 0, gt_0, rfl⟩, ins_X10_feed, lkl_128⟩ ⟨(Nat.le_of_ble_eq_true rfl), (Nat.le_of_ble_eq_true rfl), hc0.1, hc0.2⟩ (Nat.le_of_ble_eq_true rfl) (pc_X10_feed_0 hl hf) rfl (st1 := [vI _]) (fun _ => rfl) ?_
  refine g_aload_n hX rfl ?_
  refine g_aload_n hX rfl ?_
  refine g_iload hX rfl ?_
  refine g_iconst hX (v := 1) rfl ?_
  refine g_iadd hX ?_
  refine g_sld hX hs hi1 ?_
  refine g_aload_n hX rfl ?_
  refine g_iload hX rfl ?_
  refine g_iconst hX (v := 2) rfl ?_
  refine g_iadd hX ?_
  refine g_sld hX hs hi2 ?_
  refine g_aload_n hX rfl ?_
  refine g_iload hX rfl ?_
  refine g_iconst hX (v := 3) rfl ?_
  refine g_iadd hX ?_
  refine g_sld hX hs hi3 ?_
  refine g_aload_n hX rfl ?_
  refine g_iload hX rfl ?_
  refine g_iconst hX (v := 4) rfl ?_
  refine g_iadd hX ?_
  refine g_sld hX hs hi4 ?_
  refine g_aload_n hX rfl ?_
  refine g_iload hX rfl ?_
  refine g_iconst hX (v := 5) rfl ?_
  refine g_iadd hX ?_
  refine g_sld hX hs hi5 ?_
  refine g_call (d2 := 0) (as := [_, _, _, _, _]) hX ⟨mok_X11_feed, rfl, ⟨11, 0, gt_99, rfl⟩, ins_X11_feed, lkl_132⟩ ⟨(Nat.le_of_ble_eq_true rfl), (Nat.le_of_ble_eq_true rfl), hc0.1, hc0.2⟩ (Nat.le_of_ble_eq_true rfl) (pc_X11_feed_99 hl hg) rfl (st1 := [vI _, vI _]) (fun _ => rfl) ?_
  refine g_icmp_eqT hX 1623 rfl rfl rfl ?_
  refine g_widen (cs' := (cs.1 + 1, cs.2 + 6)) (by show cs.1 ≤ cs.1 + 1; omega) (by show cs.2 ≤ cs.2 + 6; omega) ?_
  exact kk
def c_1 (M : PM) (a1 : Int32) : Option PM := stepI (w_calendar M a1) (fun M => F_X11_calendar_99 M a1)
set_option maxRecDepth 100000 in
theorem case_1 {l : Launch} (hl : l.stackTraces = false) {X : GX} {cs : Nat × Nat} {L : Nat} {xs : Nat → Int32} {i : Int32} {M M' : PM} (hX : GOK Y_L_law_ X) (hs : SCR X L xs) (hc : cs.1 + 1 ≤ 601024 ∧ cs.2 + 6 ≤ 7293034) (hi1 : vp_in (i + 1) L) (h : c_1 M (xs (i + 1).toNatClampNeg) = some M') (kk : PG l room_1 Y_L_law_ X (cs.1 + 1, cs.2 + 6) k_L_law__2674 [vR 99999, vR 0, vR 99, vR 129, vI i, jk, jk, jk] [] M') : PG l room_1 Y_L_law_ X cs k_L_law__297 [vR 99999, vR 0, vR 99, vR 129, vI i, jk, jk, jk] [] M := by
  have hc0 : cs.1 ≤ 601024 ∧ cs.2 ≤ 7293034 := ⟨by omega, by omega⟩
  have hc2 : (cs.1 + 1, cs.2 + 6).1 ≤ 601024 ∧ (cs.1 + 1, cs.2 + 6).2 ≤ 7293034 := hc
  unfold c_1 at h
  obtain ⟨k, M1, b, M2, hw, hg, ht, hk2⟩ := stepI_inv h
  refine g_aload_n hX rfl ?_
  refine g_aload_n hX rfl ?_
  refine g_iload hX rfl ?_
  refine g_iconst hX (v := 1) rfl ?_
  refine g_iadd hX ?_
  refine g_sld hX hs hi1 ?_
  refine g_aload_n hX rfl ?_
  refine g_callW (d2 := 11) (n := 3) (av := [_, _, _]) hX rfl ⟨cw_L_calendar, mU_1 0 rfl rfl, mU_2 227 rfl rfl, mU_2 228 rfl rfl, ⟨by decide, by decide, by decide +kernel⟩, rfl, (Nat.le_of_ble_eq_true rfl)⟩ ⟨(Nat.le_of_ble_eq_true rfl), (Nat.le_of_ble_eq_true rfl), hc.1, hc.2⟩ (Nat.le_of_ble_eq_true rfl) (pw_calendar hl hw) rfl ?_
  refine g_istore hX (Nat.le_of_ble_eq_true rfl) rfl ?_
  refine g_aload_n hX rfl ?_
  refine g_aload_n hX rfl ?_
  refine g_iload hX rfl ?_
  refine g_iconst hX (v := 1) rfl ?_
  refine g_iadd hX ?_
  refine g_sld hX hs hi1 ?_
  refine g_call (d2 := 5) (as := [_]) hX ⟨mok_X11_calendar, rfl, ⟨11, 0, gt_99, rfl⟩, ins_X11_calendar, lkl_138⟩ ⟨(Nat.le_of_ble_eq_true rfl), (Nat.le_of_ble_eq_true rfl), hc2.1, hc2.2⟩ (Nat.le_of_ble_eq_true rfl) (pc_X11_calendar_99 hl hg) rfl (st1 := [vI _]) (fun _ => rfl) ?_
  refine g_istore hX (Nat.le_of_ble_eq_true rfl) rfl ?_
  refine g_aload_n hX rfl ?_
  refine g_call (d2 := 0) (as := []) hX ⟨mok_X11_thrown, rfl, ⟨11, 0, gt_99, rfl⟩, ins_X11_thrown, lkl_139⟩ ⟨(Nat.le_of_ble_eq_true rfl), (Nat.le_of_ble_eq_true rfl), hc2.1, hc2.2⟩ (Nat.le_of_ble_eq_true rfl) (pc_X11_thrown_99 hl ht) rfl (st1 := [vI _]) (fun _ => rfl) ?_
  refine g_iload hX rfl ?_
  refine g_icmp_eqT hX 105 rfl rfl rfl ?_
  refine g_iload hX rfl ?_
  by_cases hk : k = 0
  · refine g_if_neF (tg := 350) hX rfl (fun n => n hk) ?_
    refine g_aload_n hX rfl ?_
    refine g_iconst hX (v := 0) rfl ?_
    refine g_lald hX gt_129 rfl ?_
    refine g_iload hX rfl ?_
    refine g_i2l hX ?_
    refine g_lcmp hX ?_
    refine g_if_eqT hX 116 rfl rfl (by first | exact (congrArg (fun z => lg_cmp z _) (hk2 hk)).trans (lg_cmp_self _) | exact lg_cmp_self _) ?_
    refine g_goto hX 1623 rfl rfl ?_
    exact g_fg kk ⟨Or.inr rfl, Or.inr rfl, Or.inr rfl, Or.inr rfl, Or.inr rfl, Or.inl rfl, Or.inl rfl, Or.inl rfl, trivial⟩
  · refine g_if_neT hX 116 rfl rfl hk ?_
    refine g_goto hX 1623 rfl rfl ?_
    exact g_fg kk ⟨Or.inr rfl, Or.inr rfl, Or.inr rfl, Or.inr rfl, Or.inr rfl, Or.inl rfl, Or.inl rfl, Or.inl rfl, trivial⟩
def c_2 (M : PM) (a1 : Int32) : Option PM := stepI (w_wish M a1) (fun M => F_X11_wish_99 M a1)
set_option maxRecDepth 100000 in
theorem case_2 {l : Launch} (hl : l.stackTraces = false) {X : GX} {cs : Nat × Nat} {L : Nat} {xs : Nat → Int32} {i : Int32} {M M' : PM} (hX : GOK Y_L_law_ X) (hs : SCR X L xs) (hc : cs.1 + 1 ≤ 601024 ∧ cs.2 + 6 ≤ 7293034) (hi1 : vp_in (i + 1) L) (h : c_2 M (xs (i + 1).toNatClampNeg) = some M') (kk : PG l room_1 Y_L_law_ X (cs.1 + 1, cs.2 + 6) k_L_law__2674 [vR 99999, vR 0, vR 99, vR 129, vI i, jk, jk, jk] [] M') : PG l room_1 Y_L_law_ X cs k_L_law__353 [vR 99999, vR 0, vR 99, vR 129, vI i, jk, jk, jk] [] M := by
  have hc0 : cs.1 ≤ 601024 ∧ cs.2 ≤ 7293034 := ⟨by omega, by omega⟩
  have hc2 : (cs.1 + 1, cs.2 + 6).1 ≤ 601024 ∧ (cs.1 + 1, cs.2 + 6).2 ≤ 7293034 := hc
  unfold c_2 at h
  obtain ⟨k, M1, b, M2, hw, hg, ht, hk2⟩ := stepI_inv h
  refine g_aload_n hX rfl ?_
  refine g_aload_n hX rfl ?_
  refine g_iload hX rfl ?_
  refine g_iconst hX (v := 1) rfl ?_
  refine g_iadd hX ?_
  refine g_sld hX hs hi1 ?_
  refine g_aload_n hX rfl ?_
  refine g_callW (d2 := 72) (n := 3) (av := [_, _, _]) hX rfl ⟨cw_L_wish, mU_1 0 rfl rfl, mU_4 20 rfl rfl, mU_4 21 rfl rfl, ⟨by decide, by decide, by decide +kernel⟩, rfl, (Nat.le_of_ble_eq_true rfl)⟩ ⟨(Nat.le_of_ble_eq_true rfl), (Nat.le_of_ble_eq_true rfl), hc.1, hc.2⟩ (Nat.le_of_ble_eq_true rfl) (pw_wish hl hw) rfl ?_
  refine g_istore hX (Nat.le_of_ble_eq_true rfl) rfl ?_
  refine g_aload_n hX rfl ?_
  refine g_aload_n hX rfl ?_
  refine g_iload hX rfl ?_
  refine g_iconst hX (v := 1) rfl ?_
  refine g_iadd hX ?_
  refine g_sld hX hs hi1 ?_
  refine g_call (d2 := 66) (as := [_]) hX ⟨mok_X11_wish, rfl, ⟨11, 0, gt_99, rfl⟩, ins_X11_wish, lkl_145⟩ ⟨(Nat.le_of_ble_eq_true rfl), (Nat.le_of_ble_eq_true rfl), hc2.1, hc2.2⟩ (Nat.le_of_ble_eq_true rfl) (pc_X11_wish_99 hl hg) rfl (st1 := [vI _]) (fun _ => rfl) ?_
  refine g_istore hX (Nat.le_of_ble_eq_true rfl) rfl ?_
  refine g_aload_n hX rfl ?_
  refine g_call (d2 := 0) (as := []) hX ⟨mok_X11_thrown, rfl, ⟨11, 0, gt_99, rfl⟩, ins_X11_thrown, lkl_139⟩ ⟨(Nat.le_of_ble_eq_true rfl), (Nat.le_of_ble_eq_true rfl), hc2.1, hc2.2⟩ (Nat.le_of_ble_eq_true rfl) (pc_X11_thrown_99 hl ht) rfl (st1 := [vI _]) (fun _ => rfl) ?_
  refine g_iload hX rfl ?_
  refine g_icmp_eqT hX 140 rfl rfl rfl ?_
  refine g_iload hX rfl ?_
  by_cases hk : k = 0
  · refine g_if_neF (tg := 406) hX rfl (fun n => n hk) ?_
    refine g_aload_n hX rfl ?_
    refine g_iconst hX (v := 0) rfl ?_
    refine g_lald hX gt_129 rfl ?_
    refine g_iload hX rfl ?_
    refine g_i2l hX ?_
    refine g_lcmp hX ?_
    refine g_if_eqT hX 151 rfl rfl (by first | exact (congrArg (fun z => lg_cmp z _) (hk2 hk)).trans (lg_cmp_self _) | exact lg_cmp_self _) ?_
    refine g_goto hX 1623 rfl rfl ?_
    exact g_fg kk ⟨Or.inr rfl, Or.inr rfl, Or.inr rfl, Or.inr rfl, Or.inr rfl, Or.inl rfl, Or.inl rfl, Or.inl rfl, trivial⟩
  · refine g_if_neT hX 151 rfl rfl hk ?_
    refine g_goto hX 1623 rfl rfl ?_
    exact g_fg kk ⟨Or.inr rfl, Or.inr rfl, Or.inr rfl, Or.inr rfl, Or.inr rfl, Or.inl rfl, Or.inl rfl, Or.inl rfl, trivial⟩
def c_3 (M : PM)  : Option PM := dirI (F_X10_fault_0 M ) (fun M => F_X11_fault_99 M )
set_option maxRecDepth 100000 in
theorem case_3 {l : Launch} (hl : l.stackTraces = false) {X : GX} {cs : Nat × Nat} {L : Nat} {xs : Nat → Int32} {i : Int32} {M M' : PM} (hX : GOK Y_L_law_ X) (hs : SCR X L xs) (hc : cs.1 + 1 ≤ 601024 ∧ cs.2 + 6 ≤ 7293034)  (h : c_3 M  = some M') (kk : PG l room_1 Y_L_law_ X (cs.1 + 1, cs.2 + 6) k_L_law__2674 [vR 99999, vR 0, vR 99, vR 129, vI i, jk, jk, jk] [] M') : PG l room_1 Y_L_law_ X cs k_L_law__409 [vR 99999, vR 0, vR 99, vR 129, vI i, jk, jk, jk] [] M := by
  have hc0 : cs.1 ≤ 601024 ∧ cs.2 ≤ 7293034 := ⟨by omega, by omega⟩
  have hc2 : (cs.1 + 1, cs.2 + 6).1 ≤ 601024 ∧ (cs.1 + 1, cs.2 + 6).2 ≤ 7293034 := hc
  unfold c_3 at h
  obtain ⟨x, M1, hf, hg⟩ := dirI_inv h
  refine g_aload_n hX rfl ?_
  refine g_call (d2 := 0) (as := []) hX ⟨mok_X10_fault, rfl, ⟨10, 0, gt_0, rfl⟩, ins_X10_fault, lkl_146⟩ ⟨(Nat.le_of_ble_eq_true rfl), (Nat.le_of_ble_eq_true rfl), hc0.1, hc0.2⟩ (Nat.le_of_ble_eq_true rfl) (pc_X10_fault_0 hl hf) rfl (st1 := [vI _]) (fun _ => rfl) ?_
  refine g_aload_n hX rfl ?_
  refine g_call (d2 := 0) (as := []) hX ⟨mok_X11_fault, rfl, ⟨11, 0, gt_99, rfl⟩, ins_X11_fault, lkl_149⟩ ⟨(Nat.le_of_ble_eq_true rfl), (Nat.le_of_ble_eq_true rfl), hc0.1, hc0.2⟩ (Nat.le_of_ble_eq_true rfl) (pc_X11_fault_99 hl hg) rfl (st1 := [vI _, vI _]) (fun _ => rfl) ?_
  refine g_icmp_eqT hX 1623 rfl rfl rfl ?_
  refine g_widen (cs' := (cs.1 + 1, cs.2 + 6)) (by show cs.1 ≤ cs.1 + 1; omega) (by show cs.2 ≤ cs.2 + 6; omega) ?_
  exact kk
def c_4 (M : PM) (a1 : Int32) : Option PM := stepI (w_told M a1) (fun M => F_X11_told_99 M a1)
set_option maxRecDepth 100000 in
theorem case_4 {l : Launch} (hl : l.stackTraces = false) {X : GX} {cs : Nat × Nat} {L : Nat} {xs : Nat → Int32} {i : Int32} {M M' : PM} (hX : GOK Y_L_law_ X) (hs : SCR X L xs) (hc : cs.1 + 1 ≤ 601024 ∧ cs.2 + 6 ≤ 7293034) (hi1 : vp_in (i + 1) L) (h : c_4 M (xs (i + 1).toNatClampNeg) = some M') (kk : PG l room_1 Y_L_law_ X (cs.1 + 1, cs.2 + 6) k_L_law__2674 [vR 99999, vR 0, vR 99, vR 129, vI i, jk, jk, jk] [] M') : PG l room_1 Y_L_law_ X cs k_L_law__422 [vR 99999, vR 0, vR 99, vR 129, vI i, jk, jk, jk] [] M := by
  have hc0 : cs.1 ≤ 601024 ∧ cs.2 ≤ 7293034 := ⟨by omega, by omega⟩
  have hc2 : (cs.1 + 1, cs.2 + 6).1 ≤ 601024 ∧ (cs.1 + 1, cs.2 + 6).2 ≤ 7293034 := hc
  unfold c_4 at h
  obtain ⟨k, M1, b, M2, hw, hg, ht, hk2⟩ := stepI_inv h
  refine g_aload_n hX rfl ?_
  refine g_aload_n hX rfl ?_
  refine g_iload hX rfl ?_
  refine g_iconst hX (v := 1) rfl ?_
  refine g_iadd hX ?_
  refine g_sld hX hs hi1 ?_
  refine g_aload_n hX rfl ?_
  refine g_callW (d2 := 8) (n := 3) (av := [_, _, _]) hX rfl ⟨cw_L_told, mU_1 0 rfl rfl, mU_4 83 rfl rfl, mU_4 84 rfl rfl, ⟨by decide, by decide, by decide +kernel⟩, rfl, (Nat.le_of_ble_eq_true rfl)⟩ ⟨(Nat.le_of_ble_eq_true rfl), (Nat.le_of_ble_eq_true rfl), hc.1, hc.2⟩ (Nat.le_of_ble_eq_true rfl) (pw_told hl hw) rfl ?_
  refine g_istore hX (Nat.le_of_ble_eq_true rfl) rfl ?_
  refine g_aload_n hX rfl ?_
  refine g_aload_n hX rfl ?_
  refine g_iload hX rfl ?_
  refine g_iconst hX (v := 1) rfl ?_
  refine g_iadd hX ?_
  refine g_sld hX hs hi1 ?_
  refine g_call (d2 := 1) (as := [_]) hX ⟨mok_X11_told, rfl, ⟨11, 0, gt_99, rfl⟩, ins_X11_told, lkl_152⟩ ⟨(Nat.le_of_ble_eq_true rfl), (Nat.le_of_ble_eq_true rfl), hc2.1, hc2.2⟩ (Nat.le_of_ble_eq_true rfl) (pc_X11_told_99 hl hg) rfl (st1 := [vI _]) (fun _ => rfl) ?_
  refine g_istore hX (Nat.le_of_ble_eq_true rfl) rfl ?_
  refine g_aload_n hX rfl ?_
  refine g_call (d2 := 0) (as := []) hX ⟨mok_X11_thrown, rfl, ⟨11, 0, gt_99, rfl⟩, ins_X11_thrown, lkl_139⟩ ⟨(Nat.le_of_ble_eq_true rfl), (Nat.le_of_ble_eq_true rfl), hc2.1, hc2.2⟩ (Nat.le_of_ble_eq_true rfl) (pc_X11_thrown_99 hl ht) rfl (st1 := [vI _]) (fun _ => rfl) ?_
  refine g_iload hX rfl ?_
  refine g_icmp_eqT hX 182 rfl rfl rfl ?_
  refine g_iload hX rfl ?_
  by_cases hk : k = 0
  · refine g_if_neF (tg := 475) hX rfl (fun n => n hk) ?_
    refine g_aload_n hX rfl ?_
    refine g_iconst hX (v := 0) rfl ?_
    refine g_lald hX gt_129 rfl ?_
    refine g_iload hX rfl ?_
    refine g_i2l hX ?_
    refine g_lcmp hX ?_
    refine g_if_eqT hX 193 rfl rfl (by first | exact (congrArg (fun z => lg_cmp z _) (hk2 hk)).trans (lg_cmp_self _) | exact lg_cmp_self _) ?_
    refine g_goto hX 1623 rfl rfl ?_
    exact g_fg kk ⟨Or.inr rfl, Or.inr rfl, Or.inr rfl, Or.inr rfl, Or.inr rfl, Or.inl rfl, Or.inl rfl, Or.inl rfl, trivial⟩
  · refine g_if_neT hX 193 rfl rfl hk ?_
    refine g_goto hX 1623 rfl rfl ?_
    exact g_fg kk ⟨Or.inr rfl, Or.inr rfl, Or.inr rfl, Or.inr rfl, Or.inr rfl, Or.inl rfl, Or.inl rfl, Or.inl rfl, trivial⟩
def c_5 (M : PM) (a1 : Int32) (a2 : Int32) : Option PM := stepI (w_law M a1 a2) (fun M => F_X11_law_99 M a1 a2)
set_option maxRecDepth 100000 in
theorem case_5 {l : Launch} (hl : l.stackTraces = false) {X : GX} {cs : Nat × Nat} {L : Nat} {xs : Nat → Int32} {i : Int32} {M M' : PM} (hX : GOK Y_L_law_ X) (hs : SCR X L xs) (hc : cs.1 + 1 ≤ 601024 ∧ cs.2 + 6 ≤ 7293034) (hi1 : vp_in (i + 1) L) (hi2 : vp_in (i + 2) L) (h : c_5 M (xs (i + 1).toNatClampNeg) (xs (i + 2).toNatClampNeg) = some M') (kk : PG l room_1 Y_L_law_ X (cs.1 + 1, cs.2 + 6) k_L_law__2674 [vR 99999, vR 0, vR 99, vR 129, vI i, jk, jk, jk] [] M') : PG l room_1 Y_L_law_ X cs k_L_law__478 [vR 99999, vR 0, vR 99, vR 129, vI i, jk, jk, jk] [] M := by
  have hc0 : cs.1 ≤ 601024 ∧ cs.2 ≤ 7293034 := ⟨by omega, by omega⟩
  have hc2 : (cs.1 + 1, cs.2 + 6).1 ≤ 601024 ∧ (cs.1 + 1, cs.2 + 6).2 ≤ 7293034 := hc
  unfold c_5 at h
  obtain ⟨k, M1, b, M2, hw, hg, ht, hk2⟩ := stepI_inv h
  refine g_aload_n hX rfl ?_
  refine g_aload_n hX rfl ?_
  refine g_iload hX rfl ?_
  refine g_iconst hX (v := 1) rfl ?_
  refine g_iadd hX ?_
  refine g_sld hX hs hi1 ?_
  refine g_aload_n hX rfl ?_
  refine g_iload hX rfl ?_
  refine g_iconst hX (v := 2) rfl ?_
  refine g_iadd hX ?_
  refine g_sld hX hs hi2 ?_
  refine g_aload_n hX rfl ?_
  refine g_callW (d2 := 9) (n := 4) (av := [_, _, _, _]) hX rfl ⟨cw_L_law, mU_1 0 rfl rfl, mU_4 90 rfl rfl, mU_4 91 rfl rfl, ⟨by decide, by decide, by decide +kernel⟩, rfl, (Nat.le_of_ble_eq_true rfl)⟩ ⟨(Nat.le_of_ble_eq_true rfl), (Nat.le_of_ble_eq_true rfl), hc.1, hc.2⟩ (Nat.le_of_ble_eq_true rfl) (pw_law hl hw) rfl ?_
  refine g_istore hX (Nat.le_of_ble_eq_true rfl) rfl ?_
  refine g_aload_n hX rfl ?_
  refine g_aload_n hX rfl ?_
  refine g_iload hX rfl ?_
  refine g_iconst hX (v := 1) rfl ?_
  refine g_iadd hX ?_
  refine g_sld hX hs hi1 ?_
  refine g_aload_n hX rfl ?_
  refine g_iload hX rfl ?_
  refine g_iconst hX (v := 2) rfl ?_
  refine g_iadd hX ?_
  refine g_sld hX hs hi2 ?_
  refine g_call (d2 := 2) (as := [_, _]) hX ⟨mok_X11_law, rfl, ⟨11, 0, gt_99, rfl⟩, ins_X11_law, lkl_156⟩ ⟨(Nat.le_of_ble_eq_true rfl), (Nat.le_of_ble_eq_true rfl), hc2.1, hc2.2⟩ (Nat.le_of_ble_eq_true rfl) (pc_X11_law_99 hl hg) rfl (st1 := [vI _]) (fun _ => rfl) ?_
  refine g_istore hX (Nat.le_of_ble_eq_true rfl) rfl ?_
  refine g_aload_n hX rfl ?_
  refine g_call (d2 := 0) (as := []) hX ⟨mok_X11_thrown, rfl, ⟨11, 0, gt_99, rfl⟩, ins_X11_thrown, lkl_139⟩ ⟨(Nat.le_of_ble_eq_true rfl), (Nat.le_of_ble_eq_true rfl), hc2.1, hc2.2⟩ (Nat.le_of_ble_eq_true rfl) (pc_X11_thrown_99 hl ht) rfl (st1 := [vI _]) (fun _ => rfl) ?_
  refine g_iload hX rfl ?_
  refine g_icmp_eqT hX 227 rfl rfl rfl ?_
  refine g_iload hX rfl ?_
  by_cases hk : k = 0
  · refine g_if_neF (tg := 543) hX rfl (fun n => n hk) ?_
    refine g_aload_n hX rfl ?_
    refine g_iconst hX (v := 0) rfl ?_
    refine g_lald hX gt_129 rfl ?_
    refine g_iload hX rfl ?_
    refine g_i2l hX ?_
    refine g_lcmp hX ?_
    refine g_if_eqT hX 238 rfl rfl (by first | exact (congrArg (fun z => lg_cmp z _) (hk2 hk)).trans (lg_cmp_self _) | exact lg_cmp_self _) ?_
    refine g_goto hX 1623 rfl rfl ?_
    exact g_fg kk ⟨Or.inr rfl, Or.inr rfl, Or.inr rfl, Or.inr rfl, Or.inr rfl, Or.inl rfl, Or.inl rfl, Or.inl rfl, trivial⟩
  · refine g_if_neT hX 238 rfl rfl hk ?_
    refine g_goto hX 1623 rfl rfl ?_
    exact g_fg kk ⟨Or.inr rfl, Or.inr rfl, Or.inr rfl, Or.inr rfl, Or.inr rfl, Or.inl rfl, Or.inl rfl, Or.inl rfl, trivial⟩
def c_6 (M : PM) (a1 : Int32) (a2 : Int32) : Option PM := stepI (w_slip M a1 a2) (fun M => F_X11_slip_99 M a1 a2)
set_option maxRecDepth 100000 in
theorem case_6 {l : Launch} (hl : l.stackTraces = false) {X : GX} {cs : Nat × Nat} {L : Nat} {xs : Nat → Int32} {i : Int32} {M M' : PM} (hX : GOK Y_L_law_ X) (hs : SCR X L xs) (hc : cs.1 + 1 ≤ 601024 ∧ cs.2 + 6 ≤ 7293034) (hi1 : vp_in (i + 1) L) (hi2 : vp_in (i + 2) L) (h : c_6 M (xs (i + 1).toNatClampNeg) (xs (i + 2).toNatClampNeg) = some M') (kk : PG l room_1 Y_L_law_ X (cs.1 + 1, cs.2 + 6) k_L_law__2674 [vR 99999, vR 0, vR 99, vR 129, vI i, jk, jk, jk] [] M') : PG l room_1 Y_L_law_ X cs k_L_law__546 [vR 99999, vR 0, vR 99, vR 129, vI i, jk, jk, jk] [] M := by
  have hc0 : cs.1 ≤ 601024 ∧ cs.2 ≤ 7293034 := ⟨by omega, by omega⟩
  have hc2 : (cs.1 + 1, cs.2 + 6).1 ≤ 601024 ∧ (cs.1 + 1, cs.2 + 6).2 ≤ 7293034 := hc
  unfold c_6 at h
  obtain ⟨k, M1, b, M2, hw, hg, ht, hk2⟩ := stepI_inv h
  refine g_aload_n hX rfl ?_
  refine g_aload_n hX rfl ?_
  refine g_iload hX rfl ?_
  refine g_iconst hX (v := 1) rfl ?_
  refine g_iadd hX ?_
  refine g_sld hX hs hi1 ?_
  refine g_aload_n hX rfl ?_
  refine g_iload hX rfl ?_
  refine g_iconst hX (v := 2) rfl ?_
  refine g_iadd hX ?_
  refine g_sld hX hs hi2 ?_
  refine g_aload_n hX rfl ?_
  refine g_callW (d2 := 9) (n := 4) (av := [_, _, _, _]) hX rfl ⟨cw_L_slip, mU_1 0 rfl rfl, mU_4 131 rfl rfl, mU_4 132 rfl rfl, ⟨by decide, by decide, by decide +kernel⟩, rfl, (Nat.le_of_ble_eq_true rfl)⟩ ⟨(Nat.le_of_ble_eq_true rfl), (Nat.le_of_ble_eq_true rfl), hc.1, hc.2⟩ (Nat.le_of_ble_eq_true rfl) (pw_slip hl hw) rfl ?_
  refine g_istore hX (Nat.le_of_ble_eq_true rfl) rfl ?_
  refine g_aload_n hX rfl ?_
  refine g_aload_n hX rfl ?_
  refine g_iload hX rfl ?_
  refine g_iconst hX (v := 1) rfl ?_
  refine g_iadd hX ?_
  refine g_sld hX hs hi1 ?_
  refine g_aload_n hX rfl ?_
  refine g_iload hX rfl ?_
  refine g_iconst hX (v := 2) rfl ?_
  refine g_iadd hX ?_
  refine g_sld hX hs hi2 ?_
  refine g_call (d2 := 2) (as := [_, _]) hX ⟨mok_X11_slip, rfl, ⟨11, 0, gt_99, rfl⟩, ins_X11_slip, lkl_159⟩ ⟨(Nat.le_of_ble_eq_true rfl), (Nat.le_of_ble_eq_true rfl), hc2.1, hc2.2⟩ (Nat.le_of_ble_eq_true rfl) (pc_X11_slip_99 hl hg) rfl (st1 := [vI _]) (fun _ => rfl) ?_
  refine g_istore hX (Nat.le_of_ble_eq_true rfl) rfl ?_
  refine g_aload_n hX rfl ?_
  refine g_call (d2 := 0) (as := []) hX ⟨mok_X11_thrown, rfl, ⟨11, 0, gt_99, rfl⟩, ins_X11_thrown, lkl_139⟩ ⟨(Nat.le_of_ble_eq_true rfl), (Nat.le_of_ble_eq_true rfl), hc2.1, hc2.2⟩ (Nat.le_of_ble_eq_true rfl) (pc_X11_thrown_99 hl ht) rfl (st1 := [vI _]) (fun _ => rfl) ?_
  refine g_iload hX rfl ?_
  refine g_icmp_eqT hX 272 rfl rfl rfl ?_
  refine g_iload hX rfl ?_
  by_cases hk : k = 0
  · refine g_if_neF (tg := 611) hX rfl (fun n => n hk) ?_
    refine g_aload_n hX rfl ?_
    refine g_iconst hX (v := 0) rfl ?_
    refine g_lald hX gt_129 rfl ?_
    refine g_iload hX rfl ?_
    refine g_i2l hX ?_
    refine g_lcmp hX ?_
    refine g_if_eqT hX 283 rfl rfl (by first | exact (congrArg (fun z => lg_cmp z _) (hk2 hk)).trans (lg_cmp_self _) | exact lg_cmp_self _) ?_
    refine g_goto hX 1623 rfl rfl ?_
    exact g_fg kk ⟨Or.inr rfl, Or.inr rfl, Or.inr rfl, Or.inr rfl, Or.inr rfl, Or.inl rfl, Or.inl rfl, Or.inl rfl, trivial⟩
  · refine g_if_neT hX 283 rfl rfl hk ?_
    refine g_goto hX 1623 rfl rfl ?_
    exact g_fg kk ⟨Or.inr rfl, Or.inr rfl, Or.inr rfl, Or.inr rfl, Or.inr rfl, Or.inl rfl, Or.inl rfl, Or.inl rfl, trivial⟩
def c_7 (M : PM) (a1 : Int32) (a2 : Int32) (a3 : Int32) : Option PM := stepI (w_turn M a1 a2 a3) (fun M => F_X11_turn_99 M a1 a2 a3)
set_option maxRecDepth 100000 in
theorem case_7 {l : Launch} (hl : l.stackTraces = false) {X : GX} {cs : Nat × Nat} {L : Nat} {xs : Nat → Int32} {i : Int32} {M M' : PM} (hX : GOK Y_L_law_ X) (hs : SCR X L xs) (hc : cs.1 + 1 ≤ 601024 ∧ cs.2 + 6 ≤ 7293034) (hi1 : vp_in (i + 1) L) (hi2 : vp_in (i + 2) L) (hi3 : vp_in (i + 3) L) (h : c_7 M (xs (i + 1).toNatClampNeg) (xs (i + 2).toNatClampNeg) (xs (i + 3).toNatClampNeg) = some M') (kk : PG l room_1 Y_L_law_ X (cs.1 + 1, cs.2 + 6) k_L_law__2674 [vR 99999, vR 0, vR 99, vR 129, vI i, jk, jk, jk] [] M') : PG l room_1 Y_L_law_ X cs k_L_law__614 [vR 99999, vR 0, vR 99, vR 129, vI i, jk, jk, jk] [] M := by
  have hc0 : cs.1 ≤ 601024 ∧ cs.2 ≤ 7293034 := ⟨by omega, by omega⟩
  have hc2 : (cs.1 + 1, cs.2 + 6).1 ≤ 601024 ∧ (cs.1 + 1, cs.2 + 6).2 ≤ 7293034 := hc
  unfold c_7 at h
  obtain ⟨k, M1, b, M2, hw, hg, ht, hk2⟩ := stepI_inv h
  refine g_aload_n hX rfl ?_
  refine g_aload_n hX rfl ?_
  refine g_iload hX rfl ?_
  refine g_iconst hX (v := 1) rfl ?_
  refine g_iadd hX ?_
  refine g_sld hX hs hi1 ?_
  refine g_aload_n hX rfl ?_
  refine g_iload hX rfl ?_
  refine g_iconst hX (v := 2) rfl ?_
  refine g_iadd hX ?_
  refine g_sld hX hs hi2 ?_
  refine g_aload_n hX rfl ?_
  refine g_iload hX rfl ?_
  refine g_iconst hX (v := 3) rfl ?_
  refine g_iadd hX ?_
  refine g_sld hX hs hi3 ?_
  refine g_aload_n hX rfl ?_
  refine g_callW (d2 := 9) (n := 5) (av := [_, _, _, _, _]) hX rfl ⟨cw_L_turn, mU_1 0 rfl rfl, mU_4 150 rfl rfl, mU_4 151 rfl rfl, ⟨by decide, by decide, by decide +kernel⟩, rfl, (Nat.le_of_ble_eq_true rfl)⟩ ⟨(Nat.le_of_ble_eq_true rfl), (Nat.le_of_ble_eq_true rfl), hc.1, hc.2⟩ (Nat.le_of_ble_eq_true rfl) (pw_turn hl hw) rfl ?_
  refine g_istore hX (Nat.le_of_ble_eq_true rfl) rfl ?_
  refine g_aload_n hX rfl ?_
  refine g_aload_n hX rfl ?_
  refine g_iload hX rfl ?_
  refine g_iconst hX (v := 1) rfl ?_
  refine g_iadd hX ?_
  refine g_sld hX hs hi1 ?_
  refine g_aload_n hX rfl ?_
  refine g_iload hX rfl ?_
  refine g_iconst hX (v := 2) rfl ?_
  refine g_iadd hX ?_
  refine g_sld hX hs hi2 ?_
  refine g_aload_n hX rfl ?_
  refine g_iload hX rfl ?_
  refine g_iconst hX (v := 3) rfl ?_
  refine g_iadd hX ?_
  refine g_sld hX hs hi3 ?_
  refine g_call (d2 := 2) (as := [_, _, _]) hX ⟨mok_X11_turn, rfl, ⟨11, 0, gt_99, rfl⟩, ins_X11_turn, lkl_163⟩ ⟨(Nat.le_of_ble_eq_true rfl), (Nat.le_of_ble_eq_true rfl), hc2.1, hc2.2⟩ (Nat.le_of_ble_eq_true rfl) (pc_X11_turn_99 hl hg) rfl (st1 := [vI _]) (fun _ => rfl) ?_
  refine g_istore hX (Nat.le_of_ble_eq_true rfl) rfl ?_
  refine g_aload_n hX rfl ?_
  refine g_call (d2 := 0) (as := []) hX ⟨mok_X11_thrown, rfl, ⟨11, 0, gt_99, rfl⟩, ins_X11_thrown, lkl_139⟩ ⟨(Nat.le_of_ble_eq_true rfl), (Nat.le_of_ble_eq_true rfl), hc2.1, hc2.2⟩ (Nat.le_of_ble_eq_true rfl) (pc_X11_thrown_99 hl ht) rfl (st1 := [vI _]) (fun _ => rfl) ?_
  refine g_iload hX rfl ?_
  refine g_icmp_eqT hX 327 rfl rfl rfl ?_
  refine g_iload hX rfl ?_
  by_cases hk : k = 0
  · refine g_if_neF (tg := 691) hX rfl (fun n => n hk) ?_
    refine g_aload_n hX rfl ?_
    refine g_iconst hX (v := 0) rfl ?_
    refine g_lald hX gt_129 rfl ?_
    refine g_iload hX rfl ?_
    refine g_i2l hX ?_
    refine g_lcmp hX ?_
    refine g_if_eqT hX 338 rfl rfl (by first | exact (congrArg (fun z => lg_cmp z _) (hk2 hk)).trans (lg_cmp_self _) | exact lg_cmp_self _) ?_
    refine g_goto hX 1623 rfl rfl ?_
    exact g_fg kk ⟨Or.inr rfl, Or.inr rfl, Or.inr rfl, Or.inr rfl, Or.inr rfl, Or.inl rfl, Or.inl rfl, Or.inl rfl, trivial⟩
  · refine g_if_neT hX 338 rfl rfl hk ?_
    refine g_goto hX 1623 rfl rfl ?_
    exact g_fg kk ⟨Or.inr rfl, Or.inr rfl, Or.inr rfl, Or.inr rfl, Or.inr rfl, Or.inl rfl, Or.inl rfl, Or.inl rfl, trivial⟩
def c_8 (M : PM) (a1 : Int32) : Option PM := stepI (w_turned M a1) (fun M => F_X11_turned_99 M a1)
set_option maxRecDepth 100000 in
theorem case_8 {l : Launch} (hl : l.stackTraces = false) {X : GX} {cs : Nat × Nat} {L : Nat} {xs : Nat → Int32} {i : Int32} {M M' : PM} (hX : GOK Y_L_law_ X) (hs : SCR X L xs) (hc : cs.1 + 1 ≤ 601024 ∧ cs.2 + 6 ≤ 7293034) (hi1 : vp_in (i + 1) L) (h : c_8 M (xs (i + 1).toNatClampNeg) = some M') (kk : PG l room_1 Y_L_law_ X (cs.1 + 1, cs.2 + 6) k_L_law__2674 [vR 99999, vR 0, vR 99, vR 129, vI i, jk, jk, jk] [] M') : PG l room_1 Y_L_law_ X cs k_L_law__694 [vR 99999, vR 0, vR 99, vR 129, vI i, jk, jk, jk] [] M := by
  have hc0 : cs.1 ≤ 601024 ∧ cs.2 ≤ 7293034 := ⟨by omega, by omega⟩
  have hc2 : (cs.1 + 1, cs.2 + 6).1 ≤ 601024 ∧ (cs.1 + 1, cs.2 + 6).2 ≤ 7293034 := hc
  unfold c_8 at h
  obtain ⟨k, M1, b, M2, hw, hg, ht, hk2⟩ := stepI_inv h
  refine g_aload_n hX rfl ?_
  refine g_aload_n hX rfl ?_
  refine g_iload hX rfl ?_
  refine g_iconst hX (v := 1) rfl ?_
  refine g_iadd hX ?_
  refine g_sld hX hs hi1 ?_
  refine g_aload_n hX rfl ?_
  refine g_callW (d2 := 8) (n := 3) (av := [_, _, _]) hX rfl ⟨cw_L_turned, mU_1 0 rfl rfl, mU_4 162 rfl rfl, mU_4 163 rfl rfl, ⟨by decide, by decide, by decide +kernel⟩, rfl, (Nat.le_of_ble_eq_true rfl)⟩ ⟨(Nat.le_of_ble_eq_true rfl), (Nat.le_of_ble_eq_true rfl), hc.1, hc.2⟩ (Nat.le_of_ble_eq_true rfl) (pw_turned hl hw) rfl ?_
  refine g_istore hX (Nat.le_of_ble_eq_true rfl) rfl ?_
  refine g_aload_n hX rfl ?_
  refine g_aload_n hX rfl ?_
  refine g_iload hX rfl ?_
  refine g_iconst hX (v := 1) rfl ?_
  refine g_iadd hX ?_
  refine g_sld hX hs hi1 ?_
  refine g_call (d2 := 2) (as := [_]) hX ⟨mok_X11_turned, rfl, ⟨11, 0, gt_99, rfl⟩, ins_X11_turned, lkl_166⟩ ⟨(Nat.le_of_ble_eq_true rfl), (Nat.le_of_ble_eq_true rfl), hc2.1, hc2.2⟩ (Nat.le_of_ble_eq_true rfl) (pc_X11_turned_99 hl hg) rfl (st1 := [vI _]) (fun _ => rfl) ?_
  refine g_istore hX (Nat.le_of_ble_eq_true rfl) rfl ?_
  refine g_aload_n hX rfl ?_
  refine g_call (d2 := 0) (as := []) hX ⟨mok_X11_thrown, rfl, ⟨11, 0, gt_99, rfl⟩, ins_X11_thrown, lkl_139⟩ ⟨(Nat.le_of_ble_eq_true rfl), (Nat.le_of_ble_eq_true rfl), hc2.1, hc2.2⟩ (Nat.le_of_ble_eq_true rfl) (pc_X11_thrown_99 hl ht) rfl (st1 := [vI _]) (fun _ => rfl) ?_
  refine g_iload hX rfl ?_
  refine g_icmp_eqT hX 362 rfl rfl rfl ?_
  refine g_iload hX rfl ?_
  by_cases hk : k = 0
  · refine g_if_neF (tg := 747) hX rfl (fun n => n hk) ?_
    refine g_aload_n hX rfl ?_
    refine g_iconst hX (v := 0) rfl ?_
    refine g_lald hX gt_129 rfl ?_
    refine g_iload hX rfl ?_
    refine g_i2l hX ?_
    refine g_lcmp hX ?_
    refine g_if_eqT hX 373 rfl rfl (by first | exact (congrArg (fun z => lg_cmp z _) (hk2 hk)).trans (lg_cmp_self _) | exact lg_cmp_self _) ?_
    refine g_goto hX 1623 rfl rfl ?_
    exact g_fg kk ⟨Or.inr rfl, Or.inr rfl, Or.inr rfl, Or.inr rfl, Or.inr rfl, Or.inl rfl, Or.inl rfl, Or.inl rfl, trivial⟩
  · refine g_if_neT hX 373 rfl rfl hk ?_
    refine g_goto hX 1623 rfl rfl ?_
    exact g_fg kk ⟨Or.inr rfl, Or.inr rfl, Or.inr rfl, Or.inr rfl, Or.inr rfl, Or.inl rfl, Or.inl rfl, Or.inl rfl, trivial⟩
def c_9 (M : PM) (a1 : Int32) : Option PM := stepI (w_holds M a1) (fun M => F_X11_holds_99 M a1)
set_option maxRecDepth 100000 in
theorem case_9 {l : Launch} (hl : l.stackTraces = false) {X : GX} {cs : Nat × Nat} {L : Nat} {xs : Nat → Int32} {i : Int32} {M M' : PM} (hX : GOK Y_L_law_ X) (hs : SCR X L xs) (hc : cs.1 + 1 ≤ 601024 ∧ cs.2 + 6 ≤ 7293034) (hi1 : vp_in (i + 1) L) (h : c_9 M (xs (i + 1).toNatClampNeg) = some M') (kk : PG l room_1 Y_L_law_ X (cs.1 + 1, cs.2 + 6) k_L_law__2674 [vR 99999, vR 0, vR 99, vR 129, vI i, jk, jk, jk] [] M') : PG l room_1 Y_L_law_ X cs k_L_law__750 [vR 99999, vR 0, vR 99, vR 129, vI i, jk, jk, jk] [] M := by
  have hc0 : cs.1 ≤ 601024 ∧ cs.2 ≤ 7293034 := ⟨by omega, by omega⟩
  have hc2 : (cs.1 + 1, cs.2 + 6).1 ≤ 601024 ∧ (cs.1 + 1, cs.2 + 6).2 ≤ 7293034 := hc
  unfold c_9 at h
  obtain ⟨k, M1, b, M2, hw, hg, ht, hk2⟩ := stepI_inv h
  refine g_aload_n hX rfl ?_
  refine g_aload_n hX rfl ?_
  refine g_iload hX rfl ?_
  refine g_iconst hX (v := 1) rfl ?_
  refine g_iadd hX ?_
  refine g_sld hX hs hi1 ?_
  refine g_aload_n hX rfl ?_
  refine g_callW (d2 := 8) (n := 3) (av := [_, _, _]) hX rfl ⟨cw_L_holds, mU_1 0 rfl rfl, mU_4 195 rfl rfl, mU_4 196 rfl rfl, ⟨by decide, by decide, by decide +kernel⟩, rfl, (Nat.le_of_ble_eq_true rfl)⟩ ⟨(Nat.le_of_ble_eq_true rfl), (Nat.le_of_ble_eq_true rfl), hc.1, hc.2⟩ (Nat.le_of_ble_eq_true rfl) (pw_holds hl hw) rfl ?_
  refine g_istore hX (Nat.le_of_ble_eq_true rfl) rfl ?_
  refine g_aload_n hX rfl ?_
  refine g_aload_n hX rfl ?_
  refine g_iload hX rfl ?_
  refine g_iconst hX (v := 1) rfl ?_
  refine g_iadd hX ?_
  refine g_sld hX hs hi1 ?_
  refine g_call (d2 := 2) (as := [_]) hX ⟨mok_X11_holds, rfl, ⟨11, 0, gt_99, rfl⟩, ins_X11_holds, lkl_169⟩ ⟨(Nat.le_of_ble_eq_true rfl), (Nat.le_of_ble_eq_true rfl), hc2.1, hc2.2⟩ (Nat.le_of_ble_eq_true rfl) (pc_X11_holds_99 hl hg) rfl (st1 := [vI _]) (fun _ => rfl) ?_
  refine g_istore hX (Nat.le_of_ble_eq_true rfl) rfl ?_
  refine g_aload_n hX rfl ?_
  refine g_call (d2 := 0) (as := []) hX ⟨mok_X11_thrown, rfl, ⟨11, 0, gt_99, rfl⟩, ins_X11_thrown, lkl_139⟩ ⟨(Nat.le_of_ble_eq_true rfl), (Nat.le_of_ble_eq_true rfl), hc2.1, hc2.2⟩ (Nat.le_of_ble_eq_true rfl) (pc_X11_thrown_99 hl ht) rfl (st1 := [vI _]) (fun _ => rfl) ?_
  refine g_iload hX rfl ?_
  refine g_icmp_eqT hX 397 rfl rfl rfl ?_
  refine g_iload hX rfl ?_
  by_cases hk : k = 0
  · refine g_if_neF (tg := 803) hX rfl (fun n => n hk) ?_
    refine g_aload_n hX rfl ?_
    refine g_iconst hX (v := 0) rfl ?_
    refine g_lald hX gt_129 rfl ?_
    refine g_iload hX rfl ?_
    refine g_i2l hX ?_
    refine g_lcmp hX ?_
    refine g_if_eqT hX 408 rfl rfl (by first | exact (congrArg (fun z => lg_cmp z _) (hk2 hk)).trans (lg_cmp_self _) | exact lg_cmp_self _) ?_
    refine g_goto hX 1623 rfl rfl ?_
    exact g_fg kk ⟨Or.inr rfl, Or.inr rfl, Or.inr rfl, Or.inr rfl, Or.inr rfl, Or.inl rfl, Or.inl rfl, Or.inl rfl, trivial⟩
  · refine g_if_neT hX 408 rfl rfl hk ?_
    refine g_goto hX 1623 rfl rfl ?_
    exact g_fg kk ⟨Or.inr rfl, Or.inr rfl, Or.inr rfl, Or.inr rfl, Or.inr rfl, Or.inl rfl, Or.inl rfl, Or.inl rfl, trivial⟩
def c_10 (M : PM) (a1 : Int32) (a2 : Int32) : Option PM := stepI (w_inHouse M a1 a2) (fun M => F_X11_inHouse_99 M a1 a2)
set_option maxRecDepth 100000 in
theorem case_10 {l : Launch} (hl : l.stackTraces = false) {X : GX} {cs : Nat × Nat} {L : Nat} {xs : Nat → Int32} {i : Int32} {M M' : PM} (hX : GOK Y_L_law_ X) (hs : SCR X L xs) (hc : cs.1 + 1 ≤ 601024 ∧ cs.2 + 6 ≤ 7293034) (hi1 : vp_in (i + 1) L) (hi2 : vp_in (i + 2) L) (h : c_10 M (xs (i + 1).toNatClampNeg) (xs (i + 2).toNatClampNeg) = some M') (kk : PG l room_1 Y_L_law_ X (cs.1 + 1, cs.2 + 6) k_L_law__2674 [vR 99999, vR 0, vR 99, vR 129, vI i, jk, jk, jk] [] M') : PG l room_1 Y_L_law_ X cs k_L_law__806 [vR 99999, vR 0, vR 99, vR 129, vI i, jk, jk, jk] [] M := by
  have hc0 : cs.1 ≤ 601024 ∧ cs.2 ≤ 7293034 := ⟨by omega, by omega⟩
  have hc2 : (cs.1 + 1, cs.2 + 6).1 ≤ 601024 ∧ (cs.1 + 1, cs.2 + 6).2 ≤ 7293034 := hc
  unfold c_10 at h
  obtain ⟨k, M1, b, M2, hw, hg, ht, hk2⟩ := stepI_inv h
  refine g_aload_n hX rfl ?_
  refine g_aload_n hX rfl ?_
  refine g_iload hX rfl ?_
  refine g_iconst hX (v := 1) rfl ?_
  refine g_iadd hX ?_
  refine g_sld hX hs hi1 ?_
  refine g_aload_n hX rfl ?_
  refine g_iload hX rfl ?_
  refine g_iconst hX (v := 2) rfl ?_
  refine g_iadd hX ?_
  refine g_sld hX hs hi2 ?_
  refine g_aload_n hX rfl ?_
  refine g_callW (d2 := 9) (n := 4) (av := [_, _, _, _]) hX rfl ⟨cw_L_inHouse, mU_1 0 rfl rfl, mU_4 210 rfl rfl, mU_4 211 rfl rfl, ⟨by decide, by decide, by decide +kernel⟩, rfl, (Nat.le_of_ble_eq_true rfl)⟩ ⟨(Nat.le_of_ble_eq_true rfl), (Nat.le_of_ble_eq_true rfl), hc.1, hc.2⟩ (Nat.le_of_ble_eq_true rfl) (pw_inHouse hl hw) rfl ?_
  refine g_istore hX (Nat.le_of_ble_eq_true rfl) rfl ?_
  refine g_aload_n hX rfl ?_
  refine g_aload_n hX rfl ?_
  refine g_iload hX rfl ?_
  refine g_iconst hX (v := 1) rfl ?_
  refine g_iadd hX ?_
  refine g_sld hX hs hi1 ?_
  refine g_aload_n hX rfl ?_
  refine g_iload hX rfl ?_
  refine g_iconst hX (v := 2) rfl ?_
  refine g_iadd hX ?_
  refine g_sld hX hs hi2 ?_
  refine g_call (d2 := 2) (as := [_, _]) hX ⟨mok_X11_inHouse, rfl, ⟨11, 0, gt_99, rfl⟩, ins_X11_inHouse, lkl_172⟩ ⟨(Nat.le_of_ble_eq_true rfl), (Nat.le_of_ble_eq_true rfl), hc2.1, hc2.2⟩ (Nat.le_of_ble_eq_true rfl) (pc_X11_inHouse_99 hl hg) rfl (st1 := [vI _]) (fun _ => rfl) ?_
  refine g_istore hX (Nat.le_of_ble_eq_true rfl) rfl ?_
  refine g_aload_n hX rfl ?_
  refine g_call (d2 := 0) (as := []) hX ⟨mok_X11_thrown, rfl, ⟨11, 0, gt_99, rfl⟩, ins_X11_thrown, lkl_139⟩ ⟨(Nat.le_of_ble_eq_true rfl), (Nat.le_of_ble_eq_true rfl), hc2.1, hc2.2⟩ (Nat.le_of_ble_eq_true rfl) (pc_X11_thrown_99 hl ht) rfl (st1 := [vI _]) (fun _ => rfl) ?_
  refine g_iload hX rfl ?_
  refine g_icmp_eqT hX 442 rfl rfl rfl ?_
  refine g_iload hX rfl ?_
  by_cases hk : k = 0
  · refine g_if_neF (tg := 871) hX rfl (fun n => n hk) ?_
    refine g_aload_n hX rfl ?_
    refine g_iconst hX (v := 0) rfl ?_
    refine g_lald hX gt_129 rfl ?_
    refine g_iload hX rfl ?_
    refine g_i2l hX ?_
    refine g_lcmp hX ?_
    refine g_if_eqT hX 453 rfl rfl (by first | exact (congrArg (fun z => lg_cmp z _) (hk2 hk)).trans (lg_cmp_self _) | exact lg_cmp_self _) ?_
    refine g_goto hX 1623 rfl rfl ?_
    exact g_fg kk ⟨Or.inr rfl, Or.inr rfl, Or.inr rfl, Or.inr rfl, Or.inr rfl, Or.inl rfl, Or.inl rfl, Or.inl rfl, trivial⟩
  · refine g_if_neT hX 453 rfl rfl hk ?_
    refine g_goto hX 1623 rfl rfl ?_
    exact g_fg kk ⟨Or.inr rfl, Or.inr rfl, Or.inr rfl, Or.inr rfl, Or.inr rfl, Or.inl rfl, Or.inl rfl, Or.inl rfl, trivial⟩
def c_11 (M : PM) (a1 : Int32) : Option PM := stepI (w_clashes M a1) (fun M => F_X11_clashes_99 M a1)
set_option maxRecDepth 100000 in
theorem case_11 {l : Launch} (hl : l.stackTraces = false) {X : GX} {cs : Nat × Nat} {L : Nat} {xs : Nat → Int32} {i : Int32} {M M' : PM} (hX : GOK Y_L_law_ X) (hs : SCR X L xs) (hc : cs.1 + 1 ≤ 601024 ∧ cs.2 + 6 ≤ 7293034) (hi1 : vp_in (i + 1) L) (h : c_11 M (xs (i + 1).toNatClampNeg) = some M') (kk : PG l room_1 Y_L_law_ X (cs.1 + 1, cs.2 + 6) k_L_law__2674 [vR 99999, vR 0, vR 99, vR 129, vI i, jk, jk, jk] [] M') : PG l room_1 Y_L_law_ X cs k_L_law__874 [vR 99999, vR 0, vR 99, vR 129, vI i, jk, jk, jk] [] M := by
  have hc0 : cs.1 ≤ 601024 ∧ cs.2 ≤ 7293034 := ⟨by omega, by omega⟩
  have hc2 : (cs.1 + 1, cs.2 + 6).1 ≤ 601024 ∧ (cs.1 + 1, cs.2 + 6).2 ≤ 7293034 := hc
  unfold c_11 at h
  obtain ⟨k, M1, b, M2, hw, hg, ht, hk2⟩ := stepI_inv h
  refine g_aload_n hX rfl ?_
  refine g_aload_n hX rfl ?_
  refine g_iload hX rfl ?_
  refine g_iconst hX (v := 1) rfl ?_
  refine g_iadd hX ?_
  refine g_sld hX hs hi1 ?_
  refine g_aload_n hX rfl ?_
  refine g_callW (d2 := 8) (n := 3) (av := [_, _, _]) hX rfl ⟨cw_L_clashes, mU_1 0 rfl rfl, mU_4 221 rfl rfl, mU_4 222 rfl rfl, ⟨by decide, by decide, by decide +kernel⟩, rfl, (Nat.le_of_ble_eq_true rfl)⟩ ⟨(Nat.le_of_ble_eq_true rfl), (Nat.le_of_ble_eq_true rfl), hc.1, hc.2⟩ (Nat.le_of_ble_eq_true rfl) (pw_clashes hl hw) rfl ?_
  refine g_istore hX (Nat.le_of_ble_eq_true rfl) rfl ?_
  refine g_aload_n hX rfl ?_
  refine g_aload_n hX rfl ?_
  refine g_iload hX rfl ?_
  refine g_iconst hX (v := 1) rfl ?_
  refine g_iadd hX ?_
  refine g_sld hX hs hi1 ?_
  refine g_call (d2 := 2) (as := [_]) hX ⟨mok_X11_clashes, rfl, ⟨11, 0, gt_99, rfl⟩, ins_X11_clashes, lkl_175⟩ ⟨(Nat.le_of_ble_eq_true rfl), (Nat.le_of_ble_eq_true rfl), hc2.1, hc2.2⟩ (Nat.le_of_ble_eq_true rfl) (pc_X11_clashes_99 hl hg) rfl (st1 := [vI _]) (fun _ => rfl) ?_
  refine g_istore hX (Nat.le_of_ble_eq_true rfl) rfl ?_
  refine g_aload_n hX rfl ?_
  refine g_call (d2 := 0) (as := []) hX ⟨mok_X11_thrown, rfl, ⟨11, 0, gt_99, rfl⟩, ins_X11_thrown, lkl_139⟩ ⟨(Nat.le_of_ble_eq_true rfl), (Nat.le_of_ble_eq_true rfl), hc2.1, hc2.2⟩ (Nat.le_of_ble_eq_true rfl) (pc_X11_thrown_99 hl ht) rfl (st1 := [vI _]) (fun _ => rfl) ?_
  refine g_iload hX rfl ?_
  refine g_icmp_eqT hX 477 rfl rfl rfl ?_
  refine g_iload hX rfl ?_
  by_cases hk : k = 0
  · refine g_if_neF (tg := 927) hX rfl (fun n => n hk) ?_
    refine g_aload_n hX rfl ?_
    refine g_iconst hX (v := 0) rfl ?_
    refine g_lald hX gt_129 rfl ?_
    refine g_iload hX rfl ?_
    refine g_i2l hX ?_
    refine g_lcmp hX ?_
    refine g_if_eqT hX 488 rfl rfl (by first | exact (congrArg (fun z => lg_cmp z _) (hk2 hk)).trans (lg_cmp_self _) | exact lg_cmp_self _) ?_
    refine g_goto hX 1623 rfl rfl ?_
    exact g_fg kk ⟨Or.inr rfl, Or.inr rfl, Or.inr rfl, Or.inr rfl, Or.inr rfl, Or.inl rfl, Or.inl rfl, Or.inl rfl, trivial⟩
  · refine g_if_neT hX 488 rfl rfl hk ?_
    refine g_goto hX 1623 rfl rfl ?_
    exact g_fg kk ⟨Or.inr rfl, Or.inr rfl, Or.inr rfl, Or.inr rfl, Or.inr rfl, Or.inl rfl, Or.inl rfl, Or.inl rfl, trivial⟩
def c_12 (M : PM) (a1 : Int32) : Option PM := stepZ (w_such M a1) (fun M => F_X11_such_99 M a1)
set_option maxRecDepth 100000 in
theorem case_12 {l : Launch} (hl : l.stackTraces = false) {X : GX} {cs : Nat × Nat} {L : Nat} {xs : Nat → Int32} {i : Int32} {M M' : PM} (hX : GOK Y_L_law_ X) (hs : SCR X L xs) (hc : cs.1 + 1 ≤ 601024 ∧ cs.2 + 6 ≤ 7293034) (hi1 : vp_in (i + 1) L) (h : c_12 M (xs (i + 1).toNatClampNeg) = some M') (kk : PG l room_1 Y_L_law_ X (cs.1 + 1, cs.2 + 6) k_L_law__2674 [vR 99999, vR 0, vR 99, vR 129, vI i, jk, jk, jk] [] M') : PG l room_1 Y_L_law_ X cs k_L_law__930 [vR 99999, vR 0, vR 99, vR 129, vI i, jk, jk, jk] [] M := by
  have hc0 : cs.1 ≤ 601024 ∧ cs.2 ≤ 7293034 := ⟨by omega, by omega⟩
  have hc2 : (cs.1 + 1, cs.2 + 6).1 ≤ 601024 ∧ (cs.1 + 1, cs.2 + 6).2 ≤ 7293034 := hc
  unfold c_12 at h
  obtain ⟨k, M1, b, M2, hw, hg, ht, hk2⟩ := stepZ_inv h
  refine g_aload_n hX rfl ?_
  refine g_aload_n hX rfl ?_
  refine g_iload hX rfl ?_
  refine g_iconst hX (v := 1) rfl ?_
  refine g_iadd hX ?_
  refine g_sld hX hs hi1 ?_
  refine g_aload_n hX rfl ?_
  refine g_callW (d2 := 8) (n := 3) (av := [_, _, _]) hX rfl ⟨cw_L_such, mU_1 0 rfl rfl, mU_4 228 rfl rfl, mU_4 229 rfl rfl, ⟨by decide, by decide, by decide +kernel⟩, rfl, (Nat.le_of_ble_eq_true rfl)⟩ ⟨(Nat.le_of_ble_eq_true rfl), (Nat.le_of_ble_eq_true rfl), hc.1, hc.2⟩ (Nat.le_of_ble_eq_true rfl) (pw_such hl hw) rfl ?_
  refine g_istore hX (Nat.le_of_ble_eq_true rfl) rfl ?_
  refine g_aload_n hX rfl ?_
  refine g_aload_n hX rfl ?_
  refine g_iload hX rfl ?_
  refine g_iconst hX (v := 1) rfl ?_
  refine g_iadd hX ?_
  refine g_sld hX hs hi1 ?_
  refine g_call (d2 := 3) (as := [_]) hX ⟨mok_X11_such, rfl, ⟨11, 0, gt_99, rfl⟩, ins_X11_such, lkl_178⟩ ⟨(Nat.le_of_ble_eq_true rfl), (Nat.le_of_ble_eq_true rfl), hc2.1, hc2.2⟩ (Nat.le_of_ble_eq_true rfl) (pc_X11_such_99 hl hg) rfl (st1 := [vI _]) (fun _ => rfl) ?_
  refine g_istore hX (Nat.le_of_ble_eq_true rfl) rfl ?_
  refine g_aload_n hX rfl ?_
  refine g_call (d2 := 0) (as := []) hX ⟨mok_X11_thrown, rfl, ⟨11, 0, gt_99, rfl⟩, ins_X11_thrown, lkl_139⟩ ⟨(Nat.le_of_ble_eq_true rfl), (Nat.le_of_ble_eq_true rfl), hc2.1, hc2.2⟩ (Nat.le_of_ble_eq_true rfl) (pc_X11_thrown_99 hl ht) rfl (st1 := [vI _]) (fun _ => rfl) ?_
  refine g_iload hX rfl ?_
  refine g_icmp_eqT hX 512 rfl rfl rfl ?_
  refine g_iload hX rfl ?_
  by_cases hk : k = 0
  · refine g_if_neF (tg := 990) hX rfl (fun n => n hk) ?_
    refine g_aload_n hX rfl ?_
    refine g_iconst hX (v := 0) rfl ?_
    refine g_lald hX gt_129 rfl ?_
    refine g_iload hX rfl ?_
    by_cases hb : b = 0
    · refine g_if_eqT hX 521 rfl rfl hb ?_
      refine g_lconst hX (v := 0) rfl ?_
      refine g_lcmp hX ?_
      have hk3 := (hk2 hk).trans (if_pos hb)
      refine g_if_eqT hX 526 rfl rfl (by exact (congrArg (fun z => lg_cmp z _) hk3).trans (lg_cmp_self _)) ?_
      refine g_goto hX 1623 rfl rfl ?_
      exact g_fg kk ⟨Or.inr rfl, Or.inr rfl, Or.inr rfl, Or.inr rfl, Or.inr rfl, Or.inl rfl, Or.inl rfl, Or.inl rfl, trivial⟩
    · refine g_if_eqF (tg := 983) hX rfl hb ?_
      refine g_lconst hX (v := 1) rfl ?_
      refine g_goto hX 522 rfl rfl ?_
      refine g_lcmp hX ?_
      have hk3 := (hk2 hk).trans (if_neg hb)
      refine g_if_eqT hX 526 rfl rfl (by exact (congrArg (fun z => lg_cmp z _) hk3).trans (lg_cmp_self _)) ?_
      refine g_goto hX 1623 rfl rfl ?_
      exact g_fg kk ⟨Or.inr rfl, Or.inr rfl, Or.inr rfl, Or.inr rfl, Or.inr rfl, Or.inl rfl, Or.inl rfl, Or.inl rfl, trivial⟩
  · refine g_if_neT hX 526 rfl rfl hk ?_
    refine g_goto hX 1623 rfl rfl ?_
    exact g_fg kk ⟨Or.inr rfl, Or.inr rfl, Or.inr rfl, Or.inr rfl, Or.inr rfl, Or.inl rfl, Or.inl rfl, Or.inl rfl, trivial⟩
def c_13 (M : PM) (a1 : Int32) : Option PM := stepI (w_next M a1) (fun M => F_X11_next_99 M a1)
set_option maxRecDepth 100000 in
theorem case_13 {l : Launch} (hl : l.stackTraces = false) {X : GX} {cs : Nat × Nat} {L : Nat} {xs : Nat → Int32} {i : Int32} {M M' : PM} (hX : GOK Y_L_law_ X) (hs : SCR X L xs) (hc : cs.1 + 1 ≤ 601024 ∧ cs.2 + 6 ≤ 7293034) (hi1 : vp_in (i + 1) L) (h : c_13 M (xs (i + 1).toNatClampNeg) = some M') (kk : PG l room_1 Y_L_law_ X (cs.1 + 1, cs.2 + 6) k_L_law__2674 [vR 99999, vR 0, vR 99, vR 129, vI i, jk, jk, jk] [] M') : PG l room_1 Y_L_law_ X cs k_L_law__993 [vR 99999, vR 0, vR 99, vR 129, vI i, jk, jk, jk] [] M := by
  have hc0 : cs.1 ≤ 601024 ∧ cs.2 ≤ 7293034 := ⟨by omega, by omega⟩
  have hc2 : (cs.1 + 1, cs.2 + 6).1 ≤ 601024 ∧ (cs.1 + 1, cs.2 + 6).2 ≤ 7293034 := hc
  unfold c_13 at h
  obtain ⟨k, M1, b, M2, hw, hg, ht, hk2⟩ := stepI_inv h
  refine g_aload_n hX rfl ?_
  refine g_aload_n hX rfl ?_
  refine g_iload hX rfl ?_
  refine g_iconst hX (v := 1) rfl ?_
  refine g_iadd hX ?_
  refine g_sld hX hs hi1 ?_
  refine g_aload_n hX rfl ?_
  refine g_callW (d2 := 8) (n := 3) (av := [_, _, _]) hX rfl ⟨cw_L_next, mU_1 0 rfl rfl, mU_5 23 rfl rfl, mU_5 24 rfl rfl, ⟨by decide, by decide, by decide +kernel⟩, rfl, (Nat.le_of_ble_eq_true rfl)⟩ ⟨(Nat.le_of_ble_eq_true rfl), (Nat.le_of_ble_eq_true rfl), hc.1, hc.2⟩ (Nat.le_of_ble_eq_true rfl) (pw_next hl hw) rfl ?_
  refine g_istore hX (Nat.le_of_ble_eq_true rfl) rfl ?_
  refine g_aload_n hX rfl ?_
  refine g_aload_n hX rfl ?_
  refine g_iload hX rfl ?_
  refine g_iconst hX (v := 1) rfl ?_
  refine g_iadd hX ?_
  refine g_sld hX hs hi1 ?_
  refine g_call (d2 := 3) (as := [_]) hX ⟨mok_X11_next, rfl, ⟨11, 0, gt_99, rfl⟩, ins_X11_next, lkl_181⟩ ⟨(Nat.le_of_ble_eq_true rfl), (Nat.le_of_ble_eq_true rfl), hc2.1, hc2.2⟩ (Nat.le_of_ble_eq_true rfl) (pc_X11_next_99 hl hg) rfl (st1 := [vI _]) (fun _ => rfl) ?_
  refine g_istore hX (Nat.le_of_ble_eq_true rfl) rfl ?_
  refine g_aload_n hX rfl ?_
  refine g_call (d2 := 0) (as := []) hX ⟨mok_X11_thrown, rfl, ⟨11, 0, gt_99, rfl⟩, ins_X11_thrown, lkl_139⟩ ⟨(Nat.le_of_ble_eq_true rfl), (Nat.le_of_ble_eq_true rfl), hc2.1, hc2.2⟩ (Nat.le_of_ble_eq_true rfl) (pc_X11_thrown_99 hl ht) rfl (st1 := [vI _]) (fun _ => rfl) ?_
  refine g_iload hX rfl ?_
  refine g_icmp_eqT hX 550 rfl rfl rfl ?_
  refine g_iload hX rfl ?_
  by_cases hk : k = 0
  · refine g_if_neF (tg := 1046) hX rfl (fun n => n hk) ?_
    refine g_aload_n hX rfl ?_
    refine g_iconst hX (v := 0) rfl ?_
    refine g_lald hX gt_129 rfl ?_
    refine g_iload hX rfl ?_
    refine g_i2l hX ?_
    refine g_lcmp hX ?_
    refine g_if_eqT hX 561 rfl rfl (by first | exact (congrArg (fun z => lg_cmp z _) (hk2 hk)).trans (lg_cmp_self _) | exact lg_cmp_self _) ?_
    refine g_goto hX 1623 rfl rfl ?_
    exact g_fg kk ⟨Or.inr rfl, Or.inr rfl, Or.inr rfl, Or.inr rfl, Or.inr rfl, Or.inl rfl, Or.inl rfl, Or.inl rfl, trivial⟩
  · refine g_if_neT hX 561 rfl rfl hk ?_
    refine g_goto hX 1623 rfl rfl ?_
    exact g_fg kk ⟨Or.inr rfl, Or.inr rfl, Or.inr rfl, Or.inr rfl, Or.inr rfl, Or.inl rfl, Or.inl rfl, Or.inl rfl, trivial⟩
def c_14 (M : PM) (a1 : Int32) : Option PM := stepI (w_never M a1) (fun M => F_X11_never_99 M a1)
set_option maxRecDepth 100000 in
theorem case_14 {l : Launch} (hl : l.stackTraces = false) {X : GX} {cs : Nat × Nat} {L : Nat} {xs : Nat → Int32} {i : Int32} {M M' : PM} (hX : GOK Y_L_law_ X) (hs : SCR X L xs) (hc : cs.1 + 1 ≤ 601024 ∧ cs.2 + 6 ≤ 7293034) (hi1 : vp_in (i + 1) L) (h : c_14 M (xs (i + 1).toNatClampNeg) = some M') (kk : PG l room_1 Y_L_law_ X (cs.1 + 1, cs.2 + 6) k_L_law__2674 [vR 99999, vR 0, vR 99, vR 129, vI i, jk, jk, jk] [] M') : PG l room_1 Y_L_law_ X cs k_L_law__1049 [vR 99999, vR 0, vR 99, vR 129, vI i, jk, jk, jk] [] M := by
  have hc0 : cs.1 ≤ 601024 ∧ cs.2 ≤ 7293034 := ⟨by omega, by omega⟩
  have hc2 : (cs.1 + 1, cs.2 + 6).1 ≤ 601024 ∧ (cs.1 + 1, cs.2 + 6).2 ≤ 7293034 := hc
  unfold c_14 at h
  obtain ⟨k, M1, b, M2, hw, hg, ht, hk2⟩ := stepI_inv h
  refine g_aload_n hX rfl ?_
  refine g_aload_n hX rfl ?_
  refine g_iload hX rfl ?_
  refine g_iconst hX (v := 1) rfl ?_
  refine g_iadd hX ?_
  refine g_sld hX hs hi1 ?_
  refine g_aload_n hX rfl ?_
  refine g_callW (d2 := 9) (n := 3) (av := [_, _, _]) hX rfl ⟨cw_L_never, mU_1 0 rfl rfl, mU_5 63 rfl rfl, mU_5 64 rfl rfl, ⟨by decide, by decide, by decide +kernel⟩, rfl, (Nat.le_of_ble_eq_true rfl)⟩ ⟨(Nat.le_of_ble_eq_true rfl), (Nat.le_of_ble_eq_true rfl), hc.1, hc.2⟩ (Nat.le_of_ble_eq_true rfl) (pw_never hl hw) rfl ?_
  refine g_istore hX (Nat.le_of_ble_eq_true rfl) rfl ?_
  refine g_aload_n hX rfl ?_
  refine g_aload_n hX rfl ?_
  refine g_iload hX rfl ?_
  refine g_iconst hX (v := 1) rfl ?_
  refine g_iadd hX ?_
  refine g_sld hX hs hi1 ?_
  refine g_call (d2 := 4) (as := [_]) hX ⟨mok_X11_never, rfl, ⟨11, 0, gt_99, rfl⟩, ins_X11_never, lkl_184⟩ ⟨(Nat.le_of_ble_eq_true rfl), (Nat.le_of_ble_eq_true rfl), hc2.1, hc2.2⟩ (Nat.le_of_ble_eq_true rfl) (pc_X11_never_99 hl hg) rfl (st1 := [vI _]) (fun _ => rfl) ?_
  refine g_istore hX (Nat.le_of_ble_eq_true rfl) rfl ?_
  refine g_aload_n hX rfl ?_
  refine g_call (d2 := 0) (as := []) hX ⟨mok_X11_thrown, rfl, ⟨11, 0, gt_99, rfl⟩, ins_X11_thrown, lkl_139⟩ ⟨(Nat.le_of_ble_eq_true rfl), (Nat.le_of_ble_eq_true rfl), hc2.1, hc2.2⟩ (Nat.le_of_ble_eq_true rfl) (pc_X11_thrown_99 hl ht) rfl (st1 := [vI _]) (fun _ => rfl) ?_
  refine g_iload hX rfl ?_
  refine g_icmp_eqT hX 585 rfl rfl rfl ?_
  refine g_iload hX rfl ?_
  by_cases hk : k = 0
  · refine g_if_neF (tg := 1102) hX rfl (fun n => n hk) ?_
    refine g_aload_n hX rfl ?_
    refine g_iconst hX (v := 0) rfl ?_
    refine g_lald hX gt_129 rfl ?_
    refine g_iload hX rfl ?_
    refine g_i2l hX ?_
    refine g_lcmp hX ?_
    refine g_if_eqT hX 596 rfl rfl (by first | exact (congrArg (fun z => lg_cmp z _) (hk2 hk)).trans (lg_cmp_self _) | exact lg_cmp_self _) ?_
    refine g_goto hX 1623 rfl rfl ?_
    exact g_fg kk ⟨Or.inr rfl, Or.inr rfl, Or.inr rfl, Or.inr rfl, Or.inr rfl, Or.inl rfl, Or.inl rfl, Or.inl rfl, trivial⟩
  · refine g_if_neT hX 596 rfl rfl hk ?_
    refine g_goto hX 1623 rfl rfl ?_
    exact g_fg kk ⟨Or.inr rfl, Or.inr rfl, Or.inr rfl, Or.inr rfl, Or.inr rfl, Or.inl rfl, Or.inl rfl, Or.inl rfl, trivial⟩
def c_15 (M : PM) (a1 : Int32) : Option PM := stepI (w_together M a1) (fun M => F_X11_together_99 M a1)
set_option maxRecDepth 100000 in
theorem case_15 {l : Launch} (hl : l.stackTraces = false) {X : GX} {cs : Nat × Nat} {L : Nat} {xs : Nat → Int32} {i : Int32} {M M' : PM} (hX : GOK Y_L_law_ X) (hs : SCR X L xs) (hc : cs.1 + 1 ≤ 601024 ∧ cs.2 + 6 ≤ 7293034) (hi1 : vp_in (i + 1) L) (h : c_15 M (xs (i + 1).toNatClampNeg) = some M') (kk : PG l room_1 Y_L_law_ X (cs.1 + 1, cs.2 + 6) k_L_law__2674 [vR 99999, vR 0, vR 99, vR 129, vI i, jk, jk, jk] [] M') : PG l room_1 Y_L_law_ X cs k_L_law__1105 [vR 99999, vR 0, vR 99, vR 129, vI i, jk, jk, jk] [] M := by
  have hc0 : cs.1 ≤ 601024 ∧ cs.2 ≤ 7293034 := ⟨by omega, by omega⟩
  have hc2 : (cs.1 + 1, cs.2 + 6).1 ≤ 601024 ∧ (cs.1 + 1, cs.2 + 6).2 ≤ 7293034 := hc
  unfold c_15 at h
  obtain ⟨k, M1, b, M2, hw, hg, ht, hk2⟩ := stepI_inv h
  refine g_aload_n hX rfl ?_
  refine g_aload_n hX rfl ?_
  refine g_iload hX rfl ?_
  refine g_iconst hX (v := 1) rfl ?_
  refine g_iadd hX ?_
  refine g_sld hX hs hi1 ?_
  refine g_aload_n hX rfl ?_
  refine g_callW (d2 := 9) (n := 3) (av := [_, _, _]) hX rfl ⟨cw_L_together, mU_1 0 rfl rfl, mU_5 80 rfl rfl, mU_5 81 rfl rfl, ⟨by decide, by decide, by decide +kernel⟩, rfl, (Nat.le_of_ble_eq_true rfl)⟩ ⟨(Nat.le_of_ble_eq_true rfl), (Nat.le_of_ble_eq_true rfl), hc.1, hc.2⟩ (Nat.le_of_ble_eq_true rfl) (pw_together hl hw) rfl ?_
  refine g_istore hX (Nat.le_of_ble_eq_true rfl) rfl ?_
  refine g_aload_n hX rfl ?_
  refine g_aload_n hX rfl ?_
  refine g_iload hX rfl ?_
  refine g_iconst hX (v := 1) rfl ?_
  refine g_iadd hX ?_
  refine g_sld hX hs hi1 ?_
  refine g_call (d2 := 4) (as := [_]) hX ⟨mok_X11_together, rfl, ⟨11, 0, gt_99, rfl⟩, ins_X11_together, lkl_187⟩ ⟨(Nat.le_of_ble_eq_true rfl), (Nat.le_of_ble_eq_true rfl), hc2.1, hc2.2⟩ (Nat.le_of_ble_eq_true rfl) (pc_X11_together_99 hl hg) rfl (st1 := [vI _]) (fun _ => rfl) ?_
  refine g_istore hX (Nat.le_of_ble_eq_true rfl) rfl ?_
  refine g_aload_n hX rfl ?_
  refine g_call (d2 := 0) (as := []) hX ⟨mok_X11_thrown, rfl, ⟨11, 0, gt_99, rfl⟩, ins_X11_thrown, lkl_139⟩ ⟨(Nat.le_of_ble_eq_true rfl), (Nat.le_of_ble_eq_true rfl), hc2.1, hc2.2⟩ (Nat.le_of_ble_eq_true rfl) (pc_X11_thrown_99 hl ht) rfl (st1 := [vI _]) (fun _ => rfl) ?_
  refine g_iload hX rfl ?_
  refine g_icmp_eqT hX 620 rfl rfl rfl ?_
  refine g_iload hX rfl ?_
  by_cases hk : k = 0
  · refine g_if_neF (tg := 1158) hX rfl (fun n => n hk) ?_
    refine g_aload_n hX rfl ?_
    refine g_iconst hX (v := 0) rfl ?_
    refine g_lald hX gt_129 rfl ?_
    refine g_iload hX rfl ?_
    refine g_i2l hX ?_
    refine g_lcmp hX ?_
    refine g_if_eqT hX 631 rfl rfl (by first | exact (congrArg (fun z => lg_cmp z _) (hk2 hk)).trans (lg_cmp_self _) | exact lg_cmp_self _) ?_
    refine g_goto hX 1623 rfl rfl ?_
    exact g_fg kk ⟨Or.inr rfl, Or.inr rfl, Or.inr rfl, Or.inr rfl, Or.inr rfl, Or.inl rfl, Or.inl rfl, Or.inl rfl, trivial⟩
  · refine g_if_neT hX 631 rfl rfl hk ?_
    refine g_goto hX 1623 rfl rfl ?_
    exact g_fg kk ⟨Or.inr rfl, Or.inr rfl, Or.inr rfl, Or.inr rfl, Or.inr rfl, Or.inl rfl, Or.inl rfl, Or.inl rfl, trivial⟩
def c_16 (M : PM) (a1 : Int32) : Option PM := stepI (w_most M a1) (fun M => F_X11_most_99 M a1)
set_option maxRecDepth 100000 in
theorem case_16 {l : Launch} (hl : l.stackTraces = false) {X : GX} {cs : Nat × Nat} {L : Nat} {xs : Nat → Int32} {i : Int32} {M M' : PM} (hX : GOK Y_L_law_ X) (hs : SCR X L xs) (hc : cs.1 + 1 ≤ 601024 ∧ cs.2 + 6 ≤ 7293034) (hi1 : vp_in (i + 1) L) (h : c_16 M (xs (i + 1).toNatClampNeg) = some M') (kk : PG l room_1 Y_L_law_ X (cs.1 + 1, cs.2 + 6) k_L_law__2674 [vR 99999, vR 0, vR 99, vR 129, vI i, jk, jk, jk] [] M') : PG l room_1 Y_L_law_ X cs k_L_law__1161 [vR 99999, vR 0, vR 99, vR 129, vI i, jk, jk, jk] [] M := by
  have hc0 : cs.1 ≤ 601024 ∧ cs.2 ≤ 7293034 := ⟨by omega, by omega⟩
  have hc2 : (cs.1 + 1, cs.2 + 6).1 ≤ 601024 ∧ (cs.1 + 1, cs.2 + 6).2 ≤ 7293034 := hc
  unfold c_16 at h
  obtain ⟨k, M1, b, M2, hw, hg, ht, hk2⟩ := stepI_inv h
  refine g_aload_n hX rfl ?_
  refine g_aload_n hX rfl ?_
  refine g_iload hX rfl ?_
  refine g_iconst hX (v := 1) rfl ?_
  refine g_iadd hX ?_
  refine g_sld hX hs hi1 ?_
  refine g_aload_n hX rfl ?_
  refine g_callW (d2 := 9) (n := 3) (av := [_, _, _]) hX rfl ⟨cw_L_most, mU_1 0 rfl rfl, mU_5 92 rfl rfl, mU_5 93 rfl rfl, ⟨by decide, by decide, by decide +kernel⟩, rfl, (Nat.le_of_ble_eq_true rfl)⟩ ⟨(Nat.le_of_ble_eq_true rfl), (Nat.le_of_ble_eq_true rfl), hc.1, hc.2⟩ (Nat.le_of_ble_eq_true rfl) (pw_most hl hw) rfl ?_
  refine g_istore hX (Nat.le_of_ble_eq_true rfl) rfl ?_
  refine g_aload_n hX rfl ?_
  refine g_aload_n hX rfl ?_
  refine g_iload hX rfl ?_
  refine g_iconst hX (v := 1) rfl ?_
  refine g_iadd hX ?_
  refine g_sld hX hs hi1 ?_
  refine g_call (d2 := 4) (as := [_]) hX ⟨mok_X11_most, rfl, ⟨11, 0, gt_99, rfl⟩, ins_X11_most, lkl_190⟩ ⟨(Nat.le_of_ble_eq_true rfl), (Nat.le_of_ble_eq_true rfl), hc2.1, hc2.2⟩ (Nat.le_of_ble_eq_true rfl) (pc_X11_most_99 hl hg) rfl (st1 := [vI _]) (fun _ => rfl) ?_
  refine g_istore hX (Nat.le_of_ble_eq_true rfl) rfl ?_
  refine g_aload_n hX rfl ?_
  refine g_call (d2 := 0) (as := []) hX ⟨mok_X11_thrown, rfl, ⟨11, 0, gt_99, rfl⟩, ins_X11_thrown, lkl_139⟩ ⟨(Nat.le_of_ble_eq_true rfl), (Nat.le_of_ble_eq_true rfl), hc2.1, hc2.2⟩ (Nat.le_of_ble_eq_true rfl) (pc_X11_thrown_99 hl ht) rfl (st1 := [vI _]) (fun _ => rfl) ?_
  refine g_iload hX rfl ?_
  refine g_icmp_eqT hX 655 rfl rfl rfl ?_
  refine g_iload hX rfl ?_
  by_cases hk : k = 0
  · refine g_if_neF (tg := 1214) hX rfl (fun n => n hk) ?_
    refine g_aload_n hX rfl ?_
    refine g_iconst hX (v := 0) rfl ?_
    refine g_lald hX gt_129 rfl ?_
    refine g_iload hX rfl ?_
    refine g_i2l hX ?_
    refine g_lcmp hX ?_
    refine g_if_eqT hX 666 rfl rfl (by first | exact (congrArg (fun z => lg_cmp z _) (hk2 hk)).trans (lg_cmp_self _) | exact lg_cmp_self _) ?_
    refine g_goto hX 1623 rfl rfl ?_
    exact g_fg kk ⟨Or.inr rfl, Or.inr rfl, Or.inr rfl, Or.inr rfl, Or.inr rfl, Or.inl rfl, Or.inl rfl, Or.inl rfl, trivial⟩
  · refine g_if_neT hX 666 rfl rfl hk ?_
    refine g_goto hX 1623 rfl rfl ?_
    exact g_fg kk ⟨Or.inr rfl, Or.inr rfl, Or.inr rfl, Or.inr rfl, Or.inr rfl, Or.inl rfl, Or.inl rfl, Or.inl rfl, trivial⟩
def c_17 (M : PM) (a1 : Int32) : Option PM := stepI (w_count M a1) (fun M => F_X11_count_99 M a1)
set_option maxRecDepth 100000 in
theorem case_17 {l : Launch} (hl : l.stackTraces = false) {X : GX} {cs : Nat × Nat} {L : Nat} {xs : Nat → Int32} {i : Int32} {M M' : PM} (hX : GOK Y_L_law_ X) (hs : SCR X L xs) (hc : cs.1 + 1 ≤ 601024 ∧ cs.2 + 6 ≤ 7293034) (hi1 : vp_in (i + 1) L) (h : c_17 M (xs (i + 1).toNatClampNeg) = some M') (kk : PG l room_1 Y_L_law_ X (cs.1 + 1, cs.2 + 6) k_L_law__2674 [vR 99999, vR 0, vR 99, vR 129, vI i, jk, jk, jk] [] M') : PG l room_1 Y_L_law_ X cs k_L_law__1217 [vR 99999, vR 0, vR 99, vR 129, vI i, jk, jk, jk] [] M := by
  have hc0 : cs.1 ≤ 601024 ∧ cs.2 ≤ 7293034 := ⟨by omega, by omega⟩
  have hc2 : (cs.1 + 1, cs.2 + 6).1 ≤ 601024 ∧ (cs.1 + 1, cs.2 + 6).2 ≤ 7293034 := hc
  unfold c_17 at h
  obtain ⟨k, M1, b, M2, hw, hg, ht, hk2⟩ := stepI_inv h
  refine g_aload_n hX rfl ?_
  refine g_aload_n hX rfl ?_
  refine g_iload hX rfl ?_
  refine g_iconst hX (v := 1) rfl ?_
  refine g_iadd hX ?_
  refine g_sld hX hs hi1 ?_
  refine g_aload_n hX rfl ?_
  refine g_callW (d2 := 8) (n := 3) (av := [_, _, _]) hX rfl ⟨cw_L_count, mU_1 0 rfl rfl, mU_5 115 rfl rfl, mU_5 116 rfl rfl, ⟨by decide, by decide, by decide +kernel⟩, rfl, (Nat.le_of_ble_eq_true rfl)⟩ ⟨(Nat.le_of_ble_eq_true rfl), (Nat.le_of_ble_eq_true rfl), hc.1, hc.2⟩ (Nat.le_of_ble_eq_true rfl) (pw_count hl hw) rfl ?_
  refine g_istore hX (Nat.le_of_ble_eq_true rfl) rfl ?_
  refine g_aload_n hX rfl ?_
  refine g_aload_n hX rfl ?_
  refine g_iload hX rfl ?_
  refine g_iconst hX (v := 1) rfl ?_
  refine g_iadd hX ?_
  refine g_sld hX hs hi1 ?_
  refine g_call (d2 := 2) (as := [_]) hX ⟨mok_X11_count, rfl, ⟨11, 0, gt_99, rfl⟩, ins_X11_count, lkl_193⟩ ⟨(Nat.le_of_ble_eq_true rfl), (Nat.le_of_ble_eq_true rfl), hc2.1, hc2.2⟩ (Nat.le_of_ble_eq_true rfl) (pc_X11_count_99 hl hg) rfl (st1 := [vI _]) (fun _ => rfl) ?_
  refine g_istore hX (Nat.le_of_ble_eq_true rfl) rfl ?_
  refine g_aload_n hX rfl ?_
  refine g_call (d2 := 0) (as := []) hX ⟨mok_X11_thrown, rfl, ⟨11, 0, gt_99, rfl⟩, ins_X11_thrown, lkl_139⟩ ⟨(Nat.le_of_ble_eq_true rfl), (Nat.le_of_ble_eq_true rfl), hc2.1, hc2.2⟩ (Nat.le_of_ble_eq_true rfl) (pc_X11_thrown_99 hl ht) rfl (st1 := [vI _]) (fun _ => rfl) ?_
  refine g_iload hX rfl ?_
  refine g_icmp_eqT hX 690 rfl rfl rfl ?_
  refine g_iload hX rfl ?_
  by_cases hk : k = 0
  · refine g_if_neF (tg := 1270) hX rfl (fun n => n hk) ?_
    refine g_aload_n hX rfl ?_
    refine g_iconst hX (v := 0) rfl ?_
    refine g_lald hX gt_129 rfl ?_
    refine g_iload hX rfl ?_
    refine g_i2l hX ?_
    refine g_lcmp hX ?_
    refine g_if_eqT hX 701 rfl rfl (by first | exact (congrArg (fun z => lg_cmp z _) (hk2 hk)).trans (lg_cmp_self _) | exact lg_cmp_self _) ?_
    refine g_goto hX 1623 rfl rfl ?_
    exact g_fg kk ⟨Or.inr rfl, Or.inr rfl, Or.inr rfl, Or.inr rfl, Or.inr rfl, Or.inl rfl, Or.inl rfl, Or.inl rfl, trivial⟩
  · refine g_if_neT hX 701 rfl rfl hk ?_
    refine g_goto hX 1623 rfl rfl ?_
    exact g_fg kk ⟨Or.inr rfl, Or.inr rfl, Or.inr rfl, Or.inr rfl, Or.inr rfl, Or.inl rfl, Or.inl rfl, Or.inl rfl, trivial⟩
def c_18 (M : PM) (a1 : Int32) (a2 : Int32) : Option PM := stepI (w_row M a1 a2) (fun M => F_X11_row_99 M a1 a2)
set_option maxRecDepth 100000 in
theorem case_18 {l : Launch} (hl : l.stackTraces = false) {X : GX} {cs : Nat × Nat} {L : Nat} {xs : Nat → Int32} {i : Int32} {M M' : PM} (hX : GOK Y_L_law_ X) (hs : SCR X L xs) (hc : cs.1 + 1 ≤ 601024 ∧ cs.2 + 6 ≤ 7293034) (hi1 : vp_in (i + 1) L) (hi2 : vp_in (i + 2) L) (h : c_18 M (xs (i + 1).toNatClampNeg) (xs (i + 2).toNatClampNeg) = some M') (kk : PG l room_1 Y_L_law_ X (cs.1 + 1, cs.2 + 6) k_L_law__2674 [vR 99999, vR 0, vR 99, vR 129, vI i, jk, jk, jk] [] M') : PG l room_1 Y_L_law_ X cs k_L_law__1273 [vR 99999, vR 0, vR 99, vR 129, vI i, jk, jk, jk] [] M := by
  have hc0 : cs.1 ≤ 601024 ∧ cs.2 ≤ 7293034 := ⟨by omega, by omega⟩
  have hc2 : (cs.1 + 1, cs.2 + 6).1 ≤ 601024 ∧ (cs.1 + 1, cs.2 + 6).2 ≤ 7293034 := hc
  unfold c_18 at h
  obtain ⟨k, M1, b, M2, hw, hg, ht, hk2⟩ := stepI_inv h
  refine g_aload_n hX rfl ?_
  refine g_aload_n hX rfl ?_
  refine g_iload hX rfl ?_
  refine g_iconst hX (v := 1) rfl ?_
  refine g_iadd hX ?_
  refine g_sld hX hs hi1 ?_
  refine g_aload_n hX rfl ?_
  refine g_iload hX rfl ?_
  refine g_iconst hX (v := 2) rfl ?_
  refine g_iadd hX ?_
  refine g_sld hX hs hi2 ?_
  refine g_aload_n hX rfl ?_
  refine g_callW (d2 := 8) (n := 4) (av := [_, _, _, _]) hX rfl ⟨cw_L_row, mU_1 0 rfl rfl, mU_5 125 rfl rfl, mU_5 126 rfl rfl, ⟨by decide, by decide, by decide +kernel⟩, rfl, (Nat.le_of_ble_eq_true rfl)⟩ ⟨(Nat.le_of_ble_eq_true rfl), (Nat.le_of_ble_eq_true rfl), hc.1, hc.2⟩ (Nat.le_of_ble_eq_true rfl) (pw_row hl hw) rfl ?_
  refine g_istore hX (Nat.le_of_ble_eq_true rfl) rfl ?_
  refine g_aload_n hX rfl ?_
  refine g_aload_n hX rfl ?_
  refine g_iload hX rfl ?_
  refine g_iconst hX (v := 1) rfl ?_
  refine g_iadd hX ?_
  refine g_sld hX hs hi1 ?_
  refine g_aload_n hX rfl ?_
  refine g_iload hX rfl ?_
  refine g_iconst hX (v := 2) rfl ?_
  refine g_iadd hX ?_
  refine g_sld hX hs hi2 ?_
  refine g_call (d2 := 2) (as := [_, _]) hX ⟨mok_X11_row, rfl, ⟨11, 0, gt_99, rfl⟩, ins_X11_row, lkl_196⟩ ⟨(Nat.le_of_ble_eq_true rfl), (Nat.le_of_ble_eq_true rfl), hc2.1, hc2.2⟩ (Nat.le_of_ble_eq_true rfl) (pc_X11_row_99 hl hg) rfl (st1 := [vI _]) (fun _ => rfl) ?_
  refine g_istore hX (Nat.le_of_ble_eq_true rfl) rfl ?_
  refine g_aload_n hX rfl ?_
  refine g_call (d2 := 0) (as := []) hX ⟨mok_X11_thrown, rfl, ⟨11, 0, gt_99, rfl⟩, ins_X11_thrown, lkl_139⟩ ⟨(Nat.le_of_ble_eq_true rfl), (Nat.le_of_ble_eq_true rfl), hc2.1, hc2.2⟩ (Nat.le_of_ble_eq_true rfl) (pc_X11_thrown_99 hl ht) rfl (st1 := [vI _]) (fun _ => rfl) ?_
  refine g_iload hX rfl ?_
  refine g_icmp_eqT hX 735 rfl rfl rfl ?_
  refine g_iload hX rfl ?_
  by_cases hk : k = 0
  · refine g_if_neF (tg := 1338) hX rfl (fun n => n hk) ?_
    refine g_aload_n hX rfl ?_
    refine g_iconst hX (v := 0) rfl ?_
    refine g_lald hX gt_129 rfl ?_
    refine g_iload hX rfl ?_
    refine g_i2l hX ?_
    refine g_lcmp hX ?_
    refine g_if_eqT hX 746 rfl rfl (by first | exact (congrArg (fun z => lg_cmp z _) (hk2 hk)).trans (lg_cmp_self _) | exact lg_cmp_self _) ?_
    refine g_goto hX 1623 rfl rfl ?_
    exact g_fg kk ⟨Or.inr rfl, Or.inr rfl, Or.inr rfl, Or.inr rfl, Or.inr rfl, Or.inl rfl, Or.inl rfl, Or.inl rfl, trivial⟩
  · refine g_if_neT hX 746 rfl rfl hk ?_
    refine g_goto hX 1623 rfl rfl ?_
    exact g_fg kk ⟨Or.inr rfl, Or.inr rfl, Or.inr rfl, Or.inr rfl, Or.inr rfl, Or.inl rfl, Or.inl rfl, Or.inl rfl, trivial⟩
def c_19 (M : PM) (a1 : Int32) (a2 : Int32) (a3 : Int32) : Option PM := stepI (w_free M a1 a2 a3) (fun M => F_X11_free_99 M a1 a2 a3)
set_option maxRecDepth 100000 in
theorem case_19 {l : Launch} (hl : l.stackTraces = false) {X : GX} {cs : Nat × Nat} {L : Nat} {xs : Nat → Int32} {i : Int32} {M M' : PM} (hX : GOK Y_L_law_ X) (hs : SCR X L xs) (hc : cs.1 + 1 ≤ 601024 ∧ cs.2 + 6 ≤ 7293034) (hi1 : vp_in (i + 1) L) (hi2 : vp_in (i + 2) L) (hi3 : vp_in (i + 3) L) (h : c_19 M (xs (i + 1).toNatClampNeg) (xs (i + 2).toNatClampNeg) (xs (i + 3).toNatClampNeg) = some M') (kk : PG l room_1 Y_L_law_ X (cs.1 + 1, cs.2 + 6) k_L_law__2674 [vR 99999, vR 0, vR 99, vR 129, vI i, jk, jk, jk] [] M') : PG l room_1 Y_L_law_ X cs k_L_law__1341 [vR 99999, vR 0, vR 99, vR 129, vI i, jk, jk, jk] [] M := by
  have hc0 : cs.1 ≤ 601024 ∧ cs.2 ≤ 7293034 := ⟨by omega, by omega⟩
  have hc2 : (cs.1 + 1, cs.2 + 6).1 ≤ 601024 ∧ (cs.1 + 1, cs.2 + 6).2 ≤ 7293034 := hc
  unfold c_19 at h
  obtain ⟨k, M1, b, M2, hw, hg, ht, hk2⟩ := stepI_inv h
  refine g_aload_n hX rfl ?_
  refine g_aload_n hX rfl ?_
  refine g_iload hX rfl ?_
  refine g_iconst hX (v := 1) rfl ?_
  refine g_iadd hX ?_
  refine g_sld hX hs hi1 ?_
  refine g_aload_n hX rfl ?_
  refine g_iload hX rfl ?_
  refine g_iconst hX (v := 2) rfl ?_
  refine g_iadd hX ?_
  refine g_sld hX hs hi2 ?_
  refine g_aload_n hX rfl ?_
  refine g_iload hX rfl ?_
  refine g_iconst hX (v := 3) rfl ?_
  refine g_iadd hX ?_
  refine g_sld hX hs hi3 ?_
  refine g_aload_n hX rfl ?_
  refine g_callW (d2 := 9) (n := 5) (av := [_, _, _, _, _]) hX rfl ⟨cw_L_free, mU_1 0 rfl rfl, mU_5 158 rfl rfl, mU_5 159 rfl rfl, ⟨by decide, by decide, by decide +kernel⟩, rfl, (Nat.le_of_ble_eq_true rfl)⟩ ⟨(Nat.le_of_ble_eq_true rfl), (Nat.le_of_ble_eq_true rfl), hc.1, hc.2⟩ (Nat.le_of_ble_eq_true rfl) (pw_free hl hw) rfl ?_
  refine g_istore hX (Nat.le_of_ble_eq_true rfl) rfl ?_
  refine g_aload_n hX rfl ?_
  refine g_aload_n hX rfl ?_
  refine g_iload hX rfl ?_
  refine g_iconst hX (v := 1) rfl ?_
  refine g_iadd hX ?_
  refine g_sld hX hs hi1 ?_
  refine g_aload_n hX rfl ?_
  refine g_iload hX rfl ?_
  refine g_iconst hX (v := 2) rfl ?_
  refine g_iadd hX ?_
  refine g_sld hX hs hi2 ?_
  refine g_aload_n hX rfl ?_
  refine g_iload hX rfl ?_
  refine g_iconst hX (v := 3) rfl ?_
  refine g_iadd hX ?_
  refine g_sld hX hs hi3 ?_
  refine g_call (d2 := 2) (as := [_, _, _]) hX ⟨mok_X11_free, rfl, ⟨11, 0, gt_99, rfl⟩, ins_X11_free, lkl_199⟩ ⟨(Nat.le_of_ble_eq_true rfl), (Nat.le_of_ble_eq_true rfl), hc2.1, hc2.2⟩ (Nat.le_of_ble_eq_true rfl) (pc_X11_free_99 hl hg) rfl (st1 := [vI _]) (fun _ => rfl) ?_
  refine g_istore hX (Nat.le_of_ble_eq_true rfl) rfl ?_
  refine g_aload_n hX rfl ?_
  refine g_call (d2 := 0) (as := []) hX ⟨mok_X11_thrown, rfl, ⟨11, 0, gt_99, rfl⟩, ins_X11_thrown, lkl_139⟩ ⟨(Nat.le_of_ble_eq_true rfl), (Nat.le_of_ble_eq_true rfl), hc2.1, hc2.2⟩ (Nat.le_of_ble_eq_true rfl) (pc_X11_thrown_99 hl ht) rfl (st1 := [vI _]) (fun _ => rfl) ?_
  refine g_iload hX rfl ?_
  refine g_icmp_eqT hX 790 rfl rfl rfl ?_
  refine g_iload hX rfl ?_
  by_cases hk : k = 0
  · refine g_if_neF (tg := 1418) hX rfl (fun n => n hk) ?_
    refine g_aload_n hX rfl ?_
    refine g_iconst hX (v := 0) rfl ?_
    refine g_lald hX gt_129 rfl ?_
    refine g_iload hX rfl ?_
    refine g_i2l hX ?_
    refine g_lcmp hX ?_
    refine g_if_eqT hX 801 rfl rfl (by first | exact (congrArg (fun z => lg_cmp z _) (hk2 hk)).trans (lg_cmp_self _) | exact lg_cmp_self _) ?_
    refine g_goto hX 1623 rfl rfl ?_
    exact g_fg kk ⟨Or.inr rfl, Or.inr rfl, Or.inr rfl, Or.inr rfl, Or.inr rfl, Or.inl rfl, Or.inl rfl, Or.inl rfl, trivial⟩
  · refine g_if_neT hX 801 rfl rfl hk ?_
    refine g_goto hX 1623 rfl rfl ?_
    exact g_fg kk ⟨Or.inr rfl, Or.inr rfl, Or.inr rfl, Or.inr rfl, Or.inr rfl, Or.inl rfl, Or.inl rfl, Or.inl rfl, trivial⟩
def c_20 (M : PM) (a1 : Int32) : Option PM := stepI (w_meeting M a1) (fun M => F_X11_meeting_99 M a1)
set_option maxRecDepth 100000 in
theorem case_20 {l : Launch} (hl : l.stackTraces = false) {X : GX} {cs : Nat × Nat} {L : Nat} {xs : Nat → Int32} {i : Int32} {M M' : PM} (hX : GOK Y_L_law_ X) (hs : SCR X L xs) (hc : cs.1 + 1 ≤ 601024 ∧ cs.2 + 6 ≤ 7293034) (hi1 : vp_in (i + 1) L) (h : c_20 M (xs (i + 1).toNatClampNeg) = some M') (kk : PG l room_1 Y_L_law_ X (cs.1 + 1, cs.2 + 6) k_L_law__2674 [vR 99999, vR 0, vR 99, vR 129, vI i, jk, jk, jk] [] M') : PG l room_1 Y_L_law_ X cs k_L_law__1421 [vR 99999, vR 0, vR 99, vR 129, vI i, jk, jk, jk] [] M := by
  have hc0 : cs.1 ≤ 601024 ∧ cs.2 ≤ 7293034 := ⟨by omega, by omega⟩
  have hc2 : (cs.1 + 1, cs.2 + 6).1 ≤ 601024 ∧ (cs.1 + 1, cs.2 + 6).2 ≤ 7293034 := hc
  unfold c_20 at h
  obtain ⟨k, M1, b, M2, hw, hg, ht, hk2⟩ := stepI_inv h
  refine g_aload_n hX rfl ?_
  refine g_aload_n hX rfl ?_
  refine g_iload hX rfl ?_
  refine g_iconst hX (v := 1) rfl ?_
  refine g_iadd hX ?_
  refine g_sld hX hs hi1 ?_
  refine g_aload_n hX rfl ?_
  refine g_callW (d2 := 9) (n := 3) (av := [_, _, _]) hX rfl ⟨cw_L_meeting, mU_1 0 rfl rfl, mU_5 174 rfl rfl, mU_5 175 rfl rfl, ⟨by decide, by decide, by decide +kernel⟩, rfl, (Nat.le_of_ble_eq_true rfl)⟩ ⟨(Nat.le_of_ble_eq_true rfl), (Nat.le_of_ble_eq_true rfl), hc.1, hc.2⟩ (Nat.le_of_ble_eq_true rfl) (pw_meeting hl hw) rfl ?_
  refine g_istore hX (Nat.le_of_ble_eq_true rfl) rfl ?_
  refine g_aload_n hX rfl ?_
  refine g_aload_n hX rfl ?_
  refine g_iload hX rfl ?_
  refine g_iconst hX (v := 1) rfl ?_
  refine g_iadd hX ?_
  refine g_sld hX hs hi1 ?_
  refine g_call (d2 := 3) (as := [_]) hX ⟨mok_X11_meeting, rfl, ⟨11, 0, gt_99, rfl⟩, ins_X11_meeting, lkl_202⟩ ⟨(Nat.le_of_ble_eq_true rfl), (Nat.le_of_ble_eq_true rfl), hc2.1, hc2.2⟩ (Nat.le_of_ble_eq_true rfl) (pc_X11_meeting_99 hl hg) rfl (st1 := [vI _]) (fun _ => rfl) ?_
  refine g_istore hX (Nat.le_of_ble_eq_true rfl) rfl ?_
  refine g_aload_n hX rfl ?_
  refine g_call (d2 := 0) (as := []) hX ⟨mok_X11_thrown, rfl, ⟨11, 0, gt_99, rfl⟩, ins_X11_thrown, lkl_139⟩ ⟨(Nat.le_of_ble_eq_true rfl), (Nat.le_of_ble_eq_true rfl), hc2.1, hc2.2⟩ (Nat.le_of_ble_eq_true rfl) (pc_X11_thrown_99 hl ht) rfl (st1 := [vI _]) (fun _ => rfl) ?_
  refine g_iload hX rfl ?_
  refine g_icmp_eqT hX 825 rfl rfl rfl ?_
  refine g_iload hX rfl ?_
  by_cases hk : k = 0
  · refine g_if_neF (tg := 1474) hX rfl (fun n => n hk) ?_
    refine g_aload_n hX rfl ?_
    refine g_iconst hX (v := 0) rfl ?_
    refine g_lald hX gt_129 rfl ?_
    refine g_iload hX rfl ?_
    refine g_i2l hX ?_
    refine g_lcmp hX ?_
    refine g_if_eqT hX 836 rfl rfl (by first | exact (congrArg (fun z => lg_cmp z _) (hk2 hk)).trans (lg_cmp_self _) | exact lg_cmp_self _) ?_
    refine g_goto hX 1623 rfl rfl ?_
    exact g_fg kk ⟨Or.inr rfl, Or.inr rfl, Or.inr rfl, Or.inr rfl, Or.inr rfl, Or.inl rfl, Or.inl rfl, Or.inl rfl, trivial⟩
  · refine g_if_neT hX 836 rfl rfl hk ?_
    refine g_goto hX 1623 rfl rfl ?_
    exact g_fg kk ⟨Or.inr rfl, Or.inr rfl, Or.inr rfl, Or.inr rfl, Or.inr rfl, Or.inl rfl, Or.inl rfl, Or.inl rfl, trivial⟩
def c_21 (M : PM) (a1 : Int32) (a2 : Int32) (a3 : Int32) : Option PM := stepJ (w_weeks M ((a1.toInt64 <<< ((32 : Int32).toInt64 &&& 63)) ||| (a2.toInt64 &&& 4294967295)) a3) (fun M => F_X11_weeks_99 M ((a1.toInt64 <<< ((32 : Int32).toInt64 &&& 63)) ||| (a2.toInt64 &&& 4294967295)) a3)
set_option maxRecDepth 100000 in
theorem case_21 {l : Launch} (hl : l.stackTraces = false) {X : GX} {cs : Nat × Nat} {L : Nat} {xs : Nat → Int32} {i : Int32} {M M' : PM} (hX : GOK Y_L_law_ X) (hs : SCR X L xs) (hc : cs.1 + 1 ≤ 601024 ∧ cs.2 + 6 ≤ 7293034) (hi1 : vp_in (i + 1) L) (hi2 : vp_in (i + 2) L) (hi3 : vp_in (i + 3) L) (h : c_21 M (xs (i + 1).toNatClampNeg) (xs (i + 2).toNatClampNeg) (xs (i + 3).toNatClampNeg) = some M') (kk : PG l room_1 Y_L_law_ X (cs.1 + 1, cs.2 + 6) k_L_law__2674 [vR 99999, vR 0, vR 99, vR 129, vI i, jk, jk, jk] [] M') : PG l room_1 Y_L_law_ X cs k_L_law__1477 [vR 99999, vR 0, vR 99, vR 129, vI i, jk, jk, jk] [] M := by
  have hc0 : cs.1 ≤ 601024 ∧ cs.2 ≤ 7293034 := ⟨by omega, by omega⟩
  have hc2 : (cs.1 + 1, cs.2 + 6).1 ≤ 601024 ∧ (cs.1 + 1, cs.2 + 6).2 ≤ 7293034 := hc
  unfold c_21 at h
  obtain ⟨k, M1, b, M2, hw, hg, ht, hk2⟩ := stepJ_inv h
  refine g_aload_n hX rfl ?_
  refine g_aload_n hX rfl ?_
  refine g_iload hX rfl ?_
  refine g_iconst hX (v := 1) rfl ?_
  refine g_iadd hX ?_
  refine g_sld hX hs hi1 ?_
  refine g_i2l hX ?_
  refine g_bipush hX (v := 32) rfl ?_
  refine g_lshl hX ?_
  refine g_aload_n hX rfl ?_
  refine g_iload hX rfl ?_
  refine g_iconst hX (v := 2) rfl ?_
  refine g_iadd hX ?_
  refine g_sld hX hs hi2 ?_
  refine g_i2l hX ?_
  refine g_ldc2_w hX lcl_203 ?_
  refine g_land hX ?_
  refine g_lor hX ?_
  refine g_aload_n hX rfl ?_
  refine g_iload hX rfl ?_
  refine g_iconst hX (v := 3) rfl ?_
  refine g_iadd hX ?_
  refine g_sld hX hs hi3 ?_
  refine g_aload_n hX rfl ?_
  refine g_callW (d2 := 16) (n := 4) (av := [_, _, _, _]) hX rfl ⟨cw_L_weeks, mU_1 0 rfl rfl, mU_5 194 rfl rfl, mU_5 195 rfl rfl, ⟨by decide, by decide, by decide +kernel⟩, rfl, (Nat.le_of_ble_eq_true rfl)⟩ ⟨(Nat.le_of_ble_eq_true rfl), (Nat.le_of_ble_eq_true rfl), hc.1, hc.2⟩ (Nat.le_of_ble_eq_true rfl) (pw_weeks hl hw) rfl ?_
  refine g_istore hX (Nat.le_of_ble_eq_true rfl) rfl ?_
  refine g_aload_n hX rfl ?_
  refine g_aload_n hX rfl ?_
  refine g_iload hX rfl ?_
  refine g_iconst hX (v := 1) rfl ?_
  refine g_iadd hX ?_
  refine g_sld hX hs hi1 ?_
  refine g_i2l hX ?_
  refine g_bipush hX (v := 32) rfl ?_
  refine g_lshl hX ?_
  refine g_aload_n hX rfl ?_
  refine g_iload hX rfl ?_
  refine g_iconst hX (v := 2) rfl ?_
  refine g_iadd hX ?_
  refine g_sld hX hs hi2 ?_
  refine g_i2l hX ?_
  refine g_ldc2_w hX lcl_203 ?_
  refine g_land hX ?_
  refine g_lor hX ?_
  refine g_aload_n hX rfl ?_
  refine g_iload hX rfl ?_
  refine g_iconst hX (v := 3) rfl ?_
  refine g_iadd hX ?_
  refine g_sld hX hs hi3 ?_
  refine g_call (d2 := 26) (as := [_, _]) hX ⟨mok_X11_weeks, rfl, ⟨11, 0, gt_99, rfl⟩, ins_X11_weeks, lkl_208⟩ ⟨(Nat.le_of_ble_eq_true rfl), (Nat.le_of_ble_eq_true rfl), hc2.1, hc2.2⟩ (Nat.le_of_ble_eq_true rfl) (pc_X11_weeks_99 hl hg) rfl (st1 := [vJ _]) (fun _ => rfl) ?_
  refine g_lstore hX (Nat.le_of_ble_eq_true rfl) rfl ?_
  refine g_aload_n hX rfl ?_
  refine g_call (d2 := 0) (as := []) hX ⟨mok_X11_thrown, rfl, ⟨11, 0, gt_99, rfl⟩, ins_X11_thrown, lkl_139⟩ ⟨(Nat.le_of_ble_eq_true rfl), (Nat.le_of_ble_eq_true rfl), hc2.1, hc2.2⟩ (Nat.le_of_ble_eq_true rfl) (pc_X11_thrown_99 hl ht) rfl (st1 := [vI _]) (fun _ => rfl) ?_
  refine g_iload hX rfl ?_
  refine g_icmp_eqT hX 894 rfl rfl rfl ?_
  refine g_iload hX rfl ?_
  by_cases hk : k = 0
  · refine g_if_neF (tg := 1573) hX rfl (fun n => n hk) ?_
    refine g_aload_n hX rfl ?_
    refine g_iconst hX (v := 0) rfl ?_
    refine g_lald hX gt_129 rfl ?_
    refine g_lload hX rfl ?_
    refine g_lcmp hX ?_
    refine g_if_eqT hX 904 rfl rfl (by first | exact (congrArg (fun z => lg_cmp z _) (hk2 hk)).trans (lg_cmp_self _) | exact lg_cmp_self _) ?_
    refine g_goto hX 1623 rfl rfl ?_
    exact g_fg kk ⟨Or.inr rfl, Or.inr rfl, Or.inr rfl, Or.inr rfl, Or.inr rfl, Or.inl rfl, Or.inl rfl, Or.inl rfl, trivial⟩
  · refine g_if_neT hX 904 rfl rfl hk ?_
    refine g_goto hX 1623 rfl rfl ?_
    exact g_fg kk ⟨Or.inr rfl, Or.inr rfl, Or.inr rfl, Or.inr rfl, Or.inr rfl, Or.inl rfl, Or.inl rfl, Or.inl rfl, trivial⟩
def c_22 (M : PM) (a1 : Int32) (a2 : Int32) (a3 : Int32) : Option PM := stepI (w_seen M a1 a2 (bz a3)) (fun M => F_X11_seen_99 M a1 a2 (bz a3))
set_option maxRecDepth 100000 in
theorem case_22 {l : Launch} (hl : l.stackTraces = false) {X : GX} {cs : Nat × Nat} {L : Nat} {xs : Nat → Int32} {i : Int32} {M M' : PM} (hX : GOK Y_L_law_ X) (hs : SCR X L xs) (hc : cs.1 + 1 ≤ 601024 ∧ cs.2 + 6 ≤ 7293034) (hi1 : vp_in (i + 1) L) (hi2 : vp_in (i + 2) L) (hi3 : vp_in (i + 3) L) (h : c_22 M (xs (i + 1).toNatClampNeg) (xs (i + 2).toNatClampNeg) (xs (i + 3).toNatClampNeg) = some M') (kk : PG l room_1 Y_L_law_ X (cs.1 + 1, cs.2 + 6) k_L_law__2674 [vR 99999, vR 0, vR 99, vR 129, vI i, jk, jk, jk] [] M') : PG l room_1 Y_L_law_ X cs k_L_law__1576 [vR 99999, vR 0, vR 99, vR 129, vI i, jk, jk, jk] [] M := by
  have hc0 : cs.1 ≤ 601024 ∧ cs.2 ≤ 7293034 := ⟨by omega, by omega⟩
  have hc2 : (cs.1 + 1, cs.2 + 6).1 ≤ 601024 ∧ (cs.1 + 1, cs.2 + 6).2 ≤ 7293034 := hc
  unfold c_22 at h
  by_cases hz : (xs (i + 3).toNatClampNeg) = 0
  · rw [show bz (xs (i + 3).toNatClampNeg) = 0 from if_pos hz] at h
    obtain ⟨k, M1, b, M2, hw, hg, ht, hk2⟩ := stepI_inv h
    refine g_aload_n hX rfl ?_
    refine g_aload_n hX rfl ?_
    refine g_iload hX rfl ?_
    refine g_iconst hX (v := 1) rfl ?_
    refine g_iadd hX ?_
    refine g_sld hX hs hi1 ?_
    refine g_aload_n hX rfl ?_
    refine g_iload hX rfl ?_
    refine g_iconst hX (v := 2) rfl ?_
    refine g_iadd hX ?_
    refine g_sld hX hs hi2 ?_
    refine g_aload_n hX rfl ?_
    refine g_iload hX rfl ?_
    refine g_iconst hX (v := 3) rfl ?_
    refine g_iadd hX ?_
    refine g_sld hX hs hi3 ?_
    refine g_if_eqT hX 924 rfl rfl hz ?_
    refine g_iconst hX (v := 0) rfl ?_
    refine g_aload_n hX rfl ?_
    refine g_callW (d2 := 9) (n := 5) (av := [_, _, _, _, _]) hX rfl ⟨cw_L_seen, mU_1 0 rfl rfl, mU_5 236 rfl rfl, mU_5 237 rfl rfl, ⟨by decide, by decide, by decide +kernel⟩, rfl, (Nat.le_of_ble_eq_true rfl)⟩ ⟨(Nat.le_of_ble_eq_true rfl), (Nat.le_of_ble_eq_true rfl), hc.1, hc.2⟩ (Nat.le_of_ble_eq_true rfl) (pw_seen hl hw) rfl ?_
    refine g_istore hX (Nat.le_of_ble_eq_true rfl) rfl ?_
    refine g_aload_n hX rfl ?_
    refine g_aload_n hX rfl ?_
    refine g_iload hX rfl ?_
    refine g_iconst hX (v := 1) rfl ?_
    refine g_iadd hX ?_
    refine g_sld hX hs hi1 ?_
    refine g_aload_n hX rfl ?_
    refine g_iload hX rfl ?_
    refine g_iconst hX (v := 2) rfl ?_
    refine g_iadd hX ?_
    refine g_sld hX hs hi2 ?_
    refine g_aload_n hX rfl ?_
    refine g_iload hX rfl ?_
    refine g_iconst hX (v := 3) rfl ?_
    refine g_iadd hX ?_
    refine g_sld hX hs hi3 ?_
    refine g_if_eqT hX 947 rfl rfl hz ?_
    refine g_iconst hX (v := 0) rfl ?_
    refine g_call (d2 := 2) (as := [_, _, _]) hX ⟨mok_X11_seen, rfl, ⟨11, 0, gt_99, rfl⟩, ins_X11_seen, lkl_212⟩ ⟨(Nat.le_of_ble_eq_true rfl), (Nat.le_of_ble_eq_true rfl), hc2.1, hc2.2⟩ (Nat.le_of_ble_eq_true rfl) (pc_X11_seen_99 hl hg) rfl (st1 := [vI _]) (fun _ => rfl) ?_
    refine g_istore hX (Nat.le_of_ble_eq_true rfl) rfl ?_
    refine g_aload_n hX rfl ?_
    refine g_call (d2 := 0) (as := []) hX ⟨mok_X11_thrown, rfl, ⟨11, 0, gt_99, rfl⟩, ins_X11_thrown, lkl_139⟩ ⟨(Nat.le_of_ble_eq_true rfl), (Nat.le_of_ble_eq_true rfl), hc2.1, hc2.2⟩ (Nat.le_of_ble_eq_true rfl) (pc_X11_thrown_99 hl ht) rfl (st1 := [vI _]) (fun _ => rfl) ?_
    refine g_iload hX rfl ?_
    refine g_icmp_eqT hX 956 rfl rfl rfl ?_
    refine g_iload hX rfl ?_
    by_cases hk : k = 0
    · refine g_if_neF (tg := 1669) hX rfl (fun n => n hk) ?_
      refine g_aload_n hX rfl ?_
      refine g_iconst hX (v := 0) rfl ?_
      refine g_lald hX gt_129 rfl ?_
      refine g_iload hX rfl ?_
      refine g_i2l hX ?_
      refine g_lcmp hX ?_
      refine g_if_eqT hX 967 rfl rfl (by first | exact (congrArg (fun z => lg_cmp z _) (hk2 hk)).trans (lg_cmp_self _) | exact lg_cmp_self _) ?_
      refine g_goto hX 1623 rfl rfl ?_
      exact g_fg kk ⟨Or.inr rfl, Or.inr rfl, Or.inr rfl, Or.inr rfl, Or.inr rfl, Or.inl rfl, Or.inl rfl, Or.inl rfl, trivial⟩
    · refine g_if_neT hX 967 rfl rfl hk ?_
      refine g_goto hX 1623 rfl rfl ?_
      exact g_fg kk ⟨Or.inr rfl, Or.inr rfl, Or.inr rfl, Or.inr rfl, Or.inr rfl, Or.inl rfl, Or.inl rfl, Or.inl rfl, trivial⟩
  · rw [show bz (xs (i + 3).toNatClampNeg) = 1 from if_neg hz] at h
    obtain ⟨k, M1, b, M2, hw, hg, ht, hk2⟩ := stepI_inv h
    refine g_aload_n hX rfl ?_
    refine g_aload_n hX rfl ?_
    refine g_iload hX rfl ?_
    refine g_iconst hX (v := 1) rfl ?_
    refine g_iadd hX ?_
    refine g_sld hX hs hi1 ?_
    refine g_aload_n hX rfl ?_
    refine g_iload hX rfl ?_
    refine g_iconst hX (v := 2) rfl ?_
    refine g_iadd hX ?_
    refine g_sld hX hs hi2 ?_
    refine g_aload_n hX rfl ?_
    refine g_iload hX rfl ?_
    refine g_iconst hX (v := 3) rfl ?_
    refine g_iadd hX ?_
    refine g_sld hX hs hi3 ?_
    refine g_if_eqF (tg := 1602) hX rfl hz ?_
    refine g_iconst hX (v := 1) rfl ?_
    refine g_goto hX 925 rfl rfl ?_
    refine g_aload_n hX rfl ?_
    refine g_callW (d2 := 9) (n := 5) (av := [_, _, _, _, _]) hX rfl ⟨cw_L_seen, mU_1 0 rfl rfl, mU_5 236 rfl rfl, mU_5 237 rfl rfl, ⟨by decide, by decide, by decide +kernel⟩, rfl, (Nat.le_of_ble_eq_true rfl)⟩ ⟨(Nat.le_of_ble_eq_true rfl), (Nat.le_of_ble_eq_true rfl), hc.1, hc.2⟩ (Nat.le_of_ble_eq_true rfl) (pw_seen hl hw) rfl ?_
    refine g_istore hX (Nat.le_of_ble_eq_true rfl) rfl ?_
    refine g_aload_n hX rfl ?_
    refine g_aload_n hX rfl ?_
    refine g_iload hX rfl ?_
    refine g_iconst hX (v := 1) rfl ?_
    refine g_iadd hX ?_
    refine g_sld hX hs hi1 ?_
    refine g_aload_n hX rfl ?_
    refine g_iload hX rfl ?_
    refine g_iconst hX (v := 2) rfl ?_
    refine g_iadd hX ?_
    refine g_sld hX hs hi2 ?_
    refine g_aload_n hX rfl ?_
    refine g_iload hX rfl ?_
    refine g_iconst hX (v := 3) rfl ?_
    refine g_iadd hX ?_
    refine g_sld hX hs hi3 ?_
    refine g_if_eqF (tg := 1635) hX rfl hz ?_
    refine g_iconst hX (v := 1) rfl ?_
    refine g_goto hX 948 rfl rfl ?_
    refine g_call (d2 := 2) (as := [_, _, _]) hX ⟨mok_X11_seen, rfl, ⟨11, 0, gt_99, rfl⟩, ins_X11_seen, lkl_212⟩ ⟨(Nat.le_of_ble_eq_true rfl), (Nat.le_of_ble_eq_true rfl), hc2.1, hc2.2⟩ (Nat.le_of_ble_eq_true rfl) (pc_X11_seen_99 hl hg) rfl (st1 := [vI _]) (fun _ => rfl) ?_
    refine g_istore hX (Nat.le_of_ble_eq_true rfl) rfl ?_
    refine g_aload_n hX rfl ?_
    refine g_call (d2 := 0) (as := []) hX ⟨mok_X11_thrown, rfl, ⟨11, 0, gt_99, rfl⟩, ins_X11_thrown, lkl_139⟩ ⟨(Nat.le_of_ble_eq_true rfl), (Nat.le_of_ble_eq_true rfl), hc2.1, hc2.2⟩ (Nat.le_of_ble_eq_true rfl) (pc_X11_thrown_99 hl ht) rfl (st1 := [vI _]) (fun _ => rfl) ?_
    refine g_iload hX rfl ?_
    refine g_icmp_eqT hX 956 rfl rfl rfl ?_
    refine g_iload hX rfl ?_
    by_cases hk : k = 0
    · refine g_if_neF (tg := 1669) hX rfl (fun n => n hk) ?_
      refine g_aload_n hX rfl ?_
      refine g_iconst hX (v := 0) rfl ?_
      refine g_lald hX gt_129 rfl ?_
      refine g_iload hX rfl ?_
      refine g_i2l hX ?_
      refine g_lcmp hX ?_
      refine g_if_eqT hX 967 rfl rfl (by first | exact (congrArg (fun z => lg_cmp z _) (hk2 hk)).trans (lg_cmp_self _) | exact lg_cmp_self _) ?_
      refine g_goto hX 1623 rfl rfl ?_
      exact g_fg kk ⟨Or.inr rfl, Or.inr rfl, Or.inr rfl, Or.inr rfl, Or.inr rfl, Or.inl rfl, Or.inl rfl, Or.inl rfl, trivial⟩
    · refine g_if_neT hX 967 rfl rfl hk ?_
      refine g_goto hX 1623 rfl rfl ?_
      exact g_fg kk ⟨Or.inr rfl, Or.inr rfl, Or.inr rfl, Or.inr rfl, Or.inr rfl, Or.inl rfl, Or.inl rfl, Or.inl rfl, trivial⟩
def c_23 (M : PM) (a1 : Int32) : Option PM := stepI (w_fits M a1) (fun M => F_X11_fits_99 M a1)
set_option maxRecDepth 100000 in
theorem case_23 {l : Launch} (hl : l.stackTraces = false) {X : GX} {cs : Nat × Nat} {L : Nat} {xs : Nat → Int32} {i : Int32} {M M' : PM} (hX : GOK Y_L_law_ X) (hs : SCR X L xs) (hc : cs.1 + 1 ≤ 601024 ∧ cs.2 + 6 ≤ 7293034) (hi1 : vp_in (i + 1) L) (h : c_23 M (xs (i + 1).toNatClampNeg) = some M') (kk : PG l room_1 Y_L_law_ X (cs.1 + 1, cs.2 + 6) k_L_law__2674 [vR 99999, vR 0, vR 99, vR 129, vI i, jk, jk, jk] [] M') : PG l room_1 Y_L_law_ X cs k_L_law__1672 [vR 99999, vR 0, vR 99, vR 129, vI i, jk, jk, jk] [] M := by
  have hc0 : cs.1 ≤ 601024 ∧ cs.2 ≤ 7293034 := ⟨by omega, by omega⟩
  have hc2 : (cs.1 + 1, cs.2 + 6).1 ≤ 601024 ∧ (cs.1 + 1, cs.2 + 6).2 ≤ 7293034 := hc
  unfold c_23 at h
  obtain ⟨k, M1, b, M2, hw, hg, ht, hk2⟩ := stepI_inv h
  refine g_aload_n hX rfl ?_
  refine g_aload_n hX rfl ?_
  refine g_iload hX rfl ?_
  refine g_iconst hX (v := 1) rfl ?_
  refine g_iadd hX ?_
  refine g_sld hX hs hi1 ?_
  refine g_aload_n hX rfl ?_
  refine g_callW (d2 := 8) (n := 3) (av := [_, _, _]) hX rfl ⟨cw_L_fits, mU_1 0 rfl rfl, mU_6 7 rfl rfl, mU_6 8 rfl rfl, ⟨by decide, by decide, by decide +kernel⟩, rfl, (Nat.le_of_ble_eq_true rfl)⟩ ⟨(Nat.le_of_ble_eq_true rfl), (Nat.le_of_ble_eq_true rfl), hc.1, hc.2⟩ (Nat.le_of_ble_eq_true rfl) (pw_fits hl hw) rfl ?_
  refine g_istore hX (Nat.le_of_ble_eq_true rfl) rfl ?_
  refine g_aload_n hX rfl ?_
  refine g_aload_n hX rfl ?_
  refine g_iload hX rfl ?_
  refine g_iconst hX (v := 1) rfl ?_
  refine g_iadd hX ?_
  refine g_sld hX hs hi1 ?_
  refine g_call (d2 := 1) (as := [_]) hX ⟨mok_X11_fits, rfl, ⟨11, 0, gt_99, rfl⟩, ins_X11_fits, lkl_215⟩ ⟨(Nat.le_of_ble_eq_true rfl), (Nat.le_of_ble_eq_true rfl), hc2.1, hc2.2⟩ (Nat.le_of_ble_eq_true rfl) (pc_X11_fits_99 hl hg) rfl (st1 := [vI _]) (fun _ => rfl) ?_
  refine g_istore hX (Nat.le_of_ble_eq_true rfl) rfl ?_
  refine g_aload_n hX rfl ?_
  refine g_call (d2 := 0) (as := []) hX ⟨mok_X11_thrown, rfl, ⟨11, 0, gt_99, rfl⟩, ins_X11_thrown, lkl_139⟩ ⟨(Nat.le_of_ble_eq_true rfl), (Nat.le_of_ble_eq_true rfl), hc2.1, hc2.2⟩ (Nat.le_of_ble_eq_true rfl) (pc_X11_thrown_99 hl ht) rfl (st1 := [vI _]) (fun _ => rfl) ?_
  refine g_iload hX rfl ?_
  refine g_icmp_eqT hX 991 rfl rfl rfl ?_
  refine g_iload hX rfl ?_
  by_cases hk : k = 0
  · refine g_if_neF (tg := 1725) hX rfl (fun n => n hk) ?_
    refine g_aload_n hX rfl ?_
    refine g_iconst hX (v := 0) rfl ?_
    refine g_lald hX gt_129 rfl ?_
    refine g_iload hX rfl ?_
    refine g_i2l hX ?_
    refine g_lcmp hX ?_
    refine g_if_eqT hX 1002 rfl rfl (by first | exact (congrArg (fun z => lg_cmp z _) (hk2 hk)).trans (lg_cmp_self _) | exact lg_cmp_self _) ?_
    refine g_goto hX 1623 rfl rfl ?_
    exact g_fg kk ⟨Or.inr rfl, Or.inr rfl, Or.inr rfl, Or.inr rfl, Or.inr rfl, Or.inl rfl, Or.inl rfl, Or.inl rfl, trivial⟩
  · refine g_if_neT hX 1002 rfl rfl hk ?_
    refine g_goto hX 1623 rfl rfl ?_
    exact g_fg kk ⟨Or.inr rfl, Or.inr rfl, Or.inr rfl, Or.inr rfl, Or.inr rfl, Or.inl rfl, Or.inl rfl, Or.inl rfl, trivial⟩
def c_24 (M : PM) (a1 : Int32) : Option PM := stepI (w_look M a1) (fun M => F_X11_look_99 M a1)
set_option maxRecDepth 100000 in
theorem case_24 {l : Launch} (hl : l.stackTraces = false) {X : GX} {cs : Nat × Nat} {L : Nat} {xs : Nat → Int32} {i : Int32} {M M' : PM} (hX : GOK Y_L_law_ X) (hs : SCR X L xs) (hc : cs.1 + 1 ≤ 601024 ∧ cs.2 + 6 ≤ 7293034) (hi1 : vp_in (i + 1) L) (h : c_24 M (xs (i + 1).toNatClampNeg) = some M') (kk : PG l room_1 Y_L_law_ X (cs.1 + 1, cs.2 + 6) k_L_law__2674 [vR 99999, vR 0, vR 99, vR 129, vI i, jk, jk, jk] [] M') : PG l room_1 Y_L_law_ X cs k_L_law__1728 [vR 99999, vR 0, vR 99, vR 129, vI i, jk, jk, jk] [] M := by
  have hc0 : cs.1 ≤ 601024 ∧ cs.2 ≤ 7293034 := ⟨by omega, by omega⟩
  have hc2 : (cs.1 + 1, cs.2 + 6).1 ≤ 601024 ∧ (cs.1 + 1, cs.2 + 6).2 ≤ 7293034 := hc
  unfold c_24 at h
  obtain ⟨k, M1, b, M2, hw, hg, ht, hk2⟩ := stepI_inv h
  refine g_aload_n hX rfl ?_
  refine g_aload_n hX rfl ?_
  refine g_iload hX rfl ?_
  refine g_iconst hX (v := 1) rfl ?_
  refine g_iadd hX ?_
  refine g_sld hX hs hi1 ?_
  refine g_aload_n hX rfl ?_
  refine g_callW (d2 := 9) (n := 3) (av := [_, _, _]) hX rfl ⟨cw_L_look, mU_1 0 rfl rfl, mU_6 35 rfl rfl, mU_6 36 rfl rfl, ⟨by decide, by decide, by decide +kernel⟩, rfl, (Nat.le_of_ble_eq_true rfl)⟩ ⟨(Nat.le_of_ble_eq_true rfl), (Nat.le_of_ble_eq_true rfl), hc.1, hc.2⟩ (Nat.le_of_ble_eq_true rfl) (pw_look hl hw) rfl ?_
  refine g_istore hX (Nat.le_of_ble_eq_true rfl) rfl ?_
  refine g_aload_n hX rfl ?_
  refine g_aload_n hX rfl ?_
  refine g_iload hX rfl ?_
  refine g_iconst hX (v := 1) rfl ?_
  refine g_iadd hX ?_
  refine g_sld hX hs hi1 ?_
  refine g_call (d2 := 1) (as := [_]) hX ⟨mok_X11_look, rfl, ⟨11, 0, gt_99, rfl⟩, ins_X11_look, lkl_218⟩ ⟨(Nat.le_of_ble_eq_true rfl), (Nat.le_of_ble_eq_true rfl), hc2.1, hc2.2⟩ (Nat.le_of_ble_eq_true rfl) (pc_X11_look_99 hl hg) rfl (st1 := [vI _]) (fun _ => rfl) ?_
  refine g_istore hX (Nat.le_of_ble_eq_true rfl) rfl ?_
  refine g_aload_n hX rfl ?_
  refine g_call (d2 := 0) (as := []) hX ⟨mok_X11_thrown, rfl, ⟨11, 0, gt_99, rfl⟩, ins_X11_thrown, lkl_139⟩ ⟨(Nat.le_of_ble_eq_true rfl), (Nat.le_of_ble_eq_true rfl), hc2.1, hc2.2⟩ (Nat.le_of_ble_eq_true rfl) (pc_X11_thrown_99 hl ht) rfl (st1 := [vI _]) (fun _ => rfl) ?_
  refine g_iload hX rfl ?_
  refine g_icmp_eqT hX 1026 rfl rfl rfl ?_
  refine g_iload hX rfl ?_
  by_cases hk : k = 0
  · refine g_if_neF (tg := 1781) hX rfl (fun n => n hk) ?_
    refine g_aload_n hX rfl ?_
    refine g_iconst hX (v := 0) rfl ?_
    refine g_lald hX gt_129 rfl ?_
    refine g_iload hX rfl ?_
    refine g_i2l hX ?_
    refine g_lcmp hX ?_
    refine g_if_eqT hX 1037 rfl rfl (by first | exact (congrArg (fun z => lg_cmp z _) (hk2 hk)).trans (lg_cmp_self _) | exact lg_cmp_self _) ?_
    refine g_goto hX 1623 rfl rfl ?_
    exact g_fg kk ⟨Or.inr rfl, Or.inr rfl, Or.inr rfl, Or.inr rfl, Or.inr rfl, Or.inl rfl, Or.inl rfl, Or.inl rfl, trivial⟩
  · refine g_if_neT hX 1037 rfl rfl hk ?_
    refine g_goto hX 1623 rfl rfl ?_
    exact g_fg kk ⟨Or.inr rfl, Or.inr rfl, Or.inr rfl, Or.inr rfl, Or.inr rfl, Or.inl rfl, Or.inl rfl, Or.inl rfl, trivial⟩
def c_25 (M : PM) (a1 : Int32) (a2 : Int32) (a3 : Int32) (a4 : Int32) : Option PM := stepI (w_did M a1 a2 a3 (bz a4)) (fun M => F_X11_did_99 M a1 a2 a3 (bz a4))
set_option maxRecDepth 100000 in
theorem case_25 {l : Launch} (hl : l.stackTraces = false) {X : GX} {cs : Nat × Nat} {L : Nat} {xs : Nat → Int32} {i : Int32} {M M' : PM} (hX : GOK Y_L_law_ X) (hs : SCR X L xs) (hc : cs.1 + 1 ≤ 601024 ∧ cs.2 + 6 ≤ 7293034) (hi1 : vp_in (i + 1) L) (hi2 : vp_in (i + 2) L) (hi3 : vp_in (i + 3) L) (hi4 : vp_in (i + 4) L) (h : c_25 M (xs (i + 1).toNatClampNeg) (xs (i + 2).toNatClampNeg) (xs (i + 3).toNatClampNeg) (xs (i + 4).toNatClampNeg) = some M') (kk : PG l room_1 Y_L_law_ X (cs.1 + 1, cs.2 + 6) k_L_law__2674 [vR 99999, vR 0, vR 99, vR 129, vI i, jk, jk, jk] [] M') : PG l room_1 Y_L_law_ X cs k_L_law__1784 [vR 99999, vR 0, vR 99, vR 129, vI i, jk, jk, jk] [] M := by
  have hc0 : cs.1 ≤ 601024 ∧ cs.2 ≤ 7293034 := ⟨by omega, by omega⟩
  have hc2 : (cs.1 + 1, cs.2 + 6).1 ≤ 601024 ∧ (cs.1 + 1, cs.2 + 6).2 ≤ 7293034 := hc
  unfold c_25 at h
  by_cases hz : (xs (i + 4).toNatClampNeg) = 0
  · rw [show bz (xs (i + 4).toNatClampNeg) = 0 from if_pos hz] at h
    obtain ⟨k, M1, b, M2, hw, hg, ht, hk2⟩ := stepI_inv h
    refine g_aload_n hX rfl ?_
    refine g_aload_n hX rfl ?_
    refine g_iload hX rfl ?_
    refine g_iconst hX (v := 1) rfl ?_
    refine g_iadd hX ?_
    refine g_sld hX hs hi1 ?_
    refine g_aload_n hX rfl ?_
    refine g_iload hX rfl ?_
    refine g_iconst hX (v := 2) rfl ?_
    refine g_iadd hX ?_
    refine g_sld hX hs hi2 ?_
    refine g_aload_n hX rfl ?_
    refine g_iload hX rfl ?_
    refine g_iconst hX (v := 3) rfl ?_
    refine g_iadd hX ?_
    refine g_sld hX hs hi3 ?_
    refine g_aload_n hX rfl ?_
    refine g_iload hX rfl ?_
    refine g_iconst hX (v := 4) rfl ?_
    refine g_iadd hX ?_
    refine g_sld hX hs hi4 ?_
    refine g_if_eqT hX 1062 rfl rfl hz ?_
    refine g_iconst hX (v := 0) rfl ?_
    refine g_aload_n hX rfl ?_
    refine g_callW (d2 := 9) (n := 6) (av := [_, _, _, _, _, _]) hX rfl ⟨cw_L_did, mU_1 0 rfl rfl, mU_6 52 rfl rfl, mU_6 53 rfl rfl, ⟨by decide, by decide, by decide +kernel⟩, rfl, (Nat.le_of_ble_eq_true rfl)⟩ ⟨(Nat.le_of_ble_eq_true rfl), (Nat.le_of_ble_eq_true rfl), hc.1, hc.2⟩ (Nat.le_of_ble_eq_true rfl) (pw_did hl hw) rfl ?_
    refine g_istore hX (Nat.le_of_ble_eq_true rfl) rfl ?_
    refine g_aload_n hX rfl ?_
    refine g_aload_n hX rfl ?_
    refine g_iload hX rfl ?_
    refine g_iconst hX (v := 1) rfl ?_
    refine g_iadd hX ?_
    refine g_sld hX hs hi1 ?_
    refine g_aload_n hX rfl ?_
    refine g_iload hX rfl ?_
    refine g_iconst hX (v := 2) rfl ?_
    refine g_iadd hX ?_
    refine g_sld hX hs hi2 ?_
    refine g_aload_n hX rfl ?_
    refine g_iload hX rfl ?_
    refine g_iconst hX (v := 3) rfl ?_
    refine g_iadd hX ?_
    refine g_sld hX hs hi3 ?_
    refine g_aload_n hX rfl ?_
    refine g_iload hX rfl ?_
    refine g_iconst hX (v := 4) rfl ?_
    refine g_iadd hX ?_
    refine g_sld hX hs hi4 ?_
    refine g_if_eqT hX 1090 rfl rfl hz ?_
    refine g_iconst hX (v := 0) rfl ?_
    refine g_call (d2 := 2) (as := [_, _, _, _]) hX ⟨mok_X11_did, rfl, ⟨11, 0, gt_99, rfl⟩, ins_X11_did, lkl_222⟩ ⟨(Nat.le_of_ble_eq_true rfl), (Nat.le_of_ble_eq_true rfl), hc2.1, hc2.2⟩ (Nat.le_of_ble_eq_true rfl) (pc_X11_did_99 hl hg) rfl (st1 := [vI _]) (fun _ => rfl) ?_
    refine g_istore hX (Nat.le_of_ble_eq_true rfl) rfl ?_
    refine g_aload_n hX rfl ?_
    refine g_call (d2 := 0) (as := []) hX ⟨mok_X11_thrown, rfl, ⟨11, 0, gt_99, rfl⟩, ins_X11_thrown, lkl_139⟩ ⟨(Nat.le_of_ble_eq_true rfl), (Nat.le_of_ble_eq_true rfl), hc2.1, hc2.2⟩ (Nat.le_of_ble_eq_true rfl) (pc_X11_thrown_99 hl ht) rfl (st1 := [vI _]) (fun _ => rfl) ?_
    refine g_iload hX rfl ?_
    refine g_icmp_eqT hX 1099 rfl rfl rfl ?_
    refine g_iload hX rfl ?_
    by_cases hk : k = 0
    · refine g_if_neF (tg := 1889) hX rfl (fun n => n hk) ?_
      refine g_aload_n hX rfl ?_
      refine g_iconst hX (v := 0) rfl ?_
      refine g_lald hX gt_129 rfl ?_
      refine g_iload hX rfl ?_
      refine g_i2l hX ?_
      refine g_lcmp hX ?_
      refine g_if_eqT hX 1110 rfl rfl (by first | exact (congrArg (fun z => lg_cmp z _) (hk2 hk)).trans (lg_cmp_self _) | exact lg_cmp_self _) ?_
      refine g_goto hX 1623 rfl rfl ?_
      exact g_fg kk ⟨Or.inr rfl, Or.inr rfl, Or.inr rfl, Or.inr rfl, Or.inr rfl, Or.inl rfl, Or.inl rfl, Or.inl rfl, trivial⟩
    · refine g_if_neT hX 1110 rfl rfl hk ?_
      refine g_goto hX 1623 rfl rfl ?_
      exact g_fg kk ⟨Or.inr rfl, Or.inr rfl, Or.inr rfl, Or.inr rfl, Or.inr rfl, Or.inl rfl, Or.inl rfl, Or.inl rfl, trivial⟩
  · rw [show bz (xs (i + 4).toNatClampNeg) = 1 from if_neg hz] at h
    obtain ⟨k, M1, b, M2, hw, hg, ht, hk2⟩ := stepI_inv h
    refine g_aload_n hX rfl ?_
    refine g_aload_n hX rfl ?_
    refine g_iload hX rfl ?_
    refine g_iconst hX (v := 1) rfl ?_
    refine g_iadd hX ?_
    refine g_sld hX hs hi1 ?_
    refine g_aload_n hX rfl ?_
    refine g_iload hX rfl ?_
    refine g_iconst hX (v := 2) rfl ?_
    refine g_iadd hX ?_
    refine g_sld hX hs hi2 ?_
    refine g_aload_n hX rfl ?_
    refine g_iload hX rfl ?_
    refine g_iconst hX (v := 3) rfl ?_
    refine g_iadd hX ?_
    refine g_sld hX hs hi3 ?_
    refine g_aload_n hX rfl ?_
    refine g_iload hX rfl ?_
    refine g_iconst hX (v := 4) rfl ?_
    refine g_iadd hX ?_
    refine g_sld hX hs hi4 ?_
    refine g_if_eqF (tg := 1816) hX rfl hz ?_
    refine g_iconst hX (v := 1) rfl ?_
    refine g_goto hX 1063 rfl rfl ?_
    refine g_aload_n hX rfl ?_
    refine g_callW (d2 := 9) (n := 6) (av := [_, _, _, _, _, _]) hX rfl ⟨cw_L_did, mU_1 0 rfl rfl, mU_6 52 rfl rfl, mU_6 53 rfl rfl, ⟨by decide, by decide, by decide +kernel⟩, rfl, (Nat.le_of_ble_eq_true rfl)⟩ ⟨(Nat.le_of_ble_eq_true rfl), (Nat.le_of_ble_eq_true rfl), hc.1, hc.2⟩ (Nat.le_of_ble_eq_true rfl) (pw_did hl hw) rfl ?_
    refine g_istore hX (Nat.le_of_ble_eq_true rfl) rfl ?_
    refine g_aload_n hX rfl ?_
    refine g_aload_n hX rfl ?_
    refine g_iload hX rfl ?_
    refine g_iconst hX (v := 1) rfl ?_
    refine g_iadd hX ?_
    refine g_sld hX hs hi1 ?_
    refine g_aload_n hX rfl ?_
    refine g_iload hX rfl ?_
    refine g_iconst hX (v := 2) rfl ?_
    refine g_iadd hX ?_
    refine g_sld hX hs hi2 ?_
    refine g_aload_n hX rfl ?_
    refine g_iload hX rfl ?_
    refine g_iconst hX (v := 3) rfl ?_
    refine g_iadd hX ?_
    refine g_sld hX hs hi3 ?_
    refine g_aload_n hX rfl ?_
    refine g_iload hX rfl ?_
    refine g_iconst hX (v := 4) rfl ?_
    refine g_iadd hX ?_
    refine g_sld hX hs hi4 ?_
    refine g_if_eqF (tg := 1855) hX rfl hz ?_
    refine g_iconst hX (v := 1) rfl ?_
    refine g_goto hX 1091 rfl rfl ?_
    refine g_call (d2 := 2) (as := [_, _, _, _]) hX ⟨mok_X11_did, rfl, ⟨11, 0, gt_99, rfl⟩, ins_X11_did, lkl_222⟩ ⟨(Nat.le_of_ble_eq_true rfl), (Nat.le_of_ble_eq_true rfl), hc2.1, hc2.2⟩ (Nat.le_of_ble_eq_true rfl) (pc_X11_did_99 hl hg) rfl (st1 := [vI _]) (fun _ => rfl) ?_
    refine g_istore hX (Nat.le_of_ble_eq_true rfl) rfl ?_
    refine g_aload_n hX rfl ?_
    refine g_call (d2 := 0) (as := []) hX ⟨mok_X11_thrown, rfl, ⟨11, 0, gt_99, rfl⟩, ins_X11_thrown, lkl_139⟩ ⟨(Nat.le_of_ble_eq_true rfl), (Nat.le_of_ble_eq_true rfl), hc2.1, hc2.2⟩ (Nat.le_of_ble_eq_true rfl) (pc_X11_thrown_99 hl ht) rfl (st1 := [vI _]) (fun _ => rfl) ?_
    refine g_iload hX rfl ?_
    refine g_icmp_eqT hX 1099 rfl rfl rfl ?_
    refine g_iload hX rfl ?_
    by_cases hk : k = 0
    · refine g_if_neF (tg := 1889) hX rfl (fun n => n hk) ?_
      refine g_aload_n hX rfl ?_
      refine g_iconst hX (v := 0) rfl ?_
      refine g_lald hX gt_129 rfl ?_
      refine g_iload hX rfl ?_
      refine g_i2l hX ?_
      refine g_lcmp hX ?_
      refine g_if_eqT hX 1110 rfl rfl (by first | exact (congrArg (fun z => lg_cmp z _) (hk2 hk)).trans (lg_cmp_self _) | exact lg_cmp_self _) ?_
      refine g_goto hX 1623 rfl rfl ?_
      exact g_fg kk ⟨Or.inr rfl, Or.inr rfl, Or.inr rfl, Or.inr rfl, Or.inr rfl, Or.inl rfl, Or.inl rfl, Or.inl rfl, trivial⟩
    · refine g_if_neT hX 1110 rfl rfl hk ?_
      refine g_goto hX 1623 rfl rfl ?_
      exact g_fg kk ⟨Or.inr rfl, Or.inr rfl, Or.inr rfl, Or.inr rfl, Or.inr rfl, Or.inl rfl, Or.inl rfl, Or.inl rfl, trivial⟩
def c_26 (M : PM) (a1 : Int32) (a2 : Int32) : Option PM := stepI (w_slipped M a1 a2) (fun M => F_X11_slipped_99 M a1 a2)
set_option maxRecDepth 100000 in
theorem case_26 {l : Launch} (hl : l.stackTraces = false) {X : GX} {cs : Nat × Nat} {L : Nat} {xs : Nat → Int32} {i : Int32} {M M' : PM} (hX : GOK Y_L_law_ X) (hs : SCR X L xs) (hc : cs.1 + 1 ≤ 601024 ∧ cs.2 + 6 ≤ 7293034) (hi1 : vp_in (i + 1) L) (hi2 : vp_in (i + 2) L) (h : c_26 M (xs (i + 1).toNatClampNeg) (xs (i + 2).toNatClampNeg) = some M') (kk : PG l room_1 Y_L_law_ X (cs.1 + 1, cs.2 + 6) k_L_law__2674 [vR 99999, vR 0, vR 99, vR 129, vI i, jk, jk, jk] [] M') : PG l room_1 Y_L_law_ X cs k_L_law__1892 [vR 99999, vR 0, vR 99, vR 129, vI i, jk, jk, jk] [] M := by
  have hc0 : cs.1 ≤ 601024 ∧ cs.2 ≤ 7293034 := ⟨by omega, by omega⟩
  have hc2 : (cs.1 + 1, cs.2 + 6).1 ≤ 601024 ∧ (cs.1 + 1, cs.2 + 6).2 ≤ 7293034 := hc
  unfold c_26 at h
  obtain ⟨k, M1, b, M2, hw, hg, ht, hk2⟩ := stepI_inv h
  refine g_aload_n hX rfl ?_
  refine g_aload_n hX rfl ?_
  refine g_iload hX rfl ?_
  refine g_iconst hX (v := 1) rfl ?_
  refine g_iadd hX ?_
  refine g_sld hX hs hi1 ?_
  refine g_aload_n hX rfl ?_
  refine g_iload hX rfl ?_
  refine g_iconst hX (v := 2) rfl ?_
  refine g_iadd hX ?_
  refine g_sld hX hs hi2 ?_
  refine g_aload_n hX rfl ?_
  refine g_callW (d2 := 9) (n := 4) (av := [_, _, _, _]) hX rfl ⟨cw_L_slipped, mU_1 0 rfl rfl, mU_6 63 rfl rfl, mU_6 64 rfl rfl, ⟨by decide, by decide, by decide +kernel⟩, rfl, (Nat.le_of_ble_eq_true rfl)⟩ ⟨(Nat.le_of_ble_eq_true rfl), (Nat.le_of_ble_eq_true rfl), hc.1, hc.2⟩ (Nat.le_of_ble_eq_true rfl) (pw_slipped hl hw) rfl ?_
  refine g_istore hX (Nat.le_of_ble_eq_true rfl) rfl ?_
  refine g_aload_n hX rfl ?_
  refine g_aload_n hX rfl ?_
  refine g_iload hX rfl ?_
  refine g_iconst hX (v := 1) rfl ?_
  refine g_iadd hX ?_
  refine g_sld hX hs hi1 ?_
  refine g_aload_n hX rfl ?_
  refine g_iload hX rfl ?_
  refine g_iconst hX (v := 2) rfl ?_
  refine g_iadd hX ?_
  refine g_sld hX hs hi2 ?_
  refine g_call (d2 := 2) (as := [_, _]) hX ⟨mok_X11_slipped, rfl, ⟨11, 0, gt_99, rfl⟩, ins_X11_slipped, lkl_225⟩ ⟨(Nat.le_of_ble_eq_true rfl), (Nat.le_of_ble_eq_true rfl), hc2.1, hc2.2⟩ (Nat.le_of_ble_eq_true rfl) (pc_X11_slipped_99 hl hg) rfl (st1 := [vI _]) (fun _ => rfl) ?_
  refine g_istore hX (Nat.le_of_ble_eq_true rfl) rfl ?_
  refine g_aload_n hX rfl ?_
  refine g_call (d2 := 0) (as := []) hX ⟨mok_X11_thrown, rfl, ⟨11, 0, gt_99, rfl⟩, ins_X11_thrown, lkl_139⟩ ⟨(Nat.le_of_ble_eq_true rfl), (Nat.le_of_ble_eq_true rfl), hc2.1, hc2.2⟩ (Nat.le_of_ble_eq_true rfl) (pc_X11_thrown_99 hl ht) rfl (st1 := [vI _]) (fun _ => rfl) ?_
  refine g_iload hX rfl ?_
  refine g_icmp_eqT hX 1144 rfl rfl rfl ?_
  refine g_iload hX rfl ?_
  by_cases hk : k = 0
  · refine g_if_neF (tg := 1957) hX rfl (fun n => n hk) ?_
    refine g_aload_n hX rfl ?_
    refine g_iconst hX (v := 0) rfl ?_
    refine g_lald hX gt_129 rfl ?_
    refine g_iload hX rfl ?_
    refine g_i2l hX ?_
    refine g_lcmp hX ?_
    refine g_if_eqT hX 1155 rfl rfl (by first | exact (congrArg (fun z => lg_cmp z _) (hk2 hk)).trans (lg_cmp_self _) | exact lg_cmp_self _) ?_
    refine g_goto hX 1623 rfl rfl ?_
    exact g_fg kk ⟨Or.inr rfl, Or.inr rfl, Or.inr rfl, Or.inr rfl, Or.inr rfl, Or.inl rfl, Or.inl rfl, Or.inl rfl, trivial⟩
  · refine g_if_neT hX 1155 rfl rfl hk ?_
    refine g_goto hX 1623 rfl rfl ?_
    exact g_fg kk ⟨Or.inr rfl, Or.inr rfl, Or.inr rfl, Or.inr rfl, Or.inr rfl, Or.inl rfl, Or.inl rfl, Or.inl rfl, trivial⟩
def c_27 (M : PM)  : Option PM := dirI (F_X10_forget_0 M ) (fun M => F_X11_forget_99 M )
set_option maxRecDepth 100000 in
theorem case_27 {l : Launch} (hl : l.stackTraces = false) {X : GX} {cs : Nat × Nat} {L : Nat} {xs : Nat → Int32} {i : Int32} {M M' : PM} (hX : GOK Y_L_law_ X) (hs : SCR X L xs) (hc : cs.1 + 1 ≤ 601024 ∧ cs.2 + 6 ≤ 7293034)  (h : c_27 M  = some M') (kk : PG l room_1 Y_L_law_ X (cs.1 + 1, cs.2 + 6) k_L_law__2674 [vR 99999, vR 0, vR 99, vR 129, vI i, jk, jk, jk] [] M') : PG l room_1 Y_L_law_ X cs k_L_law__1960 [vR 99999, vR 0, vR 99, vR 129, vI i, jk, jk, jk] [] M := by
  have hc0 : cs.1 ≤ 601024 ∧ cs.2 ≤ 7293034 := ⟨by omega, by omega⟩
  have hc2 : (cs.1 + 1, cs.2 + 6).1 ≤ 601024 ∧ (cs.1 + 1, cs.2 + 6).2 ≤ 7293034 := hc
  unfold c_27 at h
  obtain ⟨x, M1, hf, hg⟩ := dirI_inv h
  refine g_aload_n hX rfl ?_
  refine g_call (d2 := 0) (as := []) hX ⟨mok_X10_forget, rfl, ⟨10, 0, gt_0, rfl⟩, ins_X10_forget, lkl_226⟩ ⟨(Nat.le_of_ble_eq_true rfl), (Nat.le_of_ble_eq_true rfl), hc0.1, hc0.2⟩ (Nat.le_of_ble_eq_true rfl) (pc_X10_forget_0 hl hf) rfl (st1 := [vI _]) (fun _ => rfl) ?_
  refine g_aload_n hX rfl ?_
  refine g_call (d2 := 0) (as := []) hX ⟨mok_X11_forget, rfl, ⟨11, 0, gt_99, rfl⟩, ins_X11_forget, lkl_229⟩ ⟨(Nat.le_of_ble_eq_true rfl), (Nat.le_of_ble_eq_true rfl), hc0.1, hc0.2⟩ (Nat.le_of_ble_eq_true rfl) (pc_X11_forget_99 hl hg) rfl (st1 := [vI _, vI _]) (fun _ => rfl) ?_
  refine g_icmp_eqT hX 1623 rfl rfl rfl ?_
  refine g_widen (cs' := (cs.1 + 1, cs.2 + 6)) (by show cs.1 ≤ cs.1 + 1; omega) (by show cs.2 ≤ cs.2 + 6; omega) ?_
  exact kk
def c_28 (M : PM) (a1 : Int32) : Option PM := stepI (w_right M a1) (fun M => F_X11_right_99 M a1)
set_option maxRecDepth 100000 in
theorem case_28 {l : Launch} (hl : l.stackTraces = false) {X : GX} {cs : Nat × Nat} {L : Nat} {xs : Nat → Int32} {i : Int32} {M M' : PM} (hX : GOK Y_L_law_ X) (hs : SCR X L xs) (hc : cs.1 + 1 ≤ 601024 ∧ cs.2 + 6 ≤ 7293034) (hi1 : vp_in (i + 1) L) (h : c_28 M (xs (i + 1).toNatClampNeg) = some M') (kk : PG l room_1 Y_L_law_ X (cs.1 + 1, cs.2 + 6) k_L_law__2674 [vR 99999, vR 0, vR 99, vR 129, vI i, jk, jk, jk] [] M') : PG l room_1 Y_L_law_ X cs k_L_law__1973 [vR 99999, vR 0, vR 99, vR 129, vI i, jk, jk, jk] [] M := by
  have hc0 : cs.1 ≤ 601024 ∧ cs.2 ≤ 7293034 := ⟨by omega, by omega⟩
  have hc2 : (cs.1 + 1, cs.2 + 6).1 ≤ 601024 ∧ (cs.1 + 1, cs.2 + 6).2 ≤ 7293034 := hc
  unfold c_28 at h
  obtain ⟨k, M1, b, M2, hw, hg, ht, hk2⟩ := stepI_inv h
  refine g_aload_n hX rfl ?_
  refine g_aload_n hX rfl ?_
  refine g_iload hX rfl ?_
  refine g_iconst hX (v := 1) rfl ?_
  refine g_iadd hX ?_
  refine g_sld hX hs hi1 ?_
  refine g_aload_n hX rfl ?_
  refine g_callW (d2 := 9) (n := 3) (av := [_, _, _]) hX rfl ⟨cw_L_right, mU_1 0 rfl rfl, mU_6 75 rfl rfl, mU_6 76 rfl rfl, ⟨by decide, by decide, by decide +kernel⟩, rfl, (Nat.le_of_ble_eq_true rfl)⟩ ⟨(Nat.le_of_ble_eq_true rfl), (Nat.le_of_ble_eq_true rfl), hc.1, hc.2⟩ (Nat.le_of_ble_eq_true rfl) (pw_right hl hw) rfl ?_
  refine g_istore hX (Nat.le_of_ble_eq_true rfl) rfl ?_
  refine g_aload_n hX rfl ?_
  refine g_aload_n hX rfl ?_
  refine g_iload hX rfl ?_
  refine g_iconst hX (v := 1) rfl ?_
  refine g_iadd hX ?_
  refine g_sld hX hs hi1 ?_
  refine g_call (d2 := 1) (as := [_]) hX ⟨mok_X11_right, rfl, ⟨11, 0, gt_99, rfl⟩, ins_X11_right, lkl_232⟩ ⟨(Nat.le_of_ble_eq_true rfl), (Nat.le_of_ble_eq_true rfl), hc2.1, hc2.2⟩ (Nat.le_of_ble_eq_true rfl) (pc_X11_right_99 hl hg) rfl (st1 := [vI _]) (fun _ => rfl) ?_
  refine g_istore hX (Nat.le_of_ble_eq_true rfl) rfl ?_
  refine g_aload_n hX rfl ?_
  refine g_call (d2 := 0) (as := []) hX ⟨mok_X11_thrown, rfl, ⟨11, 0, gt_99, rfl⟩, ins_X11_thrown, lkl_139⟩ ⟨(Nat.le_of_ble_eq_true rfl), (Nat.le_of_ble_eq_true rfl), hc2.1, hc2.2⟩ (Nat.le_of_ble_eq_true rfl) (pc_X11_thrown_99 hl ht) rfl (st1 := [vI _]) (fun _ => rfl) ?_
  refine g_iload hX rfl ?_
  refine g_icmp_eqT hX 1186 rfl rfl rfl ?_
  refine g_iload hX rfl ?_
  by_cases hk : k = 0
  · refine g_if_neF (tg := 2026) hX rfl (fun n => n hk) ?_
    refine g_aload_n hX rfl ?_
    refine g_iconst hX (v := 0) rfl ?_
    refine g_lald hX gt_129 rfl ?_
    refine g_iload hX rfl ?_
    refine g_i2l hX ?_
    refine g_lcmp hX ?_
    refine g_if_eqT hX 1197 rfl rfl (by first | exact (congrArg (fun z => lg_cmp z _) (hk2 hk)).trans (lg_cmp_self _) | exact lg_cmp_self _) ?_
    refine g_goto hX 1623 rfl rfl ?_
    exact g_fg kk ⟨Or.inr rfl, Or.inr rfl, Or.inr rfl, Or.inr rfl, Or.inr rfl, Or.inl rfl, Or.inl rfl, Or.inl rfl, trivial⟩
  · refine g_if_neT hX 1197 rfl rfl hk ?_
    refine g_goto hX 1623 rfl rfl ?_
    exact g_fg kk ⟨Or.inr rfl, Or.inr rfl, Or.inr rfl, Or.inr rfl, Or.inr rfl, Or.inl rfl, Or.inl rfl, Or.inl rfl, trivial⟩
def c_29 (M : PM) (a1 : Int32) (a2 : Int32) : Option PM := stepI (w_work M a1 a2) (fun M => F_X11_work_99 M a1 a2)
set_option maxRecDepth 100000 in
theorem case_29 {l : Launch} (hl : l.stackTraces = false) {X : GX} {cs : Nat × Nat} {L : Nat} {xs : Nat → Int32} {i : Int32} {M M' : PM} (hX : GOK Y_L_law_ X) (hs : SCR X L xs) (hc : cs.1 + 1 ≤ 601024 ∧ cs.2 + 6 ≤ 7293034) (hi1 : vp_in (i + 1) L) (hi2 : vp_in (i + 2) L) (h : c_29 M (xs (i + 1).toNatClampNeg) (xs (i + 2).toNatClampNeg) = some M') (kk : PG l room_1 Y_L_law_ X (cs.1 + 1, cs.2 + 6) k_L_law__2674 [vR 99999, vR 0, vR 99, vR 129, vI i, jk, jk, jk] [] M') : PG l room_1 Y_L_law_ X cs k_L_law__2029 [vR 99999, vR 0, vR 99, vR 129, vI i, jk, jk, jk] [] M := by
  have hc0 : cs.1 ≤ 601024 ∧ cs.2 ≤ 7293034 := ⟨by omega, by omega⟩
  have hc2 : (cs.1 + 1, cs.2 + 6).1 ≤ 601024 ∧ (cs.1 + 1, cs.2 + 6).2 ≤ 7293034 := hc
  unfold c_29 at h
  obtain ⟨k, M1, b, M2, hw, hg, ht, hk2⟩ := stepI_inv h
  refine g_aload_n hX rfl ?_
  refine g_aload_n hX rfl ?_
  refine g_iload hX rfl ?_
  refine g_iconst hX (v := 1) rfl ?_
  refine g_iadd hX ?_
  refine g_sld hX hs hi1 ?_
  refine g_aload_n hX rfl ?_
  refine g_iload hX rfl ?_
  refine g_iconst hX (v := 2) rfl ?_
  refine g_iadd hX ?_
  refine g_sld hX hs hi2 ?_
  refine g_aload_n hX rfl ?_
  refine g_callW (d2 := 9) (n := 4) (av := [_, _, _, _]) hX rfl ⟨cw_L_work, mU_1 0 rfl rfl, mU_6 91 rfl rfl, mU_6 92 rfl rfl, ⟨by decide, by decide, by decide +kernel⟩, rfl, (Nat.le_of_ble_eq_true rfl)⟩ ⟨(Nat.le_of_ble_eq_true rfl), (Nat.le_of_ble_eq_true rfl), hc.1, hc.2⟩ (Nat.le_of_ble_eq_true rfl) (pw_work hl hw) rfl ?_
  refine g_istore hX (Nat.le_of_ble_eq_true rfl) rfl ?_
  refine g_aload_n hX rfl ?_
  refine g_aload_n hX rfl ?_
  refine g_iload hX rfl ?_
  refine g_iconst hX (v := 1) rfl ?_
  refine g_iadd hX ?_
  refine g_sld hX hs hi1 ?_
  refine g_aload_n hX rfl ?_
  refine g_iload hX rfl ?_
  refine g_iconst hX (v := 2) rfl ?_
  refine g_iadd hX ?_
  refine g_sld hX hs hi2 ?_
  refine g_call (d2 := 2) (as := [_, _]) hX ⟨mok_X11_work, rfl, ⟨11, 0, gt_99, rfl⟩, ins_X11_work, lkl_235⟩ ⟨(Nat.le_of_ble_eq_true rfl), (Nat.le_of_ble_eq_true rfl), hc2.1, hc2.2⟩ (Nat.le_of_ble_eq_true rfl) (pc_X11_work_99 hl hg) rfl (st1 := [vI _]) (fun _ => rfl) ?_
  refine g_istore hX (Nat.le_of_ble_eq_true rfl) rfl ?_
  refine g_aload_n hX rfl ?_
  refine g_call (d2 := 0) (as := []) hX ⟨mok_X11_thrown, rfl, ⟨11, 0, gt_99, rfl⟩, ins_X11_thrown, lkl_139⟩ ⟨(Nat.le_of_ble_eq_true rfl), (Nat.le_of_ble_eq_true rfl), hc2.1, hc2.2⟩ (Nat.le_of_ble_eq_true rfl) (pc_X11_thrown_99 hl ht) rfl (st1 := [vI _]) (fun _ => rfl) ?_
  refine g_iload hX rfl ?_
  refine g_icmp_eqT hX 1231 rfl rfl rfl ?_
  refine g_iload hX rfl ?_
  by_cases hk : k = 0
  · refine g_if_neF (tg := 2094) hX rfl (fun n => n hk) ?_
    refine g_aload_n hX rfl ?_
    refine g_iconst hX (v := 0) rfl ?_
    refine g_lald hX gt_129 rfl ?_
    refine g_iload hX rfl ?_
    refine g_i2l hX ?_
    refine g_lcmp hX ?_
    refine g_if_eqT hX 1242 rfl rfl (by first | exact (congrArg (fun z => lg_cmp z _) (hk2 hk)).trans (lg_cmp_self _) | exact lg_cmp_self _) ?_
    refine g_goto hX 1623 rfl rfl ?_
    exact g_fg kk ⟨Or.inr rfl, Or.inr rfl, Or.inr rfl, Or.inr rfl, Or.inr rfl, Or.inl rfl, Or.inl rfl, Or.inl rfl, trivial⟩
  · refine g_if_neT hX 1242 rfl rfl hk ?_
    refine g_goto hX 1623 rfl rfl ?_
    exact g_fg kk ⟨Or.inr rfl, Or.inr rfl, Or.inr rfl, Or.inr rfl, Or.inr rfl, Or.inl rfl, Or.inl rfl, Or.inl rfl, trivial⟩
def c_30 (M : PM) (a1 : Int32) (a2 : Int32) : Option PM := stepI (w_done M a1 a2) (fun M => F_X11_done_99 M a1 a2)
set_option maxRecDepth 100000 in
theorem case_30 {l : Launch} (hl : l.stackTraces = false) {X : GX} {cs : Nat × Nat} {L : Nat} {xs : Nat → Int32} {i : Int32} {M M' : PM} (hX : GOK Y_L_law_ X) (hs : SCR X L xs) (hc : cs.1 + 1 ≤ 601024 ∧ cs.2 + 6 ≤ 7293034) (hi1 : vp_in (i + 1) L) (hi2 : vp_in (i + 2) L) (h : c_30 M (xs (i + 1).toNatClampNeg) (xs (i + 2).toNatClampNeg) = some M') (kk : PG l room_1 Y_L_law_ X (cs.1 + 1, cs.2 + 6) k_L_law__2674 [vR 99999, vR 0, vR 99, vR 129, vI i, jk, jk, jk] [] M') : PG l room_1 Y_L_law_ X cs k_L_law__2097 [vR 99999, vR 0, vR 99, vR 129, vI i, jk, jk, jk] [] M := by
  have hc0 : cs.1 ≤ 601024 ∧ cs.2 ≤ 7293034 := ⟨by omega, by omega⟩
  have hc2 : (cs.1 + 1, cs.2 + 6).1 ≤ 601024 ∧ (cs.1 + 1, cs.2 + 6).2 ≤ 7293034 := hc
  unfold c_30 at h
  obtain ⟨k, M1, b, M2, hw, hg, ht, hk2⟩ := stepI_inv h
  refine g_aload_n hX rfl ?_
  refine g_aload_n hX rfl ?_
  refine g_iload hX rfl ?_
  refine g_iconst hX (v := 1) rfl ?_
  refine g_iadd hX ?_
  refine g_sld hX hs hi1 ?_
  refine g_aload_n hX rfl ?_
  refine g_iload hX rfl ?_
  refine g_iconst hX (v := 2) rfl ?_
  refine g_iadd hX ?_
  refine g_sld hX hs hi2 ?_
  refine g_aload_n hX rfl ?_
  refine g_callW (d2 := 9) (n := 4) (av := [_, _, _, _]) hX rfl ⟨cw_L_done, mU_1 0 rfl rfl, mU_6 102 rfl rfl, mU_6 103 rfl rfl, ⟨by decide, by decide, by decide +kernel⟩, rfl, (Nat.le_of_ble_eq_true rfl)⟩ ⟨(Nat.le_of_ble_eq_true rfl), (Nat.le_of_ble_eq_true rfl), hc.1, hc.2⟩ (Nat.le_of_ble_eq_true rfl) (pw_done hl hw) rfl ?_
  refine g_istore hX (Nat.le_of_ble_eq_true rfl) rfl ?_
  refine g_aload_n hX rfl ?_
  refine g_aload_n hX rfl ?_
  refine g_iload hX rfl ?_
  refine g_iconst hX (v := 1) rfl ?_
  refine g_iadd hX ?_
  refine g_sld hX hs hi1 ?_
  refine g_aload_n hX rfl ?_
  refine g_iload hX rfl ?_
  refine g_iconst hX (v := 2) rfl ?_
  refine g_iadd hX ?_
  refine g_sld hX hs hi2 ?_
  refine g_call (d2 := 4) (as := [_, _]) hX ⟨mok_X11_done, rfl, ⟨11, 0, gt_99, rfl⟩, ins_X11_done, lkl_238⟩ ⟨(Nat.le_of_ble_eq_true rfl), (Nat.le_of_ble_eq_true rfl), hc2.1, hc2.2⟩ (Nat.le_of_ble_eq_true rfl) (pc_X11_done_99 hl hg) rfl (st1 := [vI _]) (fun _ => rfl) ?_
  refine g_istore hX (Nat.le_of_ble_eq_true rfl) rfl ?_
  refine g_aload_n hX rfl ?_
  refine g_call (d2 := 0) (as := []) hX ⟨mok_X11_thrown, rfl, ⟨11, 0, gt_99, rfl⟩, ins_X11_thrown, lkl_139⟩ ⟨(Nat.le_of_ble_eq_true rfl), (Nat.le_of_ble_eq_true rfl), hc2.1, hc2.2⟩ (Nat.le_of_ble_eq_true rfl) (pc_X11_thrown_99 hl ht) rfl (st1 := [vI _]) (fun _ => rfl) ?_
  refine g_iload hX rfl ?_
  refine g_icmp_eqT hX 1276 rfl rfl rfl ?_
  refine g_iload hX rfl ?_
  by_cases hk : k = 0
  · refine g_if_neF (tg := 2162) hX rfl (fun n => n hk) ?_
    refine g_aload_n hX rfl ?_
    refine g_iconst hX (v := 0) rfl ?_
    refine g_lald hX gt_129 rfl ?_
    refine g_iload hX rfl ?_
    refine g_i2l hX ?_
    refine g_lcmp hX ?_
    refine g_if_eqT hX 1287 rfl rfl (by first | exact (congrArg (fun z => lg_cmp z _) (hk2 hk)).trans (lg_cmp_self _) | exact lg_cmp_self _) ?_
    refine g_goto hX 1623 rfl rfl ?_
    exact g_fg kk ⟨Or.inr rfl, Or.inr rfl, Or.inr rfl, Or.inr rfl, Or.inr rfl, Or.inl rfl, Or.inl rfl, Or.inl rfl, trivial⟩
  · refine g_if_neT hX 1287 rfl rfl hk ?_
    refine g_goto hX 1623 rfl rfl ?_
    exact g_fg kk ⟨Or.inr rfl, Or.inr rfl, Or.inr rfl, Or.inr rfl, Or.inr rfl, Or.inl rfl, Or.inl rfl, Or.inl rfl, trivial⟩
def c_31 (M : PM) (a1 : Int32) (a2 : Int32) : Option PM := stepI (w_begun M a1 a2) (fun M => F_X11_begun_99 M a1 a2)
set_option maxRecDepth 100000 in
theorem case_31 {l : Launch} (hl : l.stackTraces = false) {X : GX} {cs : Nat × Nat} {L : Nat} {xs : Nat → Int32} {i : Int32} {M M' : PM} (hX : GOK Y_L_law_ X) (hs : SCR X L xs) (hc : cs.1 + 1 ≤ 601024 ∧ cs.2 + 6 ≤ 7293034) (hi1 : vp_in (i + 1) L) (hi2 : vp_in (i + 2) L) (h : c_31 M (xs (i + 1).toNatClampNeg) (xs (i + 2).toNatClampNeg) = some M') (kk : PG l room_1 Y_L_law_ X (cs.1 + 1, cs.2 + 6) k_L_law__2674 [vR 99999, vR 0, vR 99, vR 129, vI i, jk, jk, jk] [] M') : PG l room_1 Y_L_law_ X cs k_L_law__2165 [vR 99999, vR 0, vR 99, vR 129, vI i, jk, jk, jk] [] M := by
  have hc0 : cs.1 ≤ 601024 ∧ cs.2 ≤ 7293034 := ⟨by omega, by omega⟩
  have hc2 : (cs.1 + 1, cs.2 + 6).1 ≤ 601024 ∧ (cs.1 + 1, cs.2 + 6).2 ≤ 7293034 := hc
  unfold c_31 at h
  obtain ⟨k, M1, b, M2, hw, hg, ht, hk2⟩ := stepI_inv h
  refine g_aload_n hX rfl ?_
  refine g_aload_n hX rfl ?_
  refine g_iload hX rfl ?_
  refine g_iconst hX (v := 1) rfl ?_
  refine g_iadd hX ?_
  refine g_sld hX hs hi1 ?_
  refine g_aload_n hX rfl ?_
  refine g_iload hX rfl ?_
  refine g_iconst hX (v := 2) rfl ?_
  refine g_iadd hX ?_
  refine g_sld hX hs hi2 ?_
  refine g_aload_n hX rfl ?_
  refine g_callW (d2 := 9) (n := 4) (av := [_, _, _, _]) hX rfl ⟨cw_L_begun, mU_1 0 rfl rfl, mU_6 131 rfl rfl, mU_6 132 rfl rfl, ⟨by decide, by decide, by decide +kernel⟩, rfl, (Nat.le_of_ble_eq_true rfl)⟩ ⟨(Nat.le_of_ble_eq_true rfl), (Nat.le_of_ble_eq_true rfl), hc.1, hc.2⟩ (Nat.le_of_ble_eq_true rfl) (pw_begun hl hw) rfl ?_
  refine g_istore hX (Nat.le_of_ble_eq_true rfl) rfl ?_
  refine g_aload_n hX rfl ?_
  refine g_aload_n hX rfl ?_
  refine g_iload hX rfl ?_
  refine g_iconst hX (v := 1) rfl ?_
  refine g_iadd hX ?_
  refine g_sld hX hs hi1 ?_
  refine g_aload_n hX rfl ?_
  refine g_iload hX rfl ?_
  refine g_iconst hX (v := 2) rfl ?_
  refine g_iadd hX ?_
  refine g_sld hX hs hi2 ?_
  refine g_call (d2 := 4) (as := [_, _]) hX ⟨mok_X11_begun, rfl, ⟨11, 0, gt_99, rfl⟩, ins_X11_begun, lkl_241⟩ ⟨(Nat.le_of_ble_eq_true rfl), (Nat.le_of_ble_eq_true rfl), hc2.1, hc2.2⟩ (Nat.le_of_ble_eq_true rfl) (pc_X11_begun_99 hl hg) rfl (st1 := [vI _]) (fun _ => rfl) ?_
  refine g_istore hX (Nat.le_of_ble_eq_true rfl) rfl ?_
  refine g_aload_n hX rfl ?_
  refine g_call (d2 := 0) (as := []) hX ⟨mok_X11_thrown, rfl, ⟨11, 0, gt_99, rfl⟩, ins_X11_thrown, lkl_139⟩ ⟨(Nat.le_of_ble_eq_true rfl), (Nat.le_of_ble_eq_true rfl), hc2.1, hc2.2⟩ (Nat.le_of_ble_eq_true rfl) (pc_X11_thrown_99 hl ht) rfl (st1 := [vI _]) (fun _ => rfl) ?_
  refine g_iload hX rfl ?_
  refine g_icmp_eqT hX 1321 rfl rfl rfl ?_
  refine g_iload hX rfl ?_
  by_cases hk : k = 0
  · refine g_if_neF (tg := 2230) hX rfl (fun n => n hk) ?_
    refine g_aload_n hX rfl ?_
    refine g_iconst hX (v := 0) rfl ?_
    refine g_lald hX gt_129 rfl ?_
    refine g_iload hX rfl ?_
    refine g_i2l hX ?_
    refine g_lcmp hX ?_
    refine g_if_eqT hX 1332 rfl rfl (by first | exact (congrArg (fun z => lg_cmp z _) (hk2 hk)).trans (lg_cmp_self _) | exact lg_cmp_self _) ?_
    refine g_goto hX 1623 rfl rfl ?_
    exact g_fg kk ⟨Or.inr rfl, Or.inr rfl, Or.inr rfl, Or.inr rfl, Or.inr rfl, Or.inl rfl, Or.inl rfl, Or.inl rfl, trivial⟩
  · refine g_if_neT hX 1332 rfl rfl hk ?_
    refine g_goto hX 1623 rfl rfl ?_
    exact g_fg kk ⟨Or.inr rfl, Or.inr rfl, Or.inr rfl, Or.inr rfl, Or.inr rfl, Or.inl rfl, Or.inl rfl, Or.inl rfl, trivial⟩
def c_32 (M : PM) (a1 : Int32) (a2 : Int32) : Option PM := stepI (w_soonest M a1 a2) (fun M => F_X11_soonest_99 M a1 a2)
set_option maxRecDepth 100000 in
theorem case_32 {l : Launch} (hl : l.stackTraces = false) {X : GX} {cs : Nat × Nat} {L : Nat} {xs : Nat → Int32} {i : Int32} {M M' : PM} (hX : GOK Y_L_law_ X) (hs : SCR X L xs) (hc : cs.1 + 1 ≤ 601024 ∧ cs.2 + 6 ≤ 7293034) (hi1 : vp_in (i + 1) L) (hi2 : vp_in (i + 2) L) (h : c_32 M (xs (i + 1).toNatClampNeg) (xs (i + 2).toNatClampNeg) = some M') (kk : PG l room_1 Y_L_law_ X (cs.1 + 1, cs.2 + 6) k_L_law__2674 [vR 99999, vR 0, vR 99, vR 129, vI i, jk, jk, jk] [] M') : PG l room_1 Y_L_law_ X cs k_L_law__2233 [vR 99999, vR 0, vR 99, vR 129, vI i, jk, jk, jk] [] M := by
  have hc0 : cs.1 ≤ 601024 ∧ cs.2 ≤ 7293034 := ⟨by omega, by omega⟩
  have hc2 : (cs.1 + 1, cs.2 + 6).1 ≤ 601024 ∧ (cs.1 + 1, cs.2 + 6).2 ≤ 7293034 := hc
  unfold c_32 at h
  obtain ⟨k, M1, b, M2, hw, hg, ht, hk2⟩ := stepI_inv h
  refine g_aload_n hX rfl ?_
  refine g_aload_n hX rfl ?_
  refine g_iload hX rfl ?_
  refine g_iconst hX (v := 1) rfl ?_
  refine g_iadd hX ?_
  refine g_sld hX hs hi1 ?_
  refine g_aload_n hX rfl ?_
  refine g_iload hX rfl ?_
  refine g_iconst hX (v := 2) rfl ?_
  refine g_iadd hX ?_
  refine g_sld hX hs hi2 ?_
  refine g_aload_n hX rfl ?_
  refine g_callW (d2 := 9) (n := 4) (av := [_, _, _, _]) hX rfl ⟨cw_L_soonest, mU_1 0 rfl rfl, mU_6 153 rfl rfl, mU_6 154 rfl rfl, ⟨by decide, by decide, by decide +kernel⟩, rfl, (Nat.le_of_ble_eq_true rfl)⟩ ⟨(Nat.le_of_ble_eq_true rfl), (Nat.le_of_ble_eq_true rfl), hc.1, hc.2⟩ (Nat.le_of_ble_eq_true rfl) (pw_soonest hl hw) rfl ?_
  refine g_istore hX (Nat.le_of_ble_eq_true rfl) rfl ?_
  refine g_aload_n hX rfl ?_
  refine g_aload_n hX rfl ?_
  refine g_iload hX rfl ?_
  refine g_iconst hX (v := 1) rfl ?_
  refine g_iadd hX ?_
  refine g_sld hX hs hi1 ?_
  refine g_aload_n hX rfl ?_
  refine g_iload hX rfl ?_
  refine g_iconst hX (v := 2) rfl ?_
  refine g_iadd hX ?_
  refine g_sld hX hs hi2 ?_
  refine g_call (d2 := 5) (as := [_, _]) hX ⟨mok_X11_soonest, rfl, ⟨11, 0, gt_99, rfl⟩, ins_X11_soonest, lkl_244⟩ ⟨(Nat.le_of_ble_eq_true rfl), (Nat.le_of_ble_eq_true rfl), hc2.1, hc2.2⟩ (Nat.le_of_ble_eq_true rfl) (pc_X11_soonest_99 hl hg) rfl (st1 := [vI _]) (fun _ => rfl) ?_
  refine g_istore hX (Nat.le_of_ble_eq_true rfl) rfl ?_
  refine g_aload_n hX rfl ?_
  refine g_call (d2 := 0) (as := []) hX ⟨mok_X11_thrown, rfl, ⟨11, 0, gt_99, rfl⟩, ins_X11_thrown, lkl_139⟩ ⟨(Nat.le_of_ble_eq_true rfl), (Nat.le_of_ble_eq_true rfl), hc2.1, hc2.2⟩ (Nat.le_of_ble_eq_true rfl) (pc_X11_thrown_99 hl ht) rfl (st1 := [vI _]) (fun _ => rfl) ?_
  refine g_iload hX rfl ?_
  refine g_icmp_eqT hX 1366 rfl rfl rfl ?_
  refine g_iload hX rfl ?_
  by_cases hk : k = 0
  · refine g_if_neF (tg := 2298) hX rfl (fun n => n hk) ?_
    refine g_aload_n hX rfl ?_
    refine g_iconst hX (v := 0) rfl ?_
    refine g_lald hX gt_129 rfl ?_
    refine g_iload hX rfl ?_
    refine g_i2l hX ?_
    refine g_lcmp hX ?_
    refine g_if_eqT hX 1377 rfl rfl (by first | exact (congrArg (fun z => lg_cmp z _) (hk2 hk)).trans (lg_cmp_self _) | exact lg_cmp_self _) ?_
    refine g_goto hX 1623 rfl rfl ?_
    exact g_fg kk ⟨Or.inr rfl, Or.inr rfl, Or.inr rfl, Or.inr rfl, Or.inr rfl, Or.inl rfl, Or.inl rfl, Or.inl rfl, trivial⟩
  · refine g_if_neT hX 1377 rfl rfl hk ?_
    refine g_goto hX 1623 rfl rfl ?_
    exact g_fg kk ⟨Or.inr rfl, Or.inr rfl, Or.inr rfl, Or.inr rfl, Or.inr rfl, Or.inl rfl, Or.inl rfl, Or.inl rfl, trivial⟩
def c_33 (M : PM)  : Option PM := dirI (F_X10_rest_0 M ) (fun M => F_X11_rest_99 M )
set_option maxRecDepth 100000 in
theorem case_33 {l : Launch} (hl : l.stackTraces = false) {X : GX} {cs : Nat × Nat} {L : Nat} {xs : Nat → Int32} {i : Int32} {M M' : PM} (hX : GOK Y_L_law_ X) (hs : SCR X L xs) (hc : cs.1 + 1 ≤ 601024 ∧ cs.2 + 6 ≤ 7293034)  (h : c_33 M  = some M') (kk : PG l room_1 Y_L_law_ X (cs.1 + 1, cs.2 + 6) k_L_law__2674 [vR 99999, vR 0, vR 99, vR 129, vI i, jk, jk, jk] [] M') : PG l room_1 Y_L_law_ X cs k_L_law__2301 [vR 99999, vR 0, vR 99, vR 129, vI i, jk, jk, jk] [] M := by
  have hc0 : cs.1 ≤ 601024 ∧ cs.2 ≤ 7293034 := ⟨by omega, by omega⟩
  have hc2 : (cs.1 + 1, cs.2 + 6).1 ≤ 601024 ∧ (cs.1 + 1, cs.2 + 6).2 ≤ 7293034 := hc
  unfold c_33 at h
  obtain ⟨x, M1, hf, hg⟩ := dirI_inv h
  refine g_aload_n hX rfl ?_
  refine g_call (d2 := 0) (as := []) hX ⟨mok_X10_rest, rfl, ⟨10, 0, gt_0, rfl⟩, ins_X10_rest, lkl_245⟩ ⟨(Nat.le_of_ble_eq_true rfl), (Nat.le_of_ble_eq_true rfl), hc0.1, hc0.2⟩ (Nat.le_of_ble_eq_true rfl) (pc_X10_rest_0 hl hf) rfl (st1 := [vI _]) (fun _ => rfl) ?_
  refine g_aload_n hX rfl ?_
  refine g_call (d2 := 0) (as := []) hX ⟨mok_X11_rest, rfl, ⟨11, 0, gt_99, rfl⟩, ins_X11_rest, lkl_248⟩ ⟨(Nat.le_of_ble_eq_true rfl), (Nat.le_of_ble_eq_true rfl), hc0.1, hc0.2⟩ (Nat.le_of_ble_eq_true rfl) (pc_X11_rest_99 hl hg) rfl (st1 := [vI _, vI _]) (fun _ => rfl) ?_
  refine g_icmp_eqT hX 1623 rfl rfl rfl ?_
  refine g_widen (cs' := (cs.1 + 1, cs.2 + 6)) (by show cs.1 ≤ cs.1 + 1; omega) (by show cs.2 ≤ cs.2 + 6; omega) ?_
  exact kk
def c_34 (M : PM) (a1 : Int32) (a2 : Int32) : Option PM := stepI (w_thief M a1 a2) (fun M => F_X11_thief_99 M a1 a2)
set_option maxRecDepth 100000 in
theorem case_34 {l : Launch} (hl : l.stackTraces = false) {X : GX} {cs : Nat × Nat} {L : Nat} {xs : Nat → Int32} {i : Int32} {M M' : PM} (hX : GOK Y_L_law_ X) (hs : SCR X L xs) (hc : cs.1 + 1 ≤ 601024 ∧ cs.2 + 6 ≤ 7293034) (hi1 : vp_in (i + 1) L) (hi2 : vp_in (i + 2) L) (h : c_34 M (xs (i + 1).toNatClampNeg) (xs (i + 2).toNatClampNeg) = some M') (kk : PG l room_1 Y_L_law_ X (cs.1 + 1, cs.2 + 6) k_L_law__2674 [vR 99999, vR 0, vR 99, vR 129, vI i, jk, jk, jk] [] M') : PG l room_1 Y_L_law_ X cs k_L_law__2314 [vR 99999, vR 0, vR 99, vR 129, vI i, jk, jk, jk] [] M := by
  have hc0 : cs.1 ≤ 601024 ∧ cs.2 ≤ 7293034 := ⟨by omega, by omega⟩
  have hc2 : (cs.1 + 1, cs.2 + 6).1 ≤ 601024 ∧ (cs.1 + 1, cs.2 + 6).2 ≤ 7293034 := hc
  unfold c_34 at h
  obtain ⟨k, M1, b, M2, hw, hg, ht, hk2⟩ := stepI_inv h
  refine g_aload_n hX rfl ?_
  refine g_aload_n hX rfl ?_
  refine g_iload hX rfl ?_
  refine g_iconst hX (v := 1) rfl ?_
  refine g_iadd hX ?_
  refine g_sld hX hs hi1 ?_
  refine g_aload_n hX rfl ?_
  refine g_iload hX rfl ?_
  refine g_iconst hX (v := 2) rfl ?_
  refine g_iadd hX ?_
  refine g_sld hX hs hi2 ?_
  refine g_aload_n hX rfl ?_
  refine g_callW (d2 := 10) (n := 4) (av := [_, _, _, _]) hX rfl ⟨cw_L_thief, mU_1 0 rfl rfl, mU_6 200 rfl rfl, mU_6 201 rfl rfl, ⟨by decide, by decide, by decide +kernel⟩, rfl, (Nat.le_of_ble_eq_true rfl)⟩ ⟨(Nat.le_of_ble_eq_true rfl), (Nat.le_of_ble_eq_true rfl), hc.1, hc.2⟩ (Nat.le_of_ble_eq_true rfl) (pw_thief hl hw) rfl ?_
  refine g_istore hX (Nat.le_of_ble_eq_true rfl) rfl ?_
  refine g_aload_n hX rfl ?_
  refine g_aload_n hX rfl ?_
  refine g_iload hX rfl ?_
  refine g_iconst hX (v := 1) rfl ?_
  refine g_iadd hX ?_
  refine g_sld hX hs hi1 ?_
  refine g_aload_n hX rfl ?_
  refine g_iload hX rfl ?_
  refine g_iconst hX (v := 2) rfl ?_
  refine g_iadd hX ?_
  refine g_sld hX hs hi2 ?_
  refine g_call (d2 := 3) (as := [_, _]) hX ⟨mok_X11_thief, rfl, ⟨11, 0, gt_99, rfl⟩, ins_X11_thief, lkl_251⟩ ⟨(Nat.le_of_ble_eq_true rfl), (Nat.le_of_ble_eq_true rfl), hc2.1, hc2.2⟩ (Nat.le_of_ble_eq_true rfl) (pc_X11_thief_99 hl hg) rfl (st1 := [vI _]) (fun _ => rfl) ?_
  refine g_istore hX (Nat.le_of_ble_eq_true rfl) rfl ?_
  refine g_aload_n hX rfl ?_
  refine g_call (d2 := 0) (as := []) hX ⟨mok_X11_thrown, rfl, ⟨11, 0, gt_99, rfl⟩, ins_X11_thrown, lkl_139⟩ ⟨(Nat.le_of_ble_eq_true rfl), (Nat.le_of_ble_eq_true rfl), hc2.1, hc2.2⟩ (Nat.le_of_ble_eq_true rfl) (pc_X11_thrown_99 hl ht) rfl (st1 := [vI _]) (fun _ => rfl) ?_
  refine g_iload hX rfl ?_
  refine g_icmp_eqT hX 1418 rfl rfl rfl ?_
  refine g_iload hX rfl ?_
  by_cases hk : k = 0
  · refine g_if_neF (tg := 2379) hX rfl (fun n => n hk) ?_
    refine g_aload_n hX rfl ?_
    refine g_iconst hX (v := 0) rfl ?_
    refine g_lald hX gt_129 rfl ?_
    refine g_iload hX rfl ?_
    refine g_i2l hX ?_
    refine g_lcmp hX ?_
    refine g_if_eqT hX 1429 rfl rfl (by first | exact (congrArg (fun z => lg_cmp z _) (hk2 hk)).trans (lg_cmp_self _) | exact lg_cmp_self _) ?_
    refine g_goto hX 1623 rfl rfl ?_
    exact g_fg kk ⟨Or.inr rfl, Or.inr rfl, Or.inr rfl, Or.inr rfl, Or.inr rfl, Or.inl rfl, Or.inl rfl, Or.inl rfl, trivial⟩
  · refine g_if_neT hX 1429 rfl rfl hk ?_
    refine g_goto hX 1623 rfl rfl ?_
    exact g_fg kk ⟨Or.inr rfl, Or.inr rfl, Or.inr rfl, Or.inr rfl, Or.inr rfl, Or.inl rfl, Or.inl rfl, Or.inl rfl, trivial⟩
def c_35 (M : PM) (a1 : Int32) (a2 : Int32) : Option PM := stepI (w_guard M a1 a2) (fun M => F_X11_guard_99 M a1 a2)
set_option maxRecDepth 100000 in
theorem case_35 {l : Launch} (hl : l.stackTraces = false) {X : GX} {cs : Nat × Nat} {L : Nat} {xs : Nat → Int32} {i : Int32} {M M' : PM} (hX : GOK Y_L_law_ X) (hs : SCR X L xs) (hc : cs.1 + 1 ≤ 601024 ∧ cs.2 + 6 ≤ 7293034) (hi1 : vp_in (i + 1) L) (hi2 : vp_in (i + 2) L) (h : c_35 M (xs (i + 1).toNatClampNeg) (xs (i + 2).toNatClampNeg) = some M') (kk : PG l room_1 Y_L_law_ X (cs.1 + 1, cs.2 + 6) k_L_law__2674 [vR 99999, vR 0, vR 99, vR 129, vI i, jk, jk, jk] [] M') : PG l room_1 Y_L_law_ X cs k_L_law__2382 [vR 99999, vR 0, vR 99, vR 129, vI i, jk, jk, jk] [] M := by
  have hc0 : cs.1 ≤ 601024 ∧ cs.2 ≤ 7293034 := ⟨by omega, by omega⟩
  have hc2 : (cs.1 + 1, cs.2 + 6).1 ≤ 601024 ∧ (cs.1 + 1, cs.2 + 6).2 ≤ 7293034 := hc
  unfold c_35 at h
  obtain ⟨k, M1, b, M2, hw, hg, ht, hk2⟩ := stepI_inv h
  refine g_aload_n hX rfl ?_
  refine g_aload_n hX rfl ?_
  refine g_iload hX rfl ?_
  refine g_iconst hX (v := 1) rfl ?_
  refine g_iadd hX ?_
  refine g_sld hX hs hi1 ?_
  refine g_aload_n hX rfl ?_
  refine g_iload hX rfl ?_
  refine g_iconst hX (v := 2) rfl ?_
  refine g_iadd hX ?_
  refine g_sld hX hs hi2 ?_
  refine g_aload_n hX rfl ?_
  refine g_callW (d2 := 10) (n := 4) (av := [_, _, _, _]) hX rfl ⟨cw_L_guard, mU_1 0 rfl rfl, mU_6 217 rfl rfl, mU_6 218 rfl rfl, ⟨by decide, by decide, by decide +kernel⟩, rfl, (Nat.le_of_ble_eq_true rfl)⟩ ⟨(Nat.le_of_ble_eq_true rfl), (Nat.le_of_ble_eq_true rfl), hc.1, hc.2⟩ (Nat.le_of_ble_eq_true rfl) (pw_guard hl hw) rfl ?_
  refine g_istore hX (Nat.le_of_ble_eq_true rfl) rfl ?_
  refine g_aload_n hX rfl ?_
  refine g_aload_n hX rfl ?_
  refine g_iload hX rfl ?_
  refine g_iconst hX (v := 1) rfl ?_
  refine g_iadd hX ?_
  refine g_sld hX hs hi1 ?_
  refine g_aload_n hX rfl ?_
  refine g_iload hX rfl ?_
  refine g_iconst hX (v := 2) rfl ?_
  refine g_iadd hX ?_
  refine g_sld hX hs hi2 ?_
  refine g_call (d2 := 3) (as := [_, _]) hX ⟨mok_X11_guard, rfl, ⟨11, 0, gt_99, rfl⟩, ins_X11_guard, lkl_254⟩ ⟨(Nat.le_of_ble_eq_true rfl), (Nat.le_of_ble_eq_true rfl), hc2.1, hc2.2⟩ (Nat.le_of_ble_eq_true rfl) (pc_X11_guard_99 hl hg) rfl (st1 := [vI _]) (fun _ => rfl) ?_
  refine g_istore hX (Nat.le_of_ble_eq_true rfl) rfl ?_
  refine g_aload_n hX rfl ?_
  refine g_call (d2 := 0) (as := []) hX ⟨mok_X11_thrown, rfl, ⟨11, 0, gt_99, rfl⟩, ins_X11_thrown, lkl_139⟩ ⟨(Nat.le_of_ble_eq_true rfl), (Nat.le_of_ble_eq_true rfl), hc2.1, hc2.2⟩ (Nat.le_of_ble_eq_true rfl) (pc_X11_thrown_99 hl ht) rfl (st1 := [vI _]) (fun _ => rfl) ?_
  refine g_iload hX rfl ?_
  refine g_icmp_eqT hX 1463 rfl rfl rfl ?_
  refine g_iload hX rfl ?_
  by_cases hk : k = 0
  · refine g_if_neF (tg := 2447) hX rfl (fun n => n hk) ?_
    refine g_aload_n hX rfl ?_
    refine g_iconst hX (v := 0) rfl ?_
    refine g_lald hX gt_129 rfl ?_
    refine g_iload hX rfl ?_
    refine g_i2l hX ?_
    refine g_lcmp hX ?_
    refine g_if_eqT hX 1474 rfl rfl (by first | exact (congrArg (fun z => lg_cmp z _) (hk2 hk)).trans (lg_cmp_self _) | exact lg_cmp_self _) ?_
    refine g_goto hX 1623 rfl rfl ?_
    exact g_fg kk ⟨Or.inr rfl, Or.inr rfl, Or.inr rfl, Or.inr rfl, Or.inr rfl, Or.inl rfl, Or.inl rfl, Or.inl rfl, trivial⟩
  · refine g_if_neT hX 1474 rfl rfl hk ?_
    refine g_goto hX 1623 rfl rfl ?_
    exact g_fg kk ⟨Or.inr rfl, Or.inr rfl, Or.inr rfl, Or.inr rfl, Or.inr rfl, Or.inl rfl, Or.inl rfl, Or.inl rfl, trivial⟩
def c_36 (M : PM) (a1 : Int32) (a2 : Int32) : Option PM := stepI (w_trade M a1 a2) (fun M => F_X11_trade_99 M a1 a2)
set_option maxRecDepth 100000 in
theorem case_36 {l : Launch} (hl : l.stackTraces = false) {X : GX} {cs : Nat × Nat} {L : Nat} {xs : Nat → Int32} {i : Int32} {M M' : PM} (hX : GOK Y_L_law_ X) (hs : SCR X L xs) (hc : cs.1 + 1 ≤ 601024 ∧ cs.2 + 6 ≤ 7293034) (hi1 : vp_in (i + 1) L) (hi2 : vp_in (i + 2) L) (h : c_36 M (xs (i + 1).toNatClampNeg) (xs (i + 2).toNatClampNeg) = some M') (kk : PG l room_1 Y_L_law_ X (cs.1 + 1, cs.2 + 6) k_L_law__2674 [vR 99999, vR 0, vR 99, vR 129, vI i, jk, jk, jk] [] M') : PG l room_1 Y_L_law_ X cs k_L_law__2450 [vR 99999, vR 0, vR 99, vR 129, vI i, jk, jk, jk] [] M := by
  have hc0 : cs.1 ≤ 601024 ∧ cs.2 ≤ 7293034 := ⟨by omega, by omega⟩
  have hc2 : (cs.1 + 1, cs.2 + 6).1 ≤ 601024 ∧ (cs.1 + 1, cs.2 + 6).2 ≤ 7293034 := hc
  unfold c_36 at h
  obtain ⟨k, M1, b, M2, hw, hg, ht, hk2⟩ := stepI_inv h
  refine g_aload_n hX rfl ?_
  refine g_aload_n hX rfl ?_
  refine g_iload hX rfl ?_
  refine g_iconst hX (v := 1) rfl ?_
  refine g_iadd hX ?_
  refine g_sld hX hs hi1 ?_
  refine g_aload_n hX rfl ?_
  refine g_iload hX rfl ?_
  refine g_iconst hX (v := 2) rfl ?_
  refine g_iadd hX ?_
  refine g_sld hX hs hi2 ?_
  refine g_aload_n hX rfl ?_
  refine g_callW (d2 := 9) (n := 4) (av := [_, _, _, _]) hX rfl ⟨cw_L_trade, mU_1 0 rfl rfl, mU_6 229 rfl rfl, mU_6 230 rfl rfl, ⟨by decide, by decide, by decide +kernel⟩, rfl, (Nat.le_of_ble_eq_true rfl)⟩ ⟨(Nat.le_of_ble_eq_true rfl), (Nat.le_of_ble_eq_true rfl), hc.1, hc.2⟩ (Nat.le_of_ble_eq_true rfl) (pw_trade hl hw) rfl ?_
  refine g_istore hX (Nat.le_of_ble_eq_true rfl) rfl ?_
  refine g_aload_n hX rfl ?_
  refine g_aload_n hX rfl ?_
  refine g_iload hX rfl ?_
  refine g_iconst hX (v := 1) rfl ?_
  refine g_iadd hX ?_
  refine g_sld hX hs hi1 ?_
  refine g_aload_n hX rfl ?_
  refine g_iload hX rfl ?_
  refine g_iconst hX (v := 2) rfl ?_
  refine g_iadd hX ?_
  refine g_sld hX hs hi2 ?_
  refine g_call (d2 := 3) (as := [_, _]) hX ⟨mok_X11_trade, rfl, ⟨11, 0, gt_99, rfl⟩, ins_X11_trade, lkl_257⟩ ⟨(Nat.le_of_ble_eq_true rfl), (Nat.le_of_ble_eq_true rfl), hc2.1, hc2.2⟩ (Nat.le_of_ble_eq_true rfl) (pc_X11_trade_99 hl hg) rfl (st1 := [vI _]) (fun _ => rfl) ?_
  refine g_istore hX (Nat.le_of_ble_eq_true rfl) rfl ?_
  refine g_aload_n hX rfl ?_
  refine g_call (d2 := 0) (as := []) hX ⟨mok_X11_thrown, rfl, ⟨11, 0, gt_99, rfl⟩, ins_X11_thrown, lkl_139⟩ ⟨(Nat.le_of_ble_eq_true rfl), (Nat.le_of_ble_eq_true rfl), hc2.1, hc2.2⟩ (Nat.le_of_ble_eq_true rfl) (pc_X11_thrown_99 hl ht) rfl (st1 := [vI _]) (fun _ => rfl) ?_
  refine g_iload hX rfl ?_
  refine g_icmp_eqT hX 1508 rfl rfl rfl ?_
  refine g_iload hX rfl ?_
  by_cases hk : k = 0
  · refine g_if_neF (tg := 2515) hX rfl (fun n => n hk) ?_
    refine g_aload_n hX rfl ?_
    refine g_iconst hX (v := 0) rfl ?_
    refine g_lald hX gt_129 rfl ?_
    refine g_iload hX rfl ?_
    refine g_i2l hX ?_
    refine g_lcmp hX ?_
    refine g_if_eqT hX 1519 rfl rfl (by first | exact (congrArg (fun z => lg_cmp z _) (hk2 hk)).trans (lg_cmp_self _) | exact lg_cmp_self _) ?_
    refine g_goto hX 1623 rfl rfl ?_
    exact g_fg kk ⟨Or.inr rfl, Or.inr rfl, Or.inr rfl, Or.inr rfl, Or.inr rfl, Or.inl rfl, Or.inl rfl, Or.inl rfl, trivial⟩
  · refine g_if_neT hX 1519 rfl rfl hk ?_
    refine g_goto hX 1623 rfl rfl ?_
    exact g_fg kk ⟨Or.inr rfl, Or.inr rfl, Or.inr rfl, Or.inr rfl, Or.inr rfl, Or.inl rfl, Or.inl rfl, Or.inl rfl, trivial⟩
def c_37 (M : PM) (a1 : Int32) (a2 : Int32) (a3 : Int32) : Option PM := stepI (w_market M a1 a2 a3) (fun M => F_X11_market_99 M a1 a2 a3)
set_option maxRecDepth 100000 in
theorem case_37 {l : Launch} (hl : l.stackTraces = false) {X : GX} {cs : Nat × Nat} {L : Nat} {xs : Nat → Int32} {i : Int32} {M M' : PM} (hX : GOK Y_L_law_ X) (hs : SCR X L xs) (hc : cs.1 + 1 ≤ 601024 ∧ cs.2 + 6 ≤ 7293034) (hi1 : vp_in (i + 1) L) (hi2 : vp_in (i + 2) L) (hi3 : vp_in (i + 3) L) (h : c_37 M (xs (i + 1).toNatClampNeg) (xs (i + 2).toNatClampNeg) (xs (i + 3).toNatClampNeg) = some M') (kk : PG l room_1 Y_L_law_ X (cs.1 + 1, cs.2 + 6) k_L_law__2674 [vR 99999, vR 0, vR 99, vR 129, vI i, jk, jk, jk] [] M') : PG l room_1 Y_L_law_ X cs k_L_law__2518 [vR 99999, vR 0, vR 99, vR 129, vI i, jk, jk, jk] [] M := by
  have hc0 : cs.1 ≤ 601024 ∧ cs.2 ≤ 7293034 := ⟨by omega, by omega⟩
  have hc2 : (cs.1 + 1, cs.2 + 6).1 ≤ 601024 ∧ (cs.1 + 1, cs.2 + 6).2 ≤ 7293034 := hc
  unfold c_37 at h
  obtain ⟨k, M1, b, M2, hw, hg, ht, hk2⟩ := stepI_inv h
  refine g_aload_n hX rfl ?_
  refine g_aload_n hX rfl ?_
  refine g_iload hX rfl ?_
  refine g_iconst hX (v := 1) rfl ?_
  refine g_iadd hX ?_
  refine g_sld hX hs hi1 ?_
  refine g_aload_n hX rfl ?_
  refine g_iload hX rfl ?_
  refine g_iconst hX (v := 2) rfl ?_
  refine g_iadd hX ?_
  refine g_sld hX hs hi2 ?_
  refine g_aload_n hX rfl ?_
  refine g_iload hX rfl ?_
  refine g_iconst hX (v := 3) rfl ?_
  refine g_iadd hX ?_
  refine g_sld hX hs hi3 ?_
  refine g_aload_n hX rfl ?_
  refine g_callW (d2 := 9) (n := 5) (av := [_, _, _, _, _]) hX rfl ⟨cw_L_market, mU_1 0 rfl rfl, mU_7 1 rfl rfl, mU_7 2 rfl rfl, ⟨by decide, by decide, by decide +kernel⟩, rfl, (Nat.le_of_ble_eq_true rfl)⟩ ⟨(Nat.le_of_ble_eq_true rfl), (Nat.le_of_ble_eq_true rfl), hc.1, hc.2⟩ (Nat.le_of_ble_eq_true rfl) (pw_market hl hw) rfl ?_
  refine g_istore hX (Nat.le_of_ble_eq_true rfl) rfl ?_
  refine g_aload_n hX rfl ?_
  refine g_aload_n hX rfl ?_
  refine g_iload hX rfl ?_
  refine g_iconst hX (v := 1) rfl ?_
  refine g_iadd hX ?_
  refine g_sld hX hs hi1 ?_
  refine g_aload_n hX rfl ?_
  refine g_iload hX rfl ?_
  refine g_iconst hX (v := 2) rfl ?_
  refine g_iadd hX ?_
  refine g_sld hX hs hi2 ?_
  refine g_aload_n hX rfl ?_
  refine g_iload hX rfl ?_
  refine g_iconst hX (v := 3) rfl ?_
  refine g_iadd hX ?_
  refine g_sld hX hs hi3 ?_
  refine g_call (d2 := 3) (as := [_, _, _]) hX ⟨mok_X11_market, rfl, ⟨11, 0, gt_99, rfl⟩, ins_X11_market, lkl_260⟩ ⟨(Nat.le_of_ble_eq_true rfl), (Nat.le_of_ble_eq_true rfl), hc2.1, hc2.2⟩ (Nat.le_of_ble_eq_true rfl) (pc_X11_market_99 hl hg) rfl (st1 := [vI _]) (fun _ => rfl) ?_
  refine g_istore hX (Nat.le_of_ble_eq_true rfl) rfl ?_
  refine g_aload_n hX rfl ?_
  refine g_call (d2 := 0) (as := []) hX ⟨mok_X11_thrown, rfl, ⟨11, 0, gt_99, rfl⟩, ins_X11_thrown, lkl_139⟩ ⟨(Nat.le_of_ble_eq_true rfl), (Nat.le_of_ble_eq_true rfl), hc2.1, hc2.2⟩ (Nat.le_of_ble_eq_true rfl) (pc_X11_thrown_99 hl ht) rfl (st1 := [vI _]) (fun _ => rfl) ?_
  refine g_iload hX rfl ?_
  refine g_icmp_eqT hX 1563 rfl rfl rfl ?_
  refine g_iload hX rfl ?_
  by_cases hk : k = 0
  · refine g_if_neF (tg := 2595) hX rfl (fun n => n hk) ?_
    refine g_aload_n hX rfl ?_
    refine g_iconst hX (v := 0) rfl ?_
    refine g_lald hX gt_129 rfl ?_
    refine g_iload hX rfl ?_
    refine g_i2l hX ?_
    refine g_lcmp hX ?_
    refine g_if_eqT hX 1574 rfl rfl (by first | exact (congrArg (fun z => lg_cmp z _) (hk2 hk)).trans (lg_cmp_self _) | exact lg_cmp_self _) ?_
    refine g_goto hX 1623 rfl rfl ?_
    exact g_fg kk ⟨Or.inr rfl, Or.inr rfl, Or.inr rfl, Or.inr rfl, Or.inr rfl, Or.inl rfl, Or.inl rfl, Or.inl rfl, trivial⟩
  · refine g_if_neT hX 1574 rfl rfl hk ?_
    refine g_goto hX 1623 rfl rfl ?_
    exact g_fg kk ⟨Or.inr rfl, Or.inr rfl, Or.inr rfl, Or.inr rfl, Or.inr rfl, Or.inl rfl, Or.inl rfl, Or.inl rfl, trivial⟩
def c_38 (M : PM)  : Option PM := dirI (F_X10_image_0 M ) (fun M => F_X11_image_99 M )
set_option maxRecDepth 100000 in
theorem case_38 {l : Launch} (hl : l.stackTraces = false) {X : GX} {cs : Nat × Nat} {L : Nat} {xs : Nat → Int32} {i : Int32} {M M' : PM} (hX : GOK Y_L_law_ X) (hs : SCR X L xs) (hc : cs.1 + 1 ≤ 601024 ∧ cs.2 + 6 ≤ 7293034)  (h : c_38 M  = some M') (kk : PG l room_1 Y_L_law_ X (cs.1 + 1, cs.2 + 6) k_L_law__2674 [vR 99999, vR 0, vR 99, vR 129, vI i, jk, jk, jk] [] M') : PG l room_1 Y_L_law_ X cs k_L_law__2598 [vR 99999, vR 0, vR 99, vR 129, vI i, jk, jk, jk] [] M := by
  have hc0 : cs.1 ≤ 601024 ∧ cs.2 ≤ 7293034 := ⟨by omega, by omega⟩
  have hc2 : (cs.1 + 1, cs.2 + 6).1 ≤ 601024 ∧ (cs.1 + 1, cs.2 + 6).2 ≤ 7293034 := hc
  unfold c_38 at h
  obtain ⟨x, M1, hf, hg⟩ := dirI_inv h
  refine g_aload_n hX rfl ?_
  refine g_call (d2 := 2) (as := []) hX ⟨mok_X10_image, rfl, ⟨10, 0, gt_0, rfl⟩, ins_X10_image, lkl_261⟩ ⟨(Nat.le_of_ble_eq_true rfl), (Nat.le_of_ble_eq_true rfl), hc0.1, hc0.2⟩ (Nat.le_of_ble_eq_true rfl) (pc_X10_image_0 hl hf) rfl (st1 := [vI _]) (fun _ => rfl) ?_
  refine g_aload_n hX rfl ?_
  refine g_call (d2 := 2) (as := []) hX ⟨mok_X11_image, rfl, ⟨11, 0, gt_99, rfl⟩, ins_X11_image, lkl_264⟩ ⟨(Nat.le_of_ble_eq_true rfl), (Nat.le_of_ble_eq_true rfl), hc0.1, hc0.2⟩ (Nat.le_of_ble_eq_true rfl) (pc_X11_image_99 hl hg) rfl (st1 := [vI _, vI _]) (fun _ => rfl) ?_
  refine g_icmp_eqT hX 1623 rfl rfl rfl ?_
  refine g_widen (cs' := (cs.1 + 1, cs.2 + 6)) (by show cs.1 ≤ cs.1 + 1; omega) (by show cs.2 ≤ cs.2 + 6; omega) ?_
  exact kk
def c_39 (M : PM)  : Option PM := dirI (F_X10_restore_0 M ) (fun M => F_X11_restore_99 M )
set_option maxRecDepth 100000 in
theorem case_39 {l : Launch} (hl : l.stackTraces = false) {X : GX} {cs : Nat × Nat} {L : Nat} {xs : Nat → Int32} {i : Int32} {M M' : PM} (hX : GOK Y_L_law_ X) (hs : SCR X L xs) (hc : cs.1 + 1 ≤ 601024 ∧ cs.2 + 6 ≤ 7293034)  (h : c_39 M  = some M') (kk : PG l room_1 Y_L_law_ X (cs.1 + 1, cs.2 + 6) k_L_law__2674 [vR 99999, vR 0, vR 99, vR 129, vI i, jk, jk, jk] [] M') : PG l room_1 Y_L_law_ X cs k_L_law__2611 [vR 99999, vR 0, vR 99, vR 129, vI i, jk, jk, jk] [] M := by
  have hc0 : cs.1 ≤ 601024 ∧ cs.2 ≤ 7293034 := ⟨by omega, by omega⟩
  have hc2 : (cs.1 + 1, cs.2 + 6).1 ≤ 601024 ∧ (cs.1 + 1, cs.2 + 6).2 ≤ 7293034 := hc
  unfold c_39 at h
  obtain ⟨x, M1, hf, hg⟩ := dirI_inv h
  refine g_aload_n hX rfl ?_
  refine g_call (d2 := 2) (as := []) hX ⟨mok_X10_restore, rfl, ⟨10, 0, gt_0, rfl⟩, ins_X10_restore, lkl_265⟩ ⟨(Nat.le_of_ble_eq_true rfl), (Nat.le_of_ble_eq_true rfl), hc0.1, hc0.2⟩ (Nat.le_of_ble_eq_true rfl) (pc_X10_restore_0 hl hf) rfl (st1 := [vI _]) (fun _ => rfl) ?_
  refine g_aload_n hX rfl ?_
  refine g_call (d2 := 2) (as := []) hX ⟨mok_X11_restore, rfl, ⟨11, 0, gt_99, rfl⟩, ins_X11_restore, lkl_268⟩ ⟨(Nat.le_of_ble_eq_true rfl), (Nat.le_of_ble_eq_true rfl), hc0.1, hc0.2⟩ (Nat.le_of_ble_eq_true rfl) (pc_X11_restore_99 hl hg) rfl (st1 := [vI _, vI _]) (fun _ => rfl) ?_
  refine g_icmp_eqT hX 1623 rfl rfl rfl ?_
  refine g_widen (cs' := (cs.1 + 1, cs.2 + 6)) (by show cs.1 ≤ cs.1 + 1; omega) (by show cs.2 ≤ cs.2 + 6; omega) ?_
  exact kk
def c_40 (M : PM) (a1 : Int32) : Option PM := dirI (F_X10_status_0 M a1) (fun M => F_X11_status_99 M a1)
set_option maxRecDepth 100000 in
theorem case_40 {l : Launch} (hl : l.stackTraces = false) {X : GX} {cs : Nat × Nat} {L : Nat} {xs : Nat → Int32} {i : Int32} {M M' : PM} (hX : GOK Y_L_law_ X) (hs : SCR X L xs) (hc : cs.1 + 1 ≤ 601024 ∧ cs.2 + 6 ≤ 7293034) (hi1 : vp_in (i + 1) L) (h : c_40 M (xs (i + 1).toNatClampNeg) = some M') (kk : PG l room_1 Y_L_law_ X (cs.1 + 1, cs.2 + 6) k_L_law__2674 [vR 99999, vR 0, vR 99, vR 129, vI i, jk, jk, jk] [] M') : PG l room_1 Y_L_law_ X cs k_L_law__2624 [vR 99999, vR 0, vR 99, vR 129, vI i, jk, jk, jk] [] M := by
  have hc0 : cs.1 ≤ 601024 ∧ cs.2 ≤ 7293034 := ⟨by omega, by omega⟩
  have hc2 : (cs.1 + 1, cs.2 + 6).1 ≤ 601024 ∧ (cs.1 + 1, cs.2 + 6).2 ≤ 7293034 := hc
  unfold c_40 at h
  obtain ⟨x, M1, hf, hg⟩ := dirI_inv h
  refine g_aload_n hX rfl ?_
  refine g_aload_n hX rfl ?_
  refine g_iload hX rfl ?_
  refine g_iconst hX (v := 1) rfl ?_
  refine g_iadd hX ?_
  refine g_sld hX hs hi1 ?_
  refine g_call (d2 := 0) (as := [_]) hX ⟨mok_X10_status, rfl, ⟨10, 0, gt_0, rfl⟩, ins_X10_status, lkl_269⟩ ⟨(Nat.le_of_ble_eq_true rfl), (Nat.le_of_ble_eq_true rfl), hc0.1, hc0.2⟩ (Nat.le_of_ble_eq_true rfl) (pc_X10_status_0 hl hf) rfl (st1 := [vI _]) (fun _ => rfl) ?_
  refine g_aload_n hX rfl ?_
  refine g_aload_n hX rfl ?_
  refine g_iload hX rfl ?_
  refine g_iconst hX (v := 1) rfl ?_
  refine g_iadd hX ?_
  refine g_sld hX hs hi1 ?_
  refine g_call (d2 := 1) (as := [_]) hX ⟨mok_X11_status, rfl, ⟨11, 0, gt_99, rfl⟩, ins_X11_status, lkl_272⟩ ⟨(Nat.le_of_ble_eq_true rfl), (Nat.le_of_ble_eq_true rfl), hc0.1, hc0.2⟩ (Nat.le_of_ble_eq_true rfl) (pc_X11_status_99 hl hg) rfl (st1 := [vI _, vI _]) (fun _ => rfl) ?_
  refine g_icmp_eqT hX 1623 rfl rfl rfl ?_
  refine g_widen (cs' := (cs.1 + 1, cs.2 + 6)) (by show cs.1 ≤ cs.1 + 1; omega) (by show cs.2 ≤ cs.2 + 6; omega) ?_
  exact kk
def c_41 (M : PM) (a1 : Int32) : Option PM := dirI (F_X10_sums_0 M a1) (fun M => F_X11_sums_99 M a1)
set_option maxRecDepth 100000 in
theorem case_41 {l : Launch} (hl : l.stackTraces = false) {X : GX} {cs : Nat × Nat} {L : Nat} {xs : Nat → Int32} {i : Int32} {M M' : PM} (hX : GOK Y_L_law_ X) (hs : SCR X L xs) (hc : cs.1 + 1 ≤ 601024 ∧ cs.2 + 6 ≤ 7293034) (hi1 : vp_in (i + 1) L) (h : c_41 M (xs (i + 1).toNatClampNeg) = some M') (kk : PG l room_1 Y_L_law_ X (cs.1 + 1, cs.2 + 6) k_L_law__2674 [vR 99999, vR 0, vR 99, vR 129, vI i, jk, jk, jk] [] M') : PG l room_1 Y_L_law_ X cs k_L_law__2649 [vR 99999, vR 0, vR 99, vR 129, vI i, jk, jk, jk] [] M := by
  have hc0 : cs.1 ≤ 601024 ∧ cs.2 ≤ 7293034 := ⟨by omega, by omega⟩
  have hc2 : (cs.1 + 1, cs.2 + 6).1 ≤ 601024 ∧ (cs.1 + 1, cs.2 + 6).2 ≤ 7293034 := hc
  unfold c_41 at h
  obtain ⟨x, M1, hf, hg⟩ := dirI_inv h
  refine g_aload_n hX rfl ?_
  refine g_aload_n hX rfl ?_
  refine g_iload hX rfl ?_
  refine g_iconst hX (v := 1) rfl ?_
  refine g_iadd hX ?_
  refine g_sld hX hs hi1 ?_
  refine g_call (d2 := 0) (as := [_]) hX ⟨mok_X10_sums, rfl, ⟨10, 0, gt_0, rfl⟩, ins_X10_sums, lkl_273⟩ ⟨(Nat.le_of_ble_eq_true rfl), (Nat.le_of_ble_eq_true rfl), hc0.1, hc0.2⟩ (Nat.le_of_ble_eq_true rfl) (pc_X10_sums_0 hl hf) rfl (st1 := [vI _]) (fun _ => rfl) ?_
  refine g_aload_n hX rfl ?_
  refine g_aload_n hX rfl ?_
  refine g_iload hX rfl ?_
  refine g_iconst hX (v := 1) rfl ?_
  refine g_iadd hX ?_
  refine g_sld hX hs hi1 ?_
  refine g_call (d2 := 0) (as := [_]) hX ⟨mok_X11_sums, rfl, ⟨11, 0, gt_99, rfl⟩, ins_X11_sums, lkl_276⟩ ⟨(Nat.le_of_ble_eq_true rfl), (Nat.le_of_ble_eq_true rfl), hc0.1, hc0.2⟩ (Nat.le_of_ble_eq_true rfl) (pc_X11_sums_99 hl hg) rfl (st1 := [vI _, vI _]) (fun _ => rfl) ?_
  refine g_icmp_eqT hX 1623 rfl rfl rfl ?_
  refine g_widen (cs' := (cs.1 + 1, cs.2 + 6)) (by show cs.1 ≤ cs.1 + 1; omega) (by show cs.2 ≤ cs.2 + 6; omega) ?_
  exact kk
