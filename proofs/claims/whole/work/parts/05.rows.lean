/-! THE JUDGEMENT PW: the method Y, at the rest 'is' of its code, comes to the result r -/
def cat2 : PV → Bool
  | .inl (.long _) => true
  | .inl (.double _) => true
  | _ => false
def stL : List PV → Nat → PV → List PV
  | [], _, _ => []
  | _ :: ls, 0, v => v :: ls
  | w :: ls, i + 1, v => (if i = 0 && cat2 w then jk else w) :: stL ls i v
def stJ : List PV → Nat → PV → List PV
  | w :: _ :: ls, 0, v => v :: jk :: ls
  | w :: ls, i + 1, v => (if i = 0 && cat2 w then jk else w) :: stJ ls i v
  | _, _, _ => []
def lvOK (ad : Nat → Nat → Nat) (n : Nat) (rl : Array Slot) (ls : List PV) : Prop := rl.size = n ∧ lv_wf rl ∧ ls.length = n ∧ ∀ (i : Nat) (v : PV), ls[i]? = some v → v ≠ jk → rl[i]? = some (.val (tr ad v))
def lvA (ad : Nat → Nat → Nat) (ls : List PV) : List (Nat × Value) := (List.range ls.length).filterMap fun i => match ls[i]? with
  | some v => if v = jk then none else some (i, tr ad v)
  | none => none
theorem lvA_of {ad : Nat → Nat → Nat} {ls : List PV} {i : Nat} {v : PV} (h : ls[i]? = some v) (hv : v ≠ jk) : (i, tr ad v) ∈ lvA ad ls := by
  refine List.mem_filterMap.mpr ⟨i, List.mem_range.mpr (List.getElem?_eq_some_iff.mp h).1, ?_⟩
  simp only [h]
  rw [if_neg hv]
theorem lvA_to {ad : Nat → Nat → Nat} {ls : List PV} {q : Nat × Value} (h : q ∈ lvA ad ls) : ∃ v : PV, ls[q.1]? = some v ∧ v ≠ jk ∧ q.2 = tr ad v := by
  obtain ⟨i, -, hi⟩ := List.mem_filterMap.mp h
  cases hl : ls[i]? with
  | none => simp only [hl] at hi; cases hi
  | some v =>
    simp only [hl] at hi
    by_cases hv : v = jk
    · rw [if_pos hv] at hi; cases hi
    · rw [if_neg hv] at hi
      cases hi
      exact ⟨v, hl, hv, rfl⟩
theorem lvOK.has {ad : Nat → Nat → Nat} {n : Nat} {rl : Array Slot} {ls : List PV} (h : lvOK ad n rl ls) : lv_has rl n (lvA ad ls) := ⟨h.1, h.2.1, fun q hq => by
  obtain ⟨v, h1, h2, h3⟩ := lvA_to hq
  rw [h3]
  exact h.2.2.2 _ _ h1 h2⟩
theorem tr_cat (ad : Nat → Nat → Nat) (v : PV) : (tr ad v).category = if cat2 v then 2 else 1 := by
  rcases v with v | g
  · cases v <;> rfl
  · rfl
theorem stL_len : ∀ (ls : List PV) (i : Nat) (v : PV), (stL ls i v).length = ls.length
  | [], _, _ => rfl
  | _ :: _, 0, _ => rfl
  | _ :: ls, i + 1, v => congrArg (· + 1) (stL_len ls i v)
theorem stL_at : ∀ (ls : List PV) (i : Nat) (v : PV) (j : Nat) (w : PV), (stL ls i v)[j]? = some w → w ≠ jk → (j = i ∧ w = v) ∨ (j ≠ i ∧ ls[j]? = some w ∧ ¬ (j + 1 = i ∧ cat2 w = true))
  | [], _, _, _, _, h, _ => by simp [stL] at h
  | x :: ls, 0, v, j, w, h, _ => by
    cases j with
    | zero => simp [stL] at h; exact Or.inl ⟨rfl, h.symm⟩
    | succ j => exact Or.inr ⟨by omega, h, by omega⟩
  | x :: ls, i + 1, v, j, w, h, hw => by
    cases j with
    | zero =>
      simp only [stL, List.getElem?_cons_zero, Option.some.injEq] at h
      by_cases hc : (i = 0 && cat2 x) = true
      · rw [if_pos hc] at h; exact absurd h.symm hw
      · rw [if_neg hc] at h
        subst h
        refine Or.inr ⟨by omega, rfl, fun e => hc ?_⟩
        simp only [Bool.and_eq_true, decide_eq_true_eq]
        exact ⟨by omega, e.2⟩
    | succ j =>
      simp only [stL, List.getElem?_cons_succ] at h
      rcases stL_at ls i v j w h hw with ⟨h1, h2⟩ | ⟨h1, h2, h3⟩
      · exact Or.inl ⟨by omega, h2⟩
      · exact Or.inr ⟨by omega, h2, fun e => h3 ⟨by omega, e.2⟩⟩
theorem stJ_at : ∀ (ls : List PV) (i : Nat) (v : PV) (j : Nat) (w : PV), (stJ ls i v)[j]? = some w → w ≠ jk → (j = i ∧ w = v) ∨ (j ≠ i ∧ j ≠ i + 1 ∧ ls[j]? = some w ∧ ¬ (j + 1 = i ∧ cat2 w = true))
  | [], 0, _, _, _, h, _ => by simp [stJ] at h
  | [], _ + 1, _, _, _, h, _ => by simp [stJ] at h
  | [_], 0, _, _, _, h, _ => by simp [stJ] at h
  | x :: y :: ls, 0, v, j, w, h, hw => by
    match j, h with
    | 0, h => simp [stJ] at h; exact Or.inl ⟨rfl, h.symm⟩
    | 1, h => simp [stJ] at h; exact absurd h.symm hw
    | j + 2, h => exact Or.inr ⟨by omega, by omega, h, by omega⟩
  | x :: ls, i + 1, v, j, w, h, hw => by
    cases j with
    | zero =>
      simp only [stJ, List.getElem?_cons_zero, Option.some.injEq] at h
      by_cases hc : (i = 0 && cat2 x) = true
      · rw [if_pos hc] at h; exact absurd h.symm hw
      · rw [if_neg hc] at h
        subst h
        refine Or.inr ⟨by omega, by omega, rfl, fun e => hc ?_⟩
        simp only [Bool.and_eq_true, decide_eq_true_eq]
        exact ⟨by omega, e.2⟩
    | succ j =>
      simp only [stJ, List.getElem?_cons_succ] at h
      rcases stJ_at ls i v j w h hw with ⟨h1, h2⟩ | ⟨h1, h2, h3, h4⟩
      · exact Or.inl ⟨by omega, h2⟩
      · exact Or.inr ⟨by omega, by omega, h3, fun e => h4 ⟨by omega, e.2⟩⟩
theorem stJ_len : ∀ (ls : List PV) (i : Nat) (v : PV), i + 1 < ls.length → (stJ ls i v).length = ls.length
  | [], _, _, h => by simp at h
  | [_], 0, _, h => by simp at h
  | _ :: _ :: _, 0, _, _ => rfl
  | x :: ls, i + 1, v, h => by
    simp only [stJ, List.length_cons]
    rw [stJ_len ls i v (by simpa using h)]
/-- what kit's rows give behind a store -/
theorem lvOK.st {ad : Nat → Nat → Nat} {n i : Nat} {rl' : Array Slot} {ls : List PV} {v : PV} (hlen : ls.length = n) (h : lv_has rl' n ((i, tr ad v) :: (lvA ad ls).filter (fun q => !(q.1 == i) && !(q.1 + 1 == i && q.2.category == 2)))) : lvOK ad n rl' (stL ls i v) := by
  refine ⟨h.1, h.2.1, by rw [stL_len]; exact hlen, fun j w hj hw => ?_⟩
  rcases stL_at ls i v j w hj hw with ⟨h1, h2⟩ | ⟨h1, h2, h3⟩
  · rw [h1, h2]
    exact h.2.2 (i, tr ad v) List.mem_cons_self
  · refine h.2.2 (j, tr ad w) (List.mem_cons_of_mem _ (List.mem_filter.mpr ⟨lvA_of h2 hw, ?_⟩))
    simp only [Bool.and_eq_true, Bool.not_eq_true', beq_eq_false_iff_ne, Bool.and_eq_false_imp, beq_iff_eq, tr_cat]
    refine ⟨h1, fun e => ?_⟩
    cases hc : cat2 w with
    | true => exact absurd ⟨e, hc⟩ h3
    | false => simp
theorem lvOK.stj {ad : Nat → Nat → Nat} {n i : Nat} {rl' : Array Slot} {ls : List PV} {v : PV} (hlen : ls.length = n) (hn : i + 1 < n) (h : lv_has rl' n ((i, tr ad v) :: (lvA ad ls).filter (fun q => !(q.1 == i) && (!(q.1 == i + 1) && !(q.1 + 1 == i && q.2.category == 2))))) : lvOK ad n rl' (stJ ls i v) := by
  refine ⟨h.1, h.2.1, by rw [stJ_len _ _ _ (by rw [hlen]; exact hn)]; exact hlen, fun j w hj hw => ?_⟩
  rcases stJ_at ls i v j w hj hw with ⟨h1, h2⟩ | ⟨h1, h2, h3, h4⟩
  · rw [h1, h2]
    exact h.2.2 (i, tr ad v) List.mem_cons_self
  · refine h.2.2 (j, tr ad w) (List.mem_cons_of_mem _ (List.mem_filter.mpr ⟨lvA_of h3 hw, ?_⟩))
    simp only [Bool.and_eq_true, Bool.not_eq_true', beq_eq_false_iff_ne, Bool.and_eq_false_imp, beq_iff_eq, tr_cat]
    refine ⟨h1, h2, fun e => ?_⟩
    cases hc : cat2 w with
    | true => exact absurd ⟨e, hc⟩ h4
    | false => simp
/-! code -/
def hdpc : List CI → Nat
  | [] => 0
  | i :: _ => i.1
def COK (b : ByteArray) : List CI → Bool
  | [] => true
  | i :: is => decide (decode b i.1 = .ok (i.2.1, i.2.2)) && ((is.isEmpty || hdpc is == i.1 + i.2.2) && COK b is)
theorem COK.here {b : ByteArray} {pc n : Nat} {i : Instr} {is : List CI} (h : COK b ((pc, i, n) :: is) = true) : decode b pc = .ok (i, n) := by
  simp only [COK, Bool.and_eq_true, decide_eq_true_eq] at h
  exact h.1
theorem COK.next {b : ByteArray} {pc n : Nat} {i : Instr} {is : List CI} (h : COK b ((pc, i, n) :: is) = true) (hne : is ≠ []) : hdpc is = pc + n := by
  simp only [COK, Bool.and_eq_true, Bool.or_eq_true, beq_iff_eq] at h
  rcases h.2.1 with h1 | h1
  · exact absurd (List.isEmpty_iff.mp h1) hne
  · exact h1
theorem COK.tail {b : ByteArray} {i : CI} {is : List CI} (h : COK b (i :: is) = true) : COK b is = true := by
  simp only [COK, Bool.and_eq_true] at h
  exact h.2.2
theorem COK.drop {b : ByteArray} : ∀ (k : Nat) (is : List CI), COK b is = true → COK b (is.drop k) = true
  | 0, _, h => h
  | _ + 1, [], h => h
  | k + 1, _ :: is, h => COK.drop k is (COK.tail h)
abbrev MD.code (Y : MD) : List CI := Y.2.2.2.2
def wsY (Y : MD) : List Cond := Cond.code Y.1 Y.2.1 Y.2.2.1 Y.2.2.2.1 :: UW
def mcR (r : PR) : Nat := match r.1 with
  | .inl _ => 0
  | .inr _ => 1
def msR (r : PR) : Nat := match r.1 with
  | .inl _ => 0
  | .inr _ => 6
def QcR (sz : Nat) (D : va_G) (cy : Nat → ClassId) (ad : Nat → Nat → Nat) (r : PR) : Array Value → State → Outcome → State → Prop := fun _ st o t =>
  ∃ v : Option Value, r.1 = .inl v ∧ o = .returned v ∧ WH sz D cy ad r.2 t.heap ∧ va_F (fun q => sz ≤ q) st t
def XcR (sz : Nat) (D : va_G) (cy : Nat → ClassId) (ad : Nat → Nat → Nat) (r : PR) : String → State → State → Prop := fun E st t =>
  r.1 = .inr E ∧ WH sz D cy ad r.2 t.heap ∧ va_F (fun q => sz ≤ q) st t
/-- what holds in a body of Y -/
def Cx (l : Launch) (d : Nat) (Y : MD) (r : PR) (p : Program) (R : Room) (s : State) (m : MethodId) (args : Array Value) (meth : Method) (c : Code) : Prop :=
  l.stackTraces = false ∧ p.tables.exec = Jvm.exec ∧ c.code = Y.2.1 ∧ meth.sig.returnType = Y.2.2.2.1 ∧ c.maxLocals = Y.2.2.1 ∧ s.vm.findClass Y.1.cls = some m.cls ∧ meth.locks = false ∧ (∀ x ∈ c.exceptionTable.toList, False) ∧ (∀ w ∈ wsY Y, w.before args s = true) ∧
  d ≤ R.frames ∧ 64 * d ≤ R.locals ∧ mcR r ≤ R.cells ∧ msR r ≤ R.slots ∧ COK Y.2.1 Y.code = true
def PW (l : Launch) (d : Nat) (Y : MD) (is : List CI) (ls st : List PV) (M : PM) (r : PR) : Prop := is ≠ [] ∧
  ∀ (p : Program) (e : Env) (R : Room) (s : State) (m : MethodId) (args : Array Value) (below : List Frame) (meth : Method) (c : Code) (sz : Nat) (D : va_G) (cy : Nat → ClassId) (ad : Nat → Nat → Nat) (H : Heap) (locs : List Loc) (rl : Array Slot),
    Cx l d Y r p R s m args meth c → (∃ k, Y.code.drop k = is) → Kx sz D cy ad s → WH sz D cy ad M H → va_S (fun q => sz ≤ q) s.heap H locs → lvOK ad Y.2.2.1 rl ls →
    W p l e R s m args below meth c H locs 0 0 (vx_MQ below (QcR sz D cy ad r) (XcR sz D cy ad r) args s (mcR r) (msR r) (fun q => sz ≤ q)) (F0 m (hdpc is) rl (st.map (tr ad)))
theorem suf_cok {Y : MD} {is : List CI} (hs : ∃ k, Y.code.drop k = is) (h : COK Y.2.1 Y.code = true) : COK Y.2.1 is = true := by
  obtain ⟨k, hk⟩ := hs
  rw [← hk]
  exact COK.drop k _ h
theorem suf_next {Y : MD} {i : CI} {is : List CI} (hs : ∃ k, Y.code.drop k = i :: is) : ∃ k, Y.code.drop k = is := by
  obtain ⟨k, hk⟩ := hs
  refine ⟨k + 1, ?_⟩
  rw [← List.drop_drop, hk]
  rfl
/-- an instruction that reads the operand stack and the locals alone -/
theorem PW.op {l : Launch} {d : Nat} {Y : MD} {pc n : Nat} {i : Instr} {is : List CI} {ls st st' : List PV} {M : PM} {r : PR} (k : PW l d Y is ls st' M r)
    (hW : ∀ {p : Program} {e : Env} {R : Room} {s : State} {m : MethodId} {args : Array Value} {below : List Frame} {meth : Method} {c : Code} {H : Heap} {locs : List Loc} {rl : Array Slot} {Q : State → Prop} {ad : Nat → Nat → Nat}, Cx l d Y r p R s m args meth c → (∀ (i : Nat) (v : PV), ls[i]? = some v → v ≠ jk → rl[i]? = some (.val (tr ad v))) → decode Y.2.1 pc = .ok (i, n) →
      W p l e R s m args below meth c H locs 0 0 Q (F0 m (pc + n) rl (st'.map (tr ad))) → W p l e R s m args below meth c H locs 0 0 Q (F0 m pc rl (st.map (tr ad)))) : PW l d Y ((pc, i, n) :: is) ls st M r := by
  refine ⟨by simp, fun p e R s m args below meth c sz D cy ad H locs rl hC hs hK hH hS hl => ?_⟩
  have hc := suf_cok hs hC.2.2.2.2.2.2.2.2.2.2.2.2.2
  have h1 := k.2 p e R s m args below meth c sz D cy ad H locs rl hC (suf_next hs) hK hH hS hl
  rw [COK.next hc k.1] at h1
  exact hW hC hl.2.2.2 (COK.here hc) h1
