/-! what a write leaves -/
theorem rI_sI (M : PM) (q k : Nat) (x : Int32) (a b : Nat) : (sI M q k x).1 a b = if b = k then (if a = q then x else M.1 a b) else M.1 a b := rfl
theorem rI_sJ (M : PM) (q k : Nat) (x : Int64) : (sJ M q k x).1 = M.1 := rfl
theorem rI_sA (M : PM) (q k : Nat) (x : Int32) : (sA M q k x).1 = M.1 := rfl
theorem rI_sB (M : PM) (q k : Nat) (x : Int64) : (sB M q k x).1 = M.1 := rfl
theorem rI_sG (M : PM) (g i k : Nat) (x : Int32) : (sG M g i k x).1 = M.1 := rfl
theorem rJ_sI (M : PM) (q k : Nat) (x : Int32) : (sI M q k x).2 = M.2 := rfl
theorem rJ_sJ (M : PM) (q k : Nat) (x : Int64) (a b : Nat) : (sJ M q k x).2.1 a b = if b = k then (if a = q then x else M.2.1 a b) else M.2.1 a b := rfl
theorem rJ_sA (M : PM) (q k : Nat) (x : Int32) : (sA M q k x).2.1 = M.2.1 := rfl
theorem rJ_sB (M : PM) (q k : Nat) (x : Int64) : (sB M q k x).2.1 = M.2.1 := rfl
theorem rJ_sG (M : PM) (g i k : Nat) (x : Int32) : (sG M g i k x).2.1 = M.2.1 := rfl
theorem rA_sJ (M : PM) (q k : Nat) (x : Int64) : (sJ M q k x).2.2 = M.2.2 := rfl
theorem rA_sA (M : PM) (q k : Nat) (x : Int32) (a b : Nat) : (sA M q k x).2.2.1 a b = if a = q then (if b = k then x else M.2.2.1 q b) else M.2.2.1 a b := by
  show u1 M.2.2.1 q (u1 (M.2.2.1 q) k x) a b = _
  unfold u1
  by_cases h : a = q
  · rw [if_pos h, if_pos h]
  · rw [if_neg h, if_neg h]
theorem rA_sB (M : PM) (q k : Nat) (x : Int64) : (sB M q k x).2.2.1 = M.2.2.1 := rfl
theorem rA_sG (M : PM) (g i k : Nat) (x : Int32) : (sG M g i k x).2.2.1 = M.2.2.1 := rfl
theorem rB_sA (M : PM) (q k : Nat) (x : Int32) : (sA M q k x).2.2.2 = M.2.2.2 := rfl
theorem rB_sB (M : PM) (q k : Nat) (x : Int64) (a b : Nat) : (sB M q k x).2.2.2.1 a b = if a = q then (if b = k then x else M.2.2.2.1 q b) else M.2.2.2.1 a b := by
  show u1 M.2.2.2.1 q (u1 (M.2.2.2.1 q) k x) a b = _
  unfold u1
  by_cases h : a = q
  · rw [if_pos h, if_pos h]
  · rw [if_neg h, if_neg h]
theorem rB_sG (M : PM) (g i k : Nat) (x : Int32) : (sG M g i k x).2.2.2.1 = M.2.2.2.1 := rfl
theorem rG_sB (M : PM) (q k : Nat) (x : Int64) : (sB M q k x).2.2.2.2 = M.2.2.2.2 := rfl
theorem rG_sG (M : PM) (g i k : Nat) (x : Int32) (a b c : Nat) : (sG M g i k x).2.2.2.2 a b c = if b = i then (if a = g then (if c = k then x else M.2.2.2.2 g i c) else M.2.2.2.2 a b c) else M.2.2.2.2 a b c := by
  show u2 M.2.2.2.2 g i (u1 (M.2.2.2.2 g i) k x) a b c = _
  unfold u2 u1
  by_cases h : b = i
  · rw [if_pos h, if_pos h]
    by_cases h2 : a = g
    · rw [if_pos h2, if_pos h2]
    · rw [if_neg h2, if_neg h2]
  · rw [if_neg h, if_neg h]
/-- the smallest case: fault() -/
theorem ok_3 {Rel : PM → Prop} (hf : ∀ M, Rel M → mI M 0 13 = mI M 99 3) (h0 : ∀ M, Rel M → Rel (sI M 99 0 0)) : OK_3 Rel := fun M h => by
  refine ⟨sI M 99 0 0, ?_, h0 M h⟩
  unfold c_3 dirI F_X10_fault_0 F_X11_fault_99
  have e : mI (sI M 99 0 0) 99 3 = mI M 0 13 := (hf M h).symm
  show (if mI M 0 13 = mI (sI M 99 0 0) 99 3 then some (sI M 99 0 0) else none) = some (sI M 99 0 0)
  rw [if_pos e.symm]
