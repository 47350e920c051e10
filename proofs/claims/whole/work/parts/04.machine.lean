/-! THE PURE MACHINE: values, memory, the world that a memory describes -/
abbrev PV : Type := Value ⊕ (Nat × Nat)
abbrev PM : Type := (Nat → Nat → Int32) × (Nat → Nat → Int64) × (Nat → Nat → Int32) × (Nat → Nat → Int64) × (Nat → Nat → Nat → Int32)
abbrev PR : Type := (Option Value ⊕ String) × PM
abbrev CI : Type := Nat × Instr × Nat
abbrev MD : Type := MethodName × ByteArray × Nat × Option FieldType × List CI
abbrev vI (x : Int32) : PV := .inl (.int x)
abbrev vJ (x : Int64) : PV := .inl (.long x)
abbrev vR (q : Nat) : PV := .inl (.ref q)
abbrev vG (g i : Nat) : PV := .inr (g, i)
/-- a place of which nothing is known -/
abbrev jk : PV := .inl (.retAddr 0)
def tr (ad : Nat → Nat → Nat) : PV → Value
  | .inl (.ref q) => .ref (ad q 0)
  | .inl v => v
  | .inr g => .ref (ad g.1 (g.2 + 1))
/-- int fields, long fields, int (boolean) arrays, long arrays, rows -/
abbrev mI (M : PM) (q k : Nat) : Int32 := M.1 q k
abbrev mJ (M : PM) (q k : Nat) : Int64 := M.2.1 q k
abbrev mA (M : PM) (q : Nat) : Nat → Int32 := M.2.2.1 q
abbrev mB (M : PM) (q : Nat) : Nat → Int64 := M.2.2.2.1 q
abbrev mG (M : PM) (g i : Nat) : Nat → Int32 := M.2.2.2.2 g i
def u2 {α : Type} (f : Nat → Nat → α) (q k : Nat) (x : α) : Nat → Nat → α := fun a b => if b = k then (if a = q then x else f a b) else f a b
def u1 {α : Type} (f : Nat → α) (q : Nat) (x : α) : Nat → α := fun a => if a = q then x else f a
def sI (M : PM) (q k : Nat) (x : Int32) : PM := (u2 M.1 q k x, M.2)
def sJ (M : PM) (q k : Nat) (x : Int64) : PM := (M.1, u2 M.2.1 q k x, M.2.2)
def sA (M : PM) (q k : Nat) (x : Int32) : PM := (M.1, M.2.1, u1 M.2.2.1 q (u1 (M.2.2.1 q) k x), M.2.2.2)
def sB (M : PM) (q k : Nat) (x : Int64) : PM := (M.1, M.2.1, M.2.2.1, u1 M.2.2.2.1 q (u1 (M.2.2.2.1 q) k x), M.2.2.2.2)
def sG (M : PM) (g i k : Nat) (x : Int32) : PM := (M.1, M.2.1, M.2.2.1, M.2.2.2.1, u2 M.2.2.2.2 g i (u1 (M.2.2.2.2 g i) k x))
/-- an array copied into another one -/
def cA (M : PM) (q1 q2 p1 p2 n : Nat) : PM := (M.1, M.2.1, u1 M.2.2.1 q2 (va_cpy (M.2.2.1 q1) (M.2.2.1 q2) p1 p2 n), M.2.2.2)
def cB (M : PM) (q1 q2 p1 p2 n : Nat) : PM := (M.1, M.2.1, M.2.2.1, u1 M.2.2.2.1 q2 (va_cpy (M.2.2.2.1 q1) (M.2.2.2.1 q2) p1 p2 n), M.2.2.2.2)
/-! the world -/
def fv (ad : Nat → Nat → Nat) (M : PM) (q k tag : Nat) : Value := if tag = 1 then .long (M.2.1 q k) else if tag = 2 then va_rf ((gRef q k).map fun r => ad r 0) else .int (M.1 q k)
def flds (ad : Nat → Nat → Nat) (M : PM) (q ci : Nat) : List Value := (List.range (nF ci)).map fun k => fv ad M q k (ft ci k)
def cE0 (cy : Nat → ClassId) (ad : Nat → Nat → Nat) (M : PM) (q : Nat) : Option (Nat × Nat × Nat) → va_E
  | some (0, ci, _) => .inr (ci, flds ad M q ci)
  | some (1, n, _) => .inl (cy 0, n, .inl (M.2.2.1 q))
  | some (2, n, _) => .inl (cy 1, n, .inr (.inl (M.2.2.2.1 q)))
  | some (3, n, _) => .inl (cy 2, n, .inl (M.2.2.1 q))
  | some (4, n, _) => .inl (cy 3, n, .inr (.inr (.inr (.inr fun j => (gRef q j).map fun r => ad r 0))))
  | some (5, n, _) => .inl (cy 4, n, .inr (.inr (.inr (.inr fun j => if j < n then some (ad q (j + 1)) else none))))
  | _ => .inl (cy 0, 0, .inl fun _ => 0)
def cE1 (cy : Nat → ClassId) (M : PM) (q i : Nat) : Option (Nat × Nat × Nat) → va_E
  | some (5, _, k) => .inl (cy 0, k, .inl (M.2.2.2.2 q i))
  | _ => .inl (cy 0, 0, .inl fun _ => 0)
def cE (cy : Nat → ClassId) (ad : Nat → Nat → Nat) (M : PM) (q : Nat) : Nat → va_E
  | 0 => cE0 cy ad M q (gT q)
  | i + 1 => cE1 cy M q i (gT q)
def rowsOf : Option (Nat × Nat × Nat) → Nat
  | some (5, n, _) => n
  | _ => 0
def kOf (q : Nat) : List (Nat × Nat) := (q, 0) :: (List.range (rowsOf (gT q))).map fun i => (q, i + 1)
def keys : List (Nat × Nat) := (List.range gTl.length).flatMap kOf
def wl (cy : Nat → ClassId) (ad : Nat → Nat → Nat) (M : PM) : va_W := keys.map fun κ => (ad κ.1 κ.2, cE cy ad M κ.1 κ.2)
theorem gT_lt {q : Nat} {x : Nat × Nat × Nat} (h : gT q = some x) : q < gTl.length := (List.getElem?_eq_some_iff.mp h).1
theorem key0 {q : Nat} {x : Nat × Nat × Nat} (h : gT q = some x) : (q, 0) ∈ keys := List.mem_flatMap.mpr ⟨q, List.mem_range.mpr (gT_lt h), List.mem_cons_self⟩
theorem key1 {q i n k : Nat} (h : gT q = some (5, n, k)) (hi : i < n) : (q, i + 1) ∈ keys := List.mem_flatMap.mpr ⟨q, List.mem_range.mpr (gT_lt h), List.mem_cons_of_mem _ (List.mem_map.mpr ⟨i, List.mem_range.mpr (by rw [h]; exact hi), rfl⟩)⟩
theorem wl_at {κ : Nat × Nat} (h : κ ∈ keys) (cy : Nat → ClassId) (ad : Nat → Nat → Nat) (M : PM) : ∃ k : Nat, (wl cy ad M)[k]? = some (ad κ.1 κ.2, cE cy ad M κ.1 κ.2) ∧ keys[k]? = some κ := by
  obtain ⟨k, hk⟩ := List.getElem?_of_mem h
  exact ⟨k, by unfold wl; rw [List.getElem?_map, hk]; rfl, hk⟩
theorem wl_set {cy : Nat → ClassId} {ad : Nat → Nat → Nat} {M M' : PM} {A : Nat → Prop} {κ : Nat × Nat} {k : Nat} {e : va_E} (hD : va_D A (wl cy ad M)) (hk : keys[k]? = some κ) (he : cE cy ad M' κ.1 κ.2 = e) (ho : ∀ q i, (q, i) ≠ κ → cE cy ad M' q i = cE cy ad M q i) :
    (wl cy ad M).set k (ad κ.1 κ.2, e) = wl cy ad M' := by
  refine List.ext_getElem? fun j => ?_
  rw [List.getElem?_set]
  have hg : ∀ (N : PM) (z : Nat), (wl cy ad N)[z]? = (keys[z]?).map fun κ => (ad κ.1 κ.2, cE cy ad N κ.1 κ.2) := fun N z => by unfold wl; rw [List.getElem?_map]
  have hl : k < (wl cy ad M).length := by
    unfold wl
    rw [List.length_map]
    exact (List.getElem?_eq_some_iff.mp hk).1
  by_cases hj : k = j
  · subst hj
    rw [if_pos rfl, if_pos hl, hg, hk, ← he]
    rfl
  · rw [if_neg hj, hg, hg]
    cases hq : keys[j]? with
    | none => rfl
    | some κ2 =>
      have hne : (κ2.1, κ2.2) ≠ κ := fun e2 => by
        have e3 : κ2 = κ := e2
        subst e3
        exact hj (hD.1 k j _ _ (by rw [hg, hk]; rfl) (by rw [hg, hq]; rfl) rfl)
      exact congrArg (fun z => some (ad κ2.1 κ2.2, z)) (ho κ2.1 κ2.2 hne).symm
def tysW (cy : Nat → ClassId) : List (ClassId × FieldType) := [(cy 0, .int), (cy 1, .long), (cy 2, .boolean), (cy 3, .object "WeekWheels$State"), (cy 4, .array .int)]
/-- the heap holds the memory M, all of it from sz on -/
def WH (sz : Nat) (D : va_G) (cy : Nat → ClassId) (ad : Nat → Nat → Nat) (M : PM) (H : Heap) : Prop := va_P D vwCl (wl cy ad M) H ∧ va_D (fun q => sz ≤ q) (wl cy ad M)
/-! words -/
def isNest : Cond → Bool
  | .fieldLinkNest .. => true
  | .methodLinkNest .. => true
  | .castable .. => true
  | .declares .. => true
  | _ => false
def UW : List Cond := lw_tbl.filter goodWord
def NW : List Cond := lw_tbl.filter isNest
theorem UW_good {w : Cond} (h : w ∈ UW) : goodWord w = true := (List.mem_filter.mp h).2
theorem NW_warm {w : Cond} (h : w ∈ NW) {s U : State} (hW : s.WarmedH U.vm) (hz : va_Nw w s) : va_Nw w U := by
  have h2 := (List.mem_filter.mp h).2
  cases w <;> first | exact va_Nw.warmF hW hz | exact va_Nw.warmM hW hz | exact va_Nw.warmC hW hz | exact va_Nw.warmD hW hz | (simp [isNest] at h2)
theorem NW_same {w : Cond} (h : w ∈ NW) {s U : State} (hW : s.vm = U.vm) (hz : va_Nw w s) : va_Nw w U := by
  have h2 := (List.mem_filter.mp h).2
  cases w <;> first | exact va_Nw.same rfl hW hz | (simp [isNest] at h2)
theorem NW_use {w : Cond} (h : w ∈ NW) {A : Array Value} {U : State} (hz : va_Nw w U) : w.before A U = true := by
  have h2 := (List.mem_filter.mp h).2
  cases w <;> first | exact va_Nw.use rfl hz | (simp [isNest] at h2)
/-! String constants: number i is the thing 100000 + i -/
def sOwn : List (String × Nat × String) := [("WeekWheels$Calendar", 94, "law"), ("WeekWheels$Calendar", 104, "other"), ("WeekWheels$Calendar", 106, "house"), ("WeekWheels$Calendar", 111, "slip"), ("WeekWheels$Calendar", 116, "still"), ("WeekWheels$WishReader", 70, "not"), ("WeekWheels$WishReader", 105, "many"), ("WeekWheels$WishReader", 107, "town"), ("WeekWheels$WishReader", 112, "day"), ("WeekWheels$WishReader", 68, "and"), ("WeekWheels$WishReader", 55, "or"), ("WeekWheels", 378, "no such argument"), ("WeekWheels", 373, "no such law, house or work"), ("WeekWheels", 366, "no such day")]
/-- the same constant by another name -/
def sAlso : List (String × Nat × String × Nat) := [("WeekWheels$WishReader", 88, "law", 0), ("WeekWheels$WishReader", 114, "house", 2)]
def sByt : List (List Int32) := [[108, 97, 119], [111, 116, 104, 101, 114], [104, 111, 117, 115, 101], [115, 108, 105, 112], [115, 116, 105, 108, 108], [110, 111, 116], [109, 97, 110, 121], [116, 111, 119, 110], [100, 97, 121], [97, 110, 100], [111, 114]]
def sLen : List Nat := [3, 5, 5, 4, 5, 3, 4, 4, 3, 3, 2]
/-- what holds of the tables and of the constant cells below sz -/
def Kx (sz : Nat) (D : va_G) (cy : Nat → ClassId) (ad : Nat → Nat → Nat) (s : State) : Prop :=
  va_K D vwCl (tysW cy) s ∧ (∀ w ∈ NW, va_Nw w s) ∧ (sz ≤ s.heap.size ∧ va_Nc "java/lang/IllegalArgumentException" "java/util/NoSuchElementException" s ∧ va_Nc "java/util/NoSuchElementException" "java/lang/IndexOutOfBoundsException" s ∧ va_Nc "java/lang/IllegalArgumentException" "java/lang/IndexOutOfBoundsException" s) ∧
  (∀ (i : Nat) (q : String × Nat × String), sOwn[i]? = some q → vk_R q.1 q.2.1 q.2.2 (ad (100000 + i) 0) s) ∧ (∀ (i : Nat) (q : String × Nat × String × Nat), sAlso[i]? = some q → vk_R q.1 q.2.1 q.2.2.1 (ad (100000 + q.2.2.2) 0) s) ∧
  vk_S 11 sLen sByt (fun i => ad (100000 + i) 0) (fun i => ad (100000 + i) 1) (fun q => sz ≤ q) s s.heap ∧
  va_Z "java/lang/String" "COMPACT_STRINGS" "Z" (.int 1) (fun q => sz ≤ q) s s.heap ∧
  vx_Zq Bundle.tN "UNASSIGNED_STACK" Bundle.steD (fun q => sz ≤ q) s s.heap ∧ vx_Zq Bundle.tN "SUPPRESSED_SENTINEL" Bundle.listD (fun q => sz ≤ q) s s.heap ∧
  (va_Z "jdk/internal/util/Preconditions" "SIOOBE_FORMATTER" "Ljava/util/function/BiFunction;" .null (fun q => sz ≤ q) s s.heap ∨ va_Z "jdk/internal/util/Preconditions" "SIOOBE_FORMATTER" "Ljava/util/function/BiFunction;" (.ref (ad 100100 0)) (fun q => sz ≤ q) s s.heap)
/-- the same, seen from a callee's start -/
theorem Kx.on {sz : Nat} {D : va_G} {cy : Nat → ClassId} {ad : Nat → Nat → Nat} {s U : State} (h : Kx sz D cy ad s) (hW : s.WarmedH U.vm) (hz : s.heap.size ≤ U.heap.size) (hk : ∀ a : Nat, a < s.heap.size → ¬ sz ≤ a → U.heap[a]? = s.heap[a]?) : Kx sz D cy ad U := by
  obtain ⟨h1, h2, h3, h4, h5, h6, h7, h8, h9, h10⟩ := h
  exact ⟨va_K.moved hW.alike h1, fun w hw => NW_warm hw hW (h2 w hw), ⟨Nat.le_trans h3.1 hz, va_Nc.moved hW.alike h3.2.1, va_Nc.moved hW.alike h3.2.2.1, va_Nc.moved hW.alike h3.2.2.2⟩, fun i q hq => vk_R.warm hW (h4 i q hq), fun i q hq => vk_R.warm hW (h5 i q hq), vk_S.moved hW.alike (h6.kept hk), va_Z.moved hW.alike (h7.kept hk), vx_Zq.moved hW.alike (h8.kept hk), vx_Zq.moved hW.alike (h9.kept hk), h10.elim (fun z => Or.inl (va_Z.moved hW.alike (z.kept hk))) (fun z => Or.inr (va_Z.moved hW.alike (z.kept hk)))⟩
