/-! THE CONSTRUCTORS: the world of the first n things, with the references rs set so far -/
def rfN (ad : Nat → Nat → Nat) (rs : List (Nat × Nat)) (q k : Nat) : Option Nat := if (q, k) ∈ rs then (gRef q k).map fun r => ad r 0 else none
def fvN (ad : Nat → Nat → Nat) (rs : List (Nat × Nat)) (M : PM) (q k tag : Nat) : Value := if tag = 1 then .long (M.2.1 q k) else if tag = 2 then va_rf (rfN ad rs q k) else .int (M.1 q k)
def fldsN (ad : Nat → Nat → Nat) (rs : List (Nat × Nat)) (M : PM) (q ci : Nat) : List Value := (List.range (nF ci)).map fun k => fvN ad rs M q k (ft ci k)
def cEN0 (cy : Nat → ClassId) (ad : Nat → Nat → Nat) (rs : List (Nat × Nat)) (M : PM) (q : Nat) : Option (Nat × Nat × Nat) → va_E
  | some (0, ci, _) => .inr (ci, fldsN ad rs M q ci)
  | some (1, n, _) => .inl (cy 0, n, .inl (M.2.2.1 q))
  | some (2, n, _) => .inl (cy 1, n, .inr (.inl (M.2.2.2.1 q)))
  | some (3, n, _) => .inl (cy 2, n, .inl (M.2.2.1 q))
  | some (4, n, _) => .inl (cy 3, n, .inr (.inr (.inr (.inr fun j => rfN ad rs q j))))
  | some (5, n, _) => .inl (cy 4, n, .inr (.inr (.inr (.inr fun j => if j < n then some (ad q (j + 1)) else none))))
  | _ => .inl (cy 0, 0, .inl fun _ => 0)
def cEN (cy : Nat → ClassId) (ad : Nat → Nat → Nat) (rs : List (Nat × Nat)) (M : PM) (q : Nat) : Nat → va_E
  | 0 => cEN0 cy ad rs M q (gT q)
  | i + 1 => cE1 cy M q i (gT q)
def keysN (n : Nat) : List (Nat × Nat) := (List.range n).flatMap kOf
def wlN (cy : Nat → ClassId) (ad : Nat → Nat → Nat) (n : Nat) (rs : List (Nat × Nat)) (M : PM) : va_W := (keysN n).map fun κ => (ad κ.1 κ.2, cEN cy ad rs M κ.1 κ.2)
/-- nothing is written yet in the things from n on -/
def ZM (n : Nat) (M : PM) : Prop := ∀ q, n ≤ q → (∀ k, M.1 q k = 0) ∧ (∀ k, M.2.1 q k = 0) ∧ (∀ k, M.2.2.1 q k = 0) ∧ (∀ k, M.2.2.2.1 q k = 0) ∧ (∀ i k, M.2.2.2.2 q i k = 0)
def RS (n : Nat) (rs : List (Nat × Nat)) : Prop := ∀ p ∈ rs, p.1 < n ∧ ∀ r, gRef p.1 p.2 = some r → r < n
def WN (sz : Nat) (D : va_G) (cy : Nat → ClassId) (ad : Nat → Nat → Nat) (n : Nat) (rs : List (Nat × Nat)) (M : PM) (H : Heap) : Prop := va_P D vwCl (wlN cy ad n rs M) H ∧ va_D (fun q => sz ≤ q) (wlN cy ad n rs M) ∧ ZM n M ∧ RS n rs
theorem kOf_fst {q : Nat} {κ : Nat × Nat} (h : κ ∈ kOf q) : κ.1 = q := by
  rcases List.mem_cons.mp h with rfl | h
  · rfl
  · obtain ⟨i, -, rfl⟩ := List.mem_map.mp h
    rfl
theorem keysN_lt {n : Nat} {κ : Nat × Nat} (h : κ ∈ keysN n) : κ.1 < n := by
  obtain ⟨q, hq, hk⟩ := List.mem_flatMap.mp h
  rw [kOf_fst hk]
  exact List.mem_range.mp hq
theorem keysN_of {q n : Nat} (h : q < n) : (q, 0) ∈ keysN n := List.mem_flatMap.mpr ⟨q, List.mem_range.mpr h, List.mem_cons_self⟩
theorem keysN_succ (n : Nat) : keysN (n + 1) = keysN n ++ kOf n := by
  unfold keysN
  rw [List.range_succ, List.flatMap_append]
  simp
/-- addresses of later things don't matter -/
theorem cEN_ad {cy : Nat → ClassId} {ad ad' : Nat → Nat → Nat} {n : Nat} {rs : List (Nat × Nat)} {M : PM} (h : ∀ q i, q < n → ad' q i = ad q i) (hr : RS n rs) {q i : Nat} (hq : q < n) : cEN cy ad' rs M q i = cEN cy ad rs M q i := by
  have hrf : ∀ k, rfN ad' rs q k = rfN ad rs q k := fun k => by
    unfold rfN
    by_cases hm : (q, k) ∈ rs
    · rw [if_pos hm, if_pos hm]
      cases hg : gRef q k with
      | none => rfl
      | some r => exact congrArg some (h r 0 ((hr _ hm).2 r hg))
    · rw [if_neg hm, if_neg hm]
  cases i with
  | succ j => rfl
  | zero =>
    show cEN0 cy ad' rs M q (gT q) = cEN0 cy ad rs M q (gT q)
    cases hg : gT q with
    | none => rfl
    | some t =>
      obtain ⟨a, b, c⟩ := t
      match a with
      | 0 =>
        show Sum.inr (b, fldsN ad' rs M q b) = Sum.inr (b, fldsN ad rs M q b)
        have : fldsN ad' rs M q b = fldsN ad rs M q b := List.map_congr_left fun k _ => by unfold fvN; rw [hrf]
        rw [this]
      | 1 | 2 | 3 => rfl
      | 4 =>
        show Sum.inl (cy 3, b, Sum.inr (Sum.inr (Sum.inr (Sum.inr fun j => rfN ad' rs q j)))) = Sum.inl (cy 3, b, Sum.inr (Sum.inr (Sum.inr (Sum.inr fun j => rfN ad rs q j))))
        rw [show (fun j => rfN ad' rs q j) = fun j => rfN ad rs q j from funext hrf]
      | 5 =>
        show Sum.inl (cy 4, b, Sum.inr (Sum.inr (Sum.inr (Sum.inr fun j => if j < b then some (ad' q (j + 1)) else none)))) = Sum.inl (cy 4, b, Sum.inr (Sum.inr (Sum.inr (Sum.inr fun j => if j < b then some (ad q (j + 1)) else none))))
        rw [show (fun j => if j < b then some (ad' q (j + 1)) else none) = fun j => if j < b then some (ad q (j + 1)) else none from funext fun j => by rw [h q (j + 1) hq]]
      | k + 6 => rfl
theorem wlN_ad {cy : Nat → ClassId} {ad ad' : Nat → Nat → Nat} {n : Nat} {rs : List (Nat × Nat)} {M : PM} (h : ∀ q i, q < n → ad' q i = ad q i) (hr : RS n rs) : wlN cy ad' n rs M = wlN cy ad n rs M := by
  unfold wlN
  refine List.map_congr_left fun κ hκ => ?_
  rw [h κ.1 κ.2 (keysN_lt hκ), cEN_ad h hr (keysN_lt hκ)]
theorem wlN_succ (cy : Nat → ClassId) (ad : Nat → Nat → Nat) (n : Nat) (rs : List (Nat × Nat)) (M : PM) : wlN cy ad (n + 1) rs M = wlN cy ad n rs M ++ (kOf n).map fun κ => (ad κ.1 κ.2, cEN cy ad rs M κ.1 κ.2) := by
  unfold wlN
  rw [keysN_succ, List.map_append]
def adU (ad : Nat → Nat → Nat) (n a : Nat) (r : Nat → Nat) : Nat → Nat → Nat := fun q i => if q = n then (match i with | 0 => a | j + 1 => r j) else ad q i
theorem adU_ne {ad : Nat → Nat → Nat} {n a q i : Nat} {r : Nat → Nat} (h : q ≠ n) : adU ad n a r q i = ad q i := if_neg h
theorem ZM.up {n : Nat} {M : PM} (h : ZM n M) : ZM (n + 1) M := fun q hq => h q (by omega)
theorem RS.up {n : Nat} {rs : List (Nat × Nat)} (h : RS n rs) : RS (n + 1) rs := fun p hp => ⟨Nat.lt_succ_of_lt (h p hp).1, fun r hr => Nat.lt_succ_of_lt ((h p hp).2 r hr)⟩
theorem rfN_new {ad : Nat → Nat → Nat} {n k : Nat} {rs : List (Nat × Nat)} (h : RS n rs) : rfN ad rs n k = none := if_neg fun hm => absurd (h _ hm).1 (Nat.lt_irrefl _)
/-- a new thing of one cell -/
theorem WN.push {sz : Nat} {D : va_G} {cy : Nat → ClassId} {ad : Nat → Nat → Nat} {n a : Nat} {rs : List (Nat × Nat)} {M : PM} {H H1 : Heap} {e : va_E} (h : WN sz D cy ad n rs M H) (hP : va_P D vwCl (wlN cy ad n rs M ++ [(a, e)]) H1) (hD : va_D (fun q => sz ≤ q) (wlN cy ad n rs M ++ [(a, e)])) (hrow : rowsOf (gT n) = 0) (he : cEN cy (adU ad n a (fun _ => 0)) rs M n 0 = e) : WN sz D cy (adU ad n a (fun _ => 0)) (n + 1) rs M H1 := by
  have hw : wlN cy (adU ad n a (fun _ => 0)) (n + 1) rs M = wlN cy ad n rs M ++ [(a, e)] := by
    rw [wlN_succ, wlN_ad (fun q i hq => adU_ne (Nat.ne_of_lt hq)) h.2.2.2]
    unfold kOf
    rw [hrow]
    show _ ++ [(adU ad n a (fun _ => 0) n 0, cEN cy (adU ad n a (fun _ => 0)) rs M n 0)] = _
    rw [he]
    show _ ++ [(if n = n then a else _, e)] = _
    rw [if_pos rfl]
  exact ⟨by rw [hw]; exact hP, by rw [hw]; exact hD, h.2.2.1.up, h.2.2.2.up⟩
theorem zf {f : Nat → Int32} (h : ∀ k, f k = 0) : f = fun _ => 0 := funext h
theorem zfJ {f : Nat → Int64} (h : ∀ k, f k = 0) : f = fun _ => 0 := funext h
/-- the full world -/
theorem WN.full {sz : Nat} {D : va_G} {cy : Nat → ClassId} {ad : Nat → Nat → Nat} {rs : List (Nat × Nat)} {M : PM} {H : Heap} (h : WN sz D cy ad gTl.length rs M H) (hall : ∀ q k r, gRef q k = some r → (q, k) ∈ rs) : WH sz D cy ad M H := by
  have hrf : ∀ q k, rfN ad rs q k = (gRef q k).map fun r => ad r 0 := fun q k => by
    unfold rfN
    cases hg : gRef q k with
    | none => by_cases hm : (q, k) ∈ rs <;> simp [hm]
    | some r => rw [if_pos (hall q k r hg)]
  have hw : wlN cy ad gTl.length rs M = wl cy ad M := by
    unfold wlN wl keysN keys
    refine List.map_congr_left fun κ _ => ?_
    obtain ⟨q, i⟩ := κ
    show (ad q i, cEN cy ad rs M q i) = (ad q i, cE cy ad M q i)
    cases i with
    | succ j => rfl
    | zero =>
      refine congrArg (fun z => (ad q 0, z)) ?_
      show cEN0 cy ad rs M q (gT q) = cE0 cy ad M q (gT q)
      cases hg : gT q with
      | none => rfl
      | some t =>
        obtain ⟨a, b, c⟩ := t
        match a with
        | 0 =>
          show Sum.inr (b, fldsN ad rs M q b) = Sum.inr (b, flds ad M q b)
          have : fldsN ad rs M q b = flds ad M q b := List.map_congr_left fun k _ => by unfold fvN fv; rw [hrf]
          rw [this]
        | 1 | 2 | 3 | 5 => rfl
        | 4 =>
          show Sum.inl (cy 3, b, Sum.inr (Sum.inr (Sum.inr (Sum.inr fun j => rfN ad rs q j)))) = Sum.inl (cy 3, b, Sum.inr (Sum.inr (Sum.inr (Sum.inr fun j => (gRef q j).map fun r => ad r 0))))
          rw [show (fun j => rfN ad rs q j) = fun j => (gRef q j).map fun r => ad r 0 from funext (hrf q)]
        | k + 6 => rfl
  exact ⟨by rw [← hw]; exact h.1, by rw [← hw]; exact h.2.1⟩
theorem wlN_at {κ : Nat × Nat} {n : Nat} (h : κ ∈ keysN n) (cy : Nat → ClassId) (ad : Nat → Nat → Nat) (rs : List (Nat × Nat)) (M : PM) : ∃ k : Nat, (wlN cy ad n rs M)[k]? = some (ad κ.1 κ.2, cEN cy ad rs M κ.1 κ.2) ∧ (keysN n)[k]? = some κ := by
  obtain ⟨k, hk⟩ := List.getElem?_of_mem h
  exact ⟨k, by unfold wlN; rw [List.getElem?_map, hk]; rfl, hk⟩
theorem wlN_set {cy : Nat → ClassId} {ad : Nat → Nat → Nat} {n : Nat} {rs rs' : List (Nat × Nat)} {M M' : PM} {A : Nat → Prop} {κ : Nat × Nat} {k : Nat} {e : va_E} (hD : va_D A (wlN cy ad n rs M)) (hk : (keysN n)[k]? = some κ) (he : cEN cy ad rs' M' κ.1 κ.2 = e) (ho : ∀ q i, (q, i) ≠ κ → cEN cy ad rs' M' q i = cEN cy ad rs M q i) :
    (wlN cy ad n rs M).set k (ad κ.1 κ.2, e) = wlN cy ad n rs' M' := by
  refine List.ext_getElem? fun j => ?_
  rw [List.getElem?_set]
  have hg : ∀ (r : List (Nat × Nat)) (N : PM) (z : Nat), (wlN cy ad n r N)[z]? = ((keysN n)[z]?).map fun κ => (ad κ.1 κ.2, cEN cy ad r N κ.1 κ.2) := fun r N z => by unfold wlN; rw [List.getElem?_map]
  have hl : k < (wlN cy ad n rs M).length := by
    unfold wlN
    rw [List.length_map]
    exact (List.getElem?_eq_some_iff.mp hk).1
  by_cases hj : k = j
  · subst hj
    rw [if_pos rfl, if_pos hl, hg, hk, ← he]
    rfl
  · rw [if_neg hj, hg, hg]
    cases hq : (keysN n)[j]? with
    | none => rfl
    | some κ2 =>
      have hne : (κ2.1, κ2.2) ≠ κ := fun e2 => by
        have e3 : κ2 = κ := e2
        subst e3
        exact hj (hD.1 k j _ _ (by rw [hg, hk]; rfl) (by rw [hg, hq]; rfl) rfl)
      exact congrArg (fun z => some (ad κ2.1 κ2.2, z)) (ho κ2.1 κ2.2 hne).symm
theorem fldsN_at {ad : Nat → Nat → Nat} {rs : List (Nat × Nat)} {M : PM} {q ci k : Nat} (hk : k < nF ci) : (fldsN ad rs M q ci)[k]? = some (fvN ad rs M q k (ft ci k)) := by
  unfold fldsN
  rw [List.getElem?_map, List.getElem?_range hk]
  rfl
theorem fldsN_len (ad : Nat → Nat → Nat) (rs : List (Nat × Nat)) (M : PM) (q ci : Nat) : (fldsN ad rs M q ci).length = nF ci := by
  unfold fldsN
  rw [List.length_map, List.length_range]
theorem fldsN_set {ad : Nat → Nat → Nat} {rs rs' : List (Nat × Nat)} {M M' : PM} {q ci k : Nat} {v : Value} (h : fvN ad rs' M' q k (ft ci k) = v) (ho : ∀ j, j ≠ k → fvN ad rs' M' q j (ft ci j) = fvN ad rs M q j (ft ci j)) : (fldsN ad rs M q ci).set k v = fldsN ad rs' M' q ci := by
  refine List.ext_getElem? fun j => ?_
  rw [List.getElem?_set, fldsN_len]
  by_cases hj : j < nF ci
  · rw [fldsN_at hj, fldsN_at hj]
    by_cases e : k = j
    · subst e
      rw [if_pos rfl, if_pos hj, h]
    · rw [if_neg e, ho j (fun z => e z.symm)]
  · have h1 : (fldsN ad rs M q ci)[j]? = none := List.getElem?_eq_none (by rw [fldsN_len]; omega)
    have h2 : (fldsN ad rs' M' q ci)[j]? = none := List.getElem?_eq_none (by rw [fldsN_len]; omega)
    rw [h1, h2]
    by_cases e : k = j
    · subst e
      rw [if_pos rfl, if_neg hj]
    · rw [if_neg e]
theorem cEN_obj {cy : Nat → ClassId} {ad : Nat → Nat → Nat} {rs : List (Nat × Nat)} {M : PM} {q ci z : Nat} (h : gT q = some (0, ci, z)) : cEN cy ad rs M q 0 = .inr (ci, fldsN ad rs M q ci) := by
  show cEN0 cy ad rs M q (gT q) = _
  rw [h]
  rfl
theorem cEN_int {cy : Nat → ClassId} {ad : Nat → Nat → Nat} {rs : List (Nat × Nat)} {M : PM} {q n z : Nat} (h : gT q = some (1, n, z)) : cEN cy ad rs M q 0 = .inl (cy 0, n, .inl (M.2.2.1 q)) := by
  show cEN0 cy ad rs M q (gT q) = _
  rw [h]
  rfl
theorem cEN_refs {cy : Nat → ClassId} {ad : Nat → Nat → Nat} {rs : List (Nat × Nat)} {M : PM} {q n z : Nat} (h : gT q = some (4, n, z)) : cEN cy ad rs M q 0 = .inl (cy 3, n, .inr (.inr (.inr (.inr fun j => rfN ad rs q j)))) := by
  show cEN0 cy ad rs M q (gT q) = _
  rw [h]
  rfl
/-- what a change in the thing q leaves -/
theorem cEN_same {cy : Nat → ClassId} {ad : Nat → Nat → Nat} {rs rs' : List (Nat × Nat)} {M M' : PM} {q i : Nat} (h0 : i = 0 → (∀ k, M'.1 q k = M.1 q k) ∧ (∀ k, M'.2.1 q k = M.2.1 q k) ∧ M'.2.2.1 q = M.2.2.1 q ∧ M'.2.2.2.1 q = M.2.2.2.1 q ∧ ∀ k, ((q, k) ∈ rs' ↔ (q, k) ∈ rs)) (h1 : ∀ j, i = j + 1 → M'.2.2.2.2 q j = M.2.2.2.2 q j) : cEN cy ad rs' M' q i = cEN cy ad rs M q i := by
  cases i with
  | succ j =>
    show cE1 cy M' q j (gT q) = cE1 cy M q j (gT q)
    cases hg : gT q with
    | none => rfl
    | some t =>
      obtain ⟨a, b, c⟩ := t
      match a with
      | 0 | 1 | 2 | 3 | 4 => rfl
      | 5 => show Sum.inl (cy 0, c, Sum.inl (M'.2.2.2.2 q j)) = Sum.inl (cy 0, c, Sum.inl (M.2.2.2.2 q j)); rw [h1 j rfl]
      | n + 6 => rfl
  | zero =>
    obtain ⟨g1, g2, g3, g4, g5⟩ := h0 rfl
    have hrf : ∀ k, rfN ad rs' q k = rfN ad rs q k := fun k => by
      unfold rfN
      by_cases hm : (q, k) ∈ rs
      · rw [if_pos hm, if_pos ((g5 k).mpr hm)]
      · rw [if_neg hm, if_neg (fun z => hm ((g5 k).mp z))]
    show cEN0 cy ad rs' M' q (gT q) = cEN0 cy ad rs M q (gT q)
    cases hg : gT q with
    | none => rfl
    | some t =>
      obtain ⟨a, b, c⟩ := t
      match a with
      | 0 =>
        show Sum.inr (b, fldsN ad rs' M' q b) = Sum.inr (b, fldsN ad rs M q b)
        have : fldsN ad rs' M' q b = fldsN ad rs M q b := List.map_congr_left fun k _ => by unfold fvN; rw [hrf, g1, g2]
        rw [this]
      | 1 => show Sum.inl (cy 0, b, Sum.inl (M'.2.2.1 q)) = Sum.inl (cy 0, b, Sum.inl (M.2.2.1 q)); rw [g3]
      | 2 => show Sum.inl (cy 1, b, Sum.inr (Sum.inl (M'.2.2.2.1 q))) = Sum.inl (cy 1, b, Sum.inr (Sum.inl (M.2.2.2.1 q))); rw [g4]
      | 3 => show Sum.inl (cy 2, b, Sum.inl (M'.2.2.1 q)) = Sum.inl (cy 2, b, Sum.inl (M.2.2.1 q)); rw [g3]
      | 4 =>
        show Sum.inl (cy 3, b, Sum.inr (Sum.inr (Sum.inr (Sum.inr fun j => rfN ad rs' q j)))) = Sum.inl (cy 3, b, Sum.inr (Sum.inr (Sum.inr (Sum.inr fun j => rfN ad rs q j))))
        rw [show (fun j => rfN ad rs' q j) = fun j => rfN ad rs q j from funext hrf]
      | 5 => rfl
      | n + 6 => rfl
