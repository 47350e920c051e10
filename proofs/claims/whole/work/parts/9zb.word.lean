/-! texts: words and numbers, the class -/
def wLn (k : Nat) : Nat := sLen.getD k 0
def wB (k i : Nat) : Nat := ((sByt.getD k []).getD i 0).toInt.toNat
theorem wB_dec : ∀ k : Fin 11, ∀ i : Fin 5, i.val < wLn k.val → ((sByt.getD k.val []).getD i.val 0 = zi ((wB k.val i.val : Nat) : Int) ∧ 97 ≤ wB k.val i.val ∧ wB k.val i.val ≤ 122) := by decide +kernel
theorem wLn_dec : ∀ k : Fin 11, nI (sLen.getD k.val 0) = zi ((wLn k.val : Nat) : Int) ∧ 2 ≤ wLn k.val ∧ wLn k.val ≤ 5 := by decide +kernel
theorem wLn_s {k : Nat} (hk : k < 11) : nI (sLen.getD k 0) = zi ((wLn k : Nat) : Int) ∧ 2 ≤ wLn k ∧ wLn k ≤ 5 := wLn_dec ⟨k, hk⟩
theorem wB_s {k i : Nat} (hk : k < 11) (hi : i < wLn k) : (sByt.getD k []).getD i 0 = zi ((wB k i : Nat) : Int) ∧ 97 ≤ wB k i ∧ wB k i ≤ 122 := wB_dec ⟨k, hk⟩ ⟨i, by have := (wLn_s hk).2.2; omega⟩ hi
/-- word k stands at q -/
def WD (b : Nat → Nat) (n k q : Nat) : Prop := rn b isLw n q = q + wLn k ∧ ∀ i, i < wLn k → b (q + i) = wB k i
theorem word_c {b : Nat → Nat} {M : PM} {n p s k : Nat} {f g : Int} (h : TC b M n p s f g) (hk : k < 11) : ∃ v M', F_X4_takesWord_1 M k = rI (bb v) M' ∧ (v = true ↔ f = 0 ∧ WD b n k (sb b n p)) ∧ KT M M' ∧ (v = true → TC b M' n (sb b n p + wLn k) (sb b n p) f g) ∧ (v = false → TC b M' n (sb b n p) s f g) := by
  obtain ⟨M1, m1, m2, m3⟩ := skip_c h
  obtain ⟨l1, l2, l3⟩ := wLn_s hk
  have hp := m2.2.2.2.2.2.1
  have hn := m2.2.2.2.2.2.2.1
  have hge := rn_ge b isLw n (sb b n p)
  have hle := rn_le b isLw hp
  have no : ∀ P : Prop, ¬ P → ∃ v M', (some (.inl (some (.int 0)), M1) : Option PR) = rI (bb v) M' ∧ (v = true ↔ P) ∧ KT M M' ∧ (v = true → TC b M' n (sb b n p + wLn k) (sb b n p) f g) ∧ (v = false → TC b M' n (sb b n p) s f g) := fun P hP => ⟨false, M1, rfl, ⟨fun u => absurd u (by decide), fun u => absurd u hP⟩, m3, fun u => absurd u (by decide), fun _ => m2⟩
  unfold F_X4_takesWord_1
  rw [m1, cV_s, m2.2.1, lt_z]
  have e9 : F_X4_takesWord_1_9 FUEL M1 k (zi (sb b n p)) = F_X4_takesWord_1_45 M1 k (zi ((rn b isLw n (sb b n p) : Nat))) := by
    refine loopS (σ := Nat) (fun ff i => F_X4_takesWord_1_9 ff M1 k (zi (i : Nat))) (fun o => o = F_X4_takesWord_1_45 M1 k (zi ((rn b isLw n (sb b n p) : Nat)))) (fun r i => r = rn b isLw n (sb b n p) - i ∧ sb b n p ≤ i ∧ i ≤ rn b isLw n (sb b n p)) ?_ (rn b isLw n (sb b n p) - sb b n p) (sb b n p) FUEL ⟨rfl, Nat.le_refl _, hge⟩ (FUEL_gt (by omega))
    rintro ff r i ⟨i1, i2, i3⟩
    show F_X4_takesWord_1_9 (ff + 1) M1 k (zi (i : Nat)) = _ ∨ _
    rw [F_X4_takesWord_1_9, m2.1]
    by_cases q1 : i = n
    · left
      rw [if_pos (by rw [zi_le (by omega) (by omega)]; omega), show rn b isLw n (sb b n p) = i by omega]
    obtain ⟨b1, b2⟩ := m2.2.2.2.2.2.2.2.2.2 i (by omega)
    rw [if_neg (by rw [zi_le (by omega) (by omega)]; omega), if_pos (zi_ixT (by omega) (by omega)), zi_natN (by omega), b1]
    by_cases q2 : i < rn b isLw n (sb b n p)
    · right
      have hb := of_decide_eq_true (rn_in i2 q2)
      refine ⟨rn b isLw n (sb b n p) - (i + 1), i + 1, by omega, ⟨rfl, by omega, by omega⟩, ?_⟩
      rw [if_neg (by rw [show (97 : Int32) = zi 97 from rfl, zi_lt (by omega) (by omega)]; omega), if_pos (zi_ixT (by omega) (by omega)), if_neg (by rw [show (122 : Int32) = zi 122 from rfl, zi_lt (by omega) (by omega)]; omega), show (1 : Int32) = zi 1 from rfl, zi_add, lt_z, zc (show (i : Int) + 1 = ((i + 1 : Nat) : Int) by omega)]
    · left
      have e : rn b isLw n (sb b n p) = i := by omega
      have hb := of_decide_eq_false (rn_out (b := b) (q := isLw) (n := n) (p := sb b n p) (by omega))
      rw [e] at hb ⊢
      by_cases q3 : b i < 97
      · rw [if_pos (by rw [show (97 : Int32) = zi 97 from rfl, zi_lt (by omega) (by omega)]; omega)]
      · rw [if_neg (by rw [show (97 : Int32) = zi 97 from rfl, zi_lt (by omega) (by omega)]; omega), if_pos (zi_ixT (by omega) (by omega)), if_pos (by rw [show (122 : Int32) = zi 122 from rfl, zi_lt (by omega) (by omega)]; omega)]
  rw [e9]
  unfold F_X4_takesWord_1_45
  rw [isFine_c m2, cI_s]
  by_cases q : f = 0
  · rw [decide_eq_true q, if_neg (by decide), if_pos hk, m2.2.1, l1, zi_sub]
    unfold WD
    generalize rn b isLw n (sb b n p) = e at *
    by_cases q1 : e = sb b n p + wLn k
    · rw [if_pos (by rw [zi_eq (by omega) (by omega)]; omega)]
      subst q1
      refine loopS (σ := Nat) (fun ff i => F_X4_takesWord_1_69 ff M1 k (zi ((sb b n p + wLn k : Nat))) (zi (i : Nat))) (fun o => ∃ v M', o = rI (bb v) M' ∧ (v = true ↔ f = 0 ∧ sb b n p + wLn k = sb b n p + wLn k ∧ ∀ i, i < wLn k → b (sb b n p + i) = wB k i) ∧ KT M M' ∧ (v = true → TC b M' n (sb b n p + wLn k) (sb b n p) f g) ∧ (v = false → TC b M' n (sb b n p) s f g)) (fun r i => r = wLn k - i ∧ i ≤ wLn k ∧ ∀ j, j < i → b (sb b n p + j) = wB k j) ?_ (wLn k) 0 FUEL ⟨rfl, Nat.zero_le _, fun j hj => absurd hj (Nat.not_lt_zero j)⟩ (FUEL_gt (by omega))
      rintro ff r i ⟨i1, i2, i3⟩
      show (∃ v M', F_X4_takesWord_1_69 (ff + 1) M1 k (zi ((sb b n p + wLn k : Nat))) (zi (i : Nat)) = rI (bb v) M' ∧ _) ∨ _
      rw [F_X4_takesWord_1_69, if_pos hk, l1, m2.1, m2.2.1, zi_add]
      by_cases q2 : i = wLn k
      · left
        rw [if_pos (by rw [zi_le (by omega) (by omega)]; omega)]
        unfold F_X4_takesWord_1_117
        rw [if_pos (by decide), m2.2.1]
        refine ⟨true, _, rfl, ⟨fun _ => ⟨q, rfl, fun j hj => i3 j (by omega)⟩, fun _ => rfl⟩, m3.tr ((KT.i (by decide)).tr (KT.i (by decide))), fun _ => (m2.st' (by omega)).at' (by omega), fun u => absurd u (by decide)⟩
      · obtain ⟨b1, b2⟩ := m2.2.2.2.2.2.2.2.2.2 (sb b n p + i) (by omega)
        obtain ⟨w1, w2, w3⟩ := wB_s hk (show i < wLn k by omega)
        have hix : ixOK (zi (i : Int)) (sLen.getD k 0) = true := zi_ixT (n := wLn k) (by omega) (by omega)
        rw [if_neg (by rw [zi_le (by omega) (by omega)]; omega), if_neg (by rw [zi_le (by omega) (by omega)]; omega), if_pos (zi_ixT (by omega) (by omega)), if_pos ⟨hk, hix⟩, zc (show ((sb b n p : Nat) : Int) + i = ((sb b n p + i : Nat) : Int) by omega), zi_natN (by omega), zi_natN (by omega), b1, w1]
        by_cases q3 : b (sb b n p + i) = wB k i
        · right
          refine ⟨wLn k - (i + 1), i + 1, by omega, ⟨rfl, by omega, fun j hj => ?_⟩, ?_⟩
          · by_cases q4 : j = i
            · rw [q4]; exact q3
            · exact i3 j (by omega)
          · rw [if_pos (by rw [q3]), show (1 : Int32) = zi 1 from rfl, zi_add, lt_z, zc (show (i : Int) + 1 = ((i + 1 : Nat) : Int) by omega)]
        · left
          rw [if_neg (by rw [zi_eq (by omega) (by omega)]; omega), if_pos (by decide)]
          exact no _ (fun u => q3 (u.2.2 i (by omega)))
    · rw [if_neg (by rw [zi_eq (by omega) (by omega)]; omega), if_pos (by decide)]
      exact no _ (fun u => q1 u.2.1)
  · rw [decide_eq_false q, if_pos (by decide), if_pos (by decide)]
    exact no _ (fun u => q u.1)
/-- the number that i digits from q tell -/
def nv (b : Nat → Nat) (q : Nat) : Nat → Nat
  | 0 => 0
  | i + 1 => min (10 * nv b q i + b (q + i) - 48) 1000000
theorem nv_le {b : Nat → Nat} {q : Nat} : ∀ i, nv b q i ≤ 1000000
  | 0 => Nat.zero_le _
  | i + 1 => Nat.min_le_right _ _
/-- what a number from p is: its end, its value; or the fault -/
def nE (b : Nat → Nat) (n p : Nat) : Nat := rn b isDg n (sb b n p)
def nV (b : Nat → Nat) (n p : Nat) : Nat := nv b (sb b n p) (nE b n p - sb b n p)
def nFl (b : Nat → Nat) (n p : Nat) (lo hi : Int) : Int := if nE b n p = sb b n p then 1 else if lo ≤ nV b n p ∧ nV b n p ≤ hi then 0 else 2
theorem number_c {b : Nat → Nat} {M : PM} {n p s : Nat} {f g lo hi : Int} (h : TC b M n p s f g) (hlo : -2147483648 ≤ lo ∧ lo < 2147483648) (hhi : -2147483648 ≤ hi ∧ hi < 2147483648) : ∃ M', KT M M' ∧ ((f = 0 ∧ nFl b n p lo hi = 0 ∧ F_X4_takeNumber_1 M (zi lo) (zi hi) = rI (zi (nV b n p)) M' ∧ TC b M' n (nE b n p) (sb b n p) 0 g) ∨ (f = 0 ∧ nFl b n p lo hi ≠ 0 ∧ F_X4_takeNumber_1 M (zi lo) (zi hi) = rI (zi (-1)) M' ∧ TC b M' n (nE b n p) (sb b n p) (nFl b n p lo hi) ((sb b n p : Nat) : Int)) ∨ (f ≠ 0 ∧ F_X4_takeNumber_1 M (zi lo) (zi hi) = rI (zi (-1)) M' ∧ TC b M' n (nE b n p) (sb b n p) f g)) := by
  obtain ⟨M1, m1, m2, m3⟩ := skip_c h
  have hp := m2.2.2.2.2.2.1
  have hn := m2.2.2.2.2.2.2.1
  have hge := rn_ge b isDg n (sb b n p)
  have hle := rn_le b isDg hp
  have hnv := nv_le (b := b) (q := sb b n p) (nE b n p - sb b n p)
  unfold F_X4_takeNumber_1
  rw [m1, cV_s, m2.2.1]
  have m20 : TC b (sI M1 1 4 (zi (sb b n p))) n (sb b n p) (sb b n p) f g := m2.st' (by omega)
  have e14 : ∃ M2, F_X4_takeNumber_1_14 FUEL (sI M1 1 4 (zi (sb b n p))) (zi lo) (zi hi) (zi 0) = F_X4_takeNumber_1_89 M2 (zi lo) (zi hi) (zi (nV b n p)) ∧ TC b M2 n (nE b n p) (sb b n p) f g ∧ KT M M2 := by
    refine loopS (σ := PM × Nat) (fun ff q => F_X4_takeNumber_1_14 ff q.1 (zi lo) (zi hi) (zi (nv b (sb b n p) (q.2 - sb b n p)))) (fun o => ∃ M2, o = F_X4_takeNumber_1_89 M2 (zi lo) (zi hi) (zi (nV b n p)) ∧ TC b M2 n (nE b n p) (sb b n p) f g ∧ KT M M2) (fun r q => r = nE b n p - q.2 ∧ sb b n p ≤ q.2 ∧ q.2 ≤ nE b n p ∧ TC b q.1 n q.2 (sb b n p) f g ∧ KT M q.1) ?_ (nE b n p - sb b n p) (sI M1 1 4 (zi (sb b n p)), sb b n p) FUEL ⟨rfl, Nat.le_refl _, hge, m20, m3.tr (KT.i (by decide))⟩ (FUEL_gt (by unfold nE; omega)) |> (fun h => by
      rw [show sb b n p - sb b n p = 0 by omega] at h
      exact h)
    rintro ff r ⟨M2, i⟩ ⟨i1, i2, i3, i4, i5⟩
    simp only at i1 i2 i3 i4 i5
    show (∃ M3, F_X4_takeNumber_1_14 (ff + 1) M2 (zi lo) (zi hi) (zi (nv b (sb b n p) (i - sb b n p))) = _ ∧ _) ∨ _
    rw [F_X4_takeNumber_1_14, i4.1, i4.2.1]
    have hleE : nE b n p ≤ n := hle
    by_cases q1 : i = n
    · left
      have e : nE b n p = i := by omega
      refine ⟨M2, by rw [if_pos (by rw [zi_le (by omega) (by omega)]; omega)]; unfold nV; rw [e], e ▸ i4, i5⟩
    obtain ⟨b1, b2⟩ := i4.2.2.2.2.2.2.2.2.2 i (by omega)
    rw [if_neg (by rw [zi_le (by omega) (by omega)]; omega), if_pos (zi_ixT (by omega) (by omega)), zi_natN (by omega), b1]
    by_cases q2 : i < nE b n p
    · right
      have hb := of_decide_eq_true (rn_in i2 q2)
      have hv := nv_le (b := b) (q := sb b n p) (i - sb b n p)
      refine ⟨nE b n p - (i + 1), (sI M2 1 3 (zi ((i + 1 : Nat))), i + 1), by omega, ⟨rfl, by show sb b n p ≤ i + 1; omega, by show i + 1 ≤ nE b n p; omega, i4.at' (by omega), i5.tr (KT.i (by decide))⟩, ?_⟩
      rw [if_neg (by rw [show (48 : Int32) = zi 48 from rfl, zi_lt (by omega) (by omega)]; omega), if_pos (zi_ixT (by omega) (by omega)), if_neg (by rw [show (57 : Int32) = zi 57 from rfl, zi_lt (by omega) (by omega)]; omega), if_pos (zi_ixT (by omega) (by omega)), show (10 : Int32) = zi 10 from rfl, show (48 : Int32) = zi 48 from rfl, show (1000000 : Int32) = zi ((1000000 : Nat) : Int) from rfl, zi_mul, zi_add, zi_sub, zc (show (10 : Int) * (nv b (sb b n p) (i - sb b n p) : Int) + (b i : Int) - 48 = ((10 * nv b (sb b n p) (i - sb b n p) + b i - 48 : Nat) : Int) by omega), minN (by omega) (by omega), cI_s, i4.2.1, show (1 : Int32) = zi 1 from rfl, zi_add, zc (show (i : Int) + 1 = ((i + 1 : Nat) : Int) by omega)]
      dsimp only
      rw [show i + 1 - sb b n p = i - sb b n p + 1 by omega, nv, show sb b n p + (i - sb b n p) = i by omega]
    · left
      have e : nE b n p = i := by omega
      have hb := of_decide_eq_false (rn_out (b := b) (q := isDg) (n := n) (p := sb b n p) (show nE b n p < n by omega))
      have e2 : rn b isDg n (sb b n p) = i := e
      rw [e2] at hb
      refine ⟨M2, ?_, e ▸ i4, i5⟩
      unfold nV
      rw [e]
      by_cases q3 : b i < 48
      · rw [if_pos (by rw [show (48 : Int32) = zi 48 from rfl, zi_lt (by omega) (by omega)]; omega)]
      · rw [if_neg (by rw [show (48 : Int32) = zi 48 from rfl, zi_lt (by omega) (by omega)]; omega), if_pos (zi_ixT (by omega) (by omega)), if_pos (by rw [show (57 : Int32) = zi 57 from rfl, zi_lt (by omega) (by omega)]; omega)]
  obtain ⟨M2, k1, k2, k3⟩ := e14
  have hvV : nV b n p ≤ 1000000 := hnv
  have k1' : F_X4_takeNumber_1_14 FUEL (sI M1 1 4 (zi (sb b n p))) (zi lo) (zi hi) 0 = F_X4_takeNumber_1_89 M2 (zi lo) (zi hi) (zi (nV b n p)) := k1
  rw [k1']
  unfold F_X4_takeNumber_1_89 F_X4_takeNumber_1_122
  rw [k2.2.1, k2.2.2.1]
  have hE : nE b n p ≤ n := hle
  have fin : ∀ x : Int, (0 < x ∧ x ≤ 4) → nFl b n p lo hi = x → ∀ o, (∀ M3, F_X4_blame_1 M2 (zi x) (zi (sb b n p)) = rV M3 → o = F_X4_takeNumber_1_131 M3 (zi (nV b n p))) → ∃ M', KT M M' ∧ ((f = 0 ∧ nFl b n p lo hi = 0 ∧ o = rI (zi (nV b n p)) M' ∧ TC b M' n (nE b n p) (sb b n p) 0 g) ∨ (f = 0 ∧ nFl b n p lo hi ≠ 0 ∧ o = rI (zi (-1)) M' ∧ TC b M' n (nE b n p) (sb b n p) (nFl b n p lo hi) ((sb b n p : Nat) : Int)) ∨ (f ≠ 0 ∧ o = rI (zi (-1)) M' ∧ TC b M' n (nE b n p) (sb b n p) f g)) := fun x hx hF o ho => by
    obtain ⟨M3, a1, a2, a3⟩ := blame_c (x := x) (y := ((sb b n p : Nat) : Int)) k2 hx
    refine ⟨M3, k3.tr a3, ?_⟩
    rw [ho M3 a1]
    unfold F_X4_takeNumber_1_131
    rw [isFine_c a2, cI_s]
    by_cases q : f = 0
    · rw [if_pos q, if_pos q] at a2
      refine Or.inr (Or.inl ⟨q, by omega, ?_, by rw [hF]; exact a2⟩)
      rw [if_pos q, decide_eq_false (by omega), if_pos (by decide)]
      rfl
    · rw [if_neg q, if_neg q] at a2
      refine Or.inr (Or.inr ⟨q, ?_, a2⟩)
      rw [if_neg q, decide_eq_false q, if_pos (by decide)]
      rfl
  by_cases q1 : nE b n p = sb b n p
  · rw [if_pos (by rw [q1])]
    refine fin 1 (by decide) (by unfold nFl; rw [if_pos q1]) _ (fun M3 h3 => ?_)
    rw [show (1 : Int32) = zi 1 from rfl, h3, cV_s]
  · rw [if_neg (by rw [zi_eq (by omega) (by omega)]; omega)]
    by_cases q2 : lo ≤ nV b n p ∧ nV b n p ≤ hi
    · refine ⟨M2, k3, ?_⟩
      rw [if_neg (by rw [zi_lt (by omega) (by omega)]; omega), if_pos (by rw [zi_le (by omega) (by omega)]; omega)]
      unfold F_X4_takeNumber_1_131
      rw [isFine_c k2, cI_s]
      by_cases q : f = 0
      · refine Or.inl ⟨q, by unfold nFl; rw [if_neg q1, if_pos q2], ?_, q ▸ k2⟩
        rw [decide_eq_true q, if_neg (by decide)]
      · refine Or.inr (Or.inr ⟨q, ?_, k2⟩)
        rw [decide_eq_false q, if_pos (by decide)]
        rfl
    · have hF : nFl b n p lo hi = 2 := by unfold nFl; rw [if_neg q1, if_neg q2]
      refine fin 2 (by decide) hF _ (fun M3 h3 => ?_)
      rw [show (2 : Int32) = zi 2 from rfl, h3, cV_s]
      by_cases q3 : (nV b n p : Int) < lo
      · rw [if_pos (by rw [zi_lt (by omega) (by omega)]; omega)]
      · rw [if_neg (by rw [zi_lt (by omega) (by omega)]; omega), if_neg (by rw [zi_le (by omega) (by omega)]; omega)]
