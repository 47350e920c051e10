/-! texts: words, the reference -/
def cdF (x : Nat → Nat) : Nat → Nat
  | 0 => 0
  | i + 1 => 27 * cdF x i + x i
theorem cdF_lt {x : Nat → Nat} : ∀ i, (∀ j, j < i → x j ≤ 26) → cdF x i < 27 ^ i
  | 0, _ => (by decide : 0 < 1)
  | i + 1, h => by
    have := cdF_lt i (fun j hj => h j (by omega))
    have := h i (by omega)
    rw [cdF, Nat.pow_succ]
    omega
theorem cdF_pos {x : Nat → Nat} {i : Nat} (h : ∀ j, j < i + 1 → 1 ≤ x j) : 1 ≤ cdF x (i + 1) := by
  have := h i (by omega)
  rw [cdF]
  omega
theorem cdF_inj {x y : Nat → Nat} : ∀ r m, (∀ j, j < r → 1 ≤ x j ∧ x j ≤ 26) → (∀ j, j < m → 1 ≤ y j ∧ y j ≤ 26) → cdF x r = cdF y m → r = m ∧ ∀ j, j < r → x j = y j
  | 0, 0, _, _, _ => ⟨rfl, fun j hj => absurd hj (Nat.not_lt_zero j)⟩
  | 0, m + 1, _, hy, h => by
    have := cdF_pos (fun j hj => (hy j hj).1)
    rw [← h] at this
    exact absurd this (by show ¬ 1 ≤ 0; decide)
  | r + 1, 0, hx, _, h => by
    have := cdF_pos (fun j hj => (hx j hj).1)
    rw [h] at this
    exact absurd this (by show ¬ 1 ≤ 0; decide)
  | r + 1, m + 1, hx, hy, h => by
    have h1 := hx r (by omega)
    have h2 := hy m (by omega)
    rw [cdF, cdF] at h
    have h3 : x r = y m ∧ cdF x r = cdF y m := by omega
    obtain ⟨e1, e2⟩ := cdF_inj r m (fun j hj => hx j (by omega)) (fun j hj => hy j (by omega)) h3.2
    subst e1
    refine ⟨rfl, fun j hj => ?_⟩
    by_cases q : j = r
    · rw [q]; exact h3.1
    · exact e2 j (by omega)
def wCd (k : Nat) : Nat := cdF (fun i => wB k i - 96) (wLn k)
def rnL (b : Nat → Nat) (n q : Nat) : Nat := rn b isLw n q - q
theorem WD_code {b : Nat → Nat} {n k q : Nat} (hk : k < 11) (hr : rnL b n q ≤ 6) : cdF (fun i => b (q + i) - 96) (rnL b n q) = wCd k ↔ WD b n k q := by
  have hge := rn_ge b isLw n q
  have hx : ∀ j, j < rnL b n q → 97 ≤ b (q + j) ∧ b (q + j) ≤ 122 := fun j hj => of_decide_eq_true (rn_in (b := b) (q := isLw) (n := n) (p := q) (by omega) (by unfold rnL at hj; omega))
  have hy : ∀ j, j < wLn k → 97 ≤ wB k j ∧ wB k j ≤ 122 := fun j hj => (wB_s hk hj).2
  unfold WD wCd
  constructor
  · intro h
    obtain ⟨e1, e2⟩ := cdF_inj _ _ (fun j hj => by have := hx j hj; omega) (fun j hj => by have := hy j hj; omega) h
    refine ⟨by unfold rnL at e1; omega, fun i hi => ?_⟩
    have := e2 i (by omega)
    have := hx i (by omega)
    have := hy i hi
    omega
  · rintro ⟨e1, e2⟩
    have e3 : rnL b n q = wLn k := by unfold rnL; omega
    rw [e3]
    have : ∀ m, m ≤ wLn k → cdF (fun i => b (q + i) - 96) m = cdF (fun i => wB k i - 96) m := fun m hm => by
      induction m with
      | zero => rfl
      | succ m ih => rw [cdF, cdF, ih (by omega), e2 m (by omega)]
    exact this _ (Nat.le_refl _)
theorem wordHere_m {b : Nat → Nat} {M : PM} {n p : Nat} {f g : Int} (h : TM b M n p f g) : ∃ M', F_X11_wordHere_99 M = rI (zi (if rnL b n (sb b n p) ≤ 6 then (cdF (fun i => b (sb b n p + i) - 96) (rnL b n (sb b n p)) : Int) else -1)) M' ∧ TM b M' n (sb b n p) f g ∧ KR M M' := by
  obtain ⟨M1, m1, m2, m3⟩ := blanks_m h
  refine ⟨M1, ?_, m2, m3⟩
  have hp := m2.2.2.2.2.1
  have hn := m2.2.2.2.2.2.1
  generalize sb b n p = q at *
  have hge := rn_ge b isLw n q
  have hle := rn_le b isLw hp
  unfold F_X11_wordHere_99
  rw [m1, cV_s]
  refine loopS (σ := Nat) (fun ff i => F_X11_wordHere_99_8 ff M1 (zi (cdF (fun i => b (q + i) - 96) (min i 6))) (zi (i : Nat))) (fun o => o = rI (zi (if rnL b n q ≤ 6 then (cdF (fun i => b (q + i) - 96) (rnL b n q) : Int) else -1)) M1) (fun r i => r = rnL b n q - i ∧ i ≤ rnL b n q) ?_ (rnL b n q) 0 FUEL ⟨rfl, Nat.zero_le _⟩ (FUEL_gt (by unfold rnL; omega))
  rintro ff r i ⟨i1, i2⟩
  show F_X11_wordHere_99_8 (ff + 1) M1 (zi (cdF (fun i => b (q + i) - 96) (min i 6))) (zi (i : Nat)) = _ ∨ _
  have hr := bAt_in (i := q + i) m2
  have hiq : q + i ≤ n := by unfold rnL at i2; omega
  rw [F_X11_wordHere_99_8, m2.2.1, zi_add, zc (show (q : Int) + i = ((q + i : Nat) : Int) by omega), byteAt_m m2 (by omega), cI_s]
  by_cases q2 : i < rnL b n q
  · right
    have hb := of_decide_eq_true (rn_in (b := b) (q := isLw) (n := n) (p := q) (i := q + i) (by omega) (by unfold rnL at q2; omega))
    have e : bAt b n (q + i) = (b (q + i) : Int) := by unfold bAt; rw [if_pos (by unfold rnL at q2; omega)]
    refine ⟨rnL b n q - (i + 1), i + 1, by omega, ⟨rfl, by omega⟩, ?_⟩
    rw [e] at hr ⊢
    rw [if_neg (by rw [show (97 : Int32) = zi 97 from rfl, zi_lt (by omega) (by omega)]; omega), m2.2.1, zi_add, zc (show (q : Int) + i = ((q + i : Nat) : Int) by omega), byteAt_m m2 (by omega), cI_s, e, if_neg (by rw [show (122 : Int32) = zi 122 from rfl, zi_lt (by omega) (by omega)]; omega)]
    unfold F_X11_wordHere_99_68
    rw [show (1 : Int32) = zi 1 from rfl, zi_add, lt_z, zc (show (i : Int) + 1 = ((i + 1 : Nat) : Int) by omega)]
    by_cases q3 : 6 ≤ i
    · rw [if_pos (by rw [show (6 : Int32) = zi 6 from rfl, zi_le (by omega) (by omega)]; omega), Nat.min_eq_right q3]
      rw [Nat.min_eq_right (show 6 ≤ i + 1 by omega)]
    · rw [if_neg (by rw [show (6 : Int32) = zi 6 from rfl, zi_le (by omega) (by omega)]; omega), m2.2.1, zi_add, zc (show (q : Int) + i = ((q + i : Nat) : Int) by omega), byteAt_m m2 (by omega), cI_s, e, Nat.min_eq_left (show i ≤ 6 by omega), show (27 : Int32) = zi 27 from rfl, show (97 : Int32) = zi 97 from rfl, zi_mul, zi_add, zi_sub, zi_add, lt_z]
      rw [Nat.min_eq_left (show i + 1 ≤ 6 by omega), cdF, zc (show (27 : Int) * (cdF (fun i => b (q + i) - 96) i : Int) + (b (q + i) : Int) - 97 + 1 = ((27 * cdF (fun i => b (q + i) - 96) i + (b (q + i) - 96) : Nat) : Int) by omega)]
  · left
    have e : rnL b n q = i := by omega
    have h75 : F_X11_wordHere_99_75 M1 (zi (cdF (fun i => b (q + i) - 96) (min i 6))) (zi (i : Nat)) = rI (zi (if rnL b n q ≤ 6 then (cdF (fun i => b (q + i) - 96) (rnL b n q) : Int) else -1)) M1 := by
      unfold F_X11_wordHere_99_75
      rw [e]
      by_cases q3 : i ≤ 6
      · rw [if_pos (by rw [show (6 : Int32) = zi 6 from rfl, zi_le (by omega) (by omega)]; omega), if_pos q3, Nat.min_eq_left q3]
      · rw [if_neg (by rw [show (6 : Int32) = zi 6 from rfl, zi_le (by omega) (by omega)]; omega), if_neg q3]
        rfl
    by_cases q1 : q + i < n
    · have eb : bAt b n (q + i) = (b (q + i) : Int) := by unfold bAt; rw [if_pos q1]
      have hrn : rn b isLw n q = q + i := by unfold rnL at e; omega
      have hb := of_decide_eq_false (rn_out (b := b) (q := isLw) (n := n) (p := q) (by omega))
      rw [hrn] at hb
      rw [eb] at hr ⊢
      by_cases q3 : b (q + i) < 97
      · rw [if_pos (by rw [show (97 : Int32) = zi 97 from rfl, zi_lt (by omega) (by omega)]; omega)]
        exact h75
      · rw [if_neg (by rw [show (97 : Int32) = zi 97 from rfl, zi_lt (by omega) (by omega)]; omega), m2.2.1, zi_add, zc (show (q : Int) + i = ((q + i : Nat) : Int) by omega), byteAt_m m2 (by omega), cI_s, eb, if_pos (by rw [show (122 : Int32) = zi 122 from rfl, zi_lt (by omega) (by omega)]; omega)]
        exact h75
    · have eb : bAt b n (q + i) = -1 := by unfold bAt; rw [if_neg q1]
      rw [eb, if_pos (by decide)]
      exact h75
theorem isWord_m {b : Nat → Nat} {M : PM} {n p k : Nat} {f g : Int} {a1 a2 a3 a4 a5 : Int32} (h : TM b M n p f g) (hk : k < 11) (h5 : ∀ M, F_X11_five M a1 a2 a3 a4 a5 = rI (zi (wCd k)) M) : ∃ v M', F_X11_isWord_99 M a1 a2 a3 a4 a5 = rI (bb v) M' ∧ KR M M' ∧ (f = 0 → (v = true ↔ WD b n k (sb b n p)) ∧ TM b M' n (sb b n p) 0 g) ∧ (f ≠ 0 → v = false ∧ M' = M) := by
  have hf := h.2.2.2.2.2.2.1
  unfold F_X11_isWord_99
  rw [h.2.2.1]
  by_cases q : f = 0
  · obtain ⟨M1, m1, m2, m3⟩ := wordHere_m h
    subst q
    rw [if_pos (by rfl), m1, cI_s, h5, cI_s]
    have hwc : wCd k < 27 ^ wLn k := cdF_lt _ (fun j hj => by have := (wB_s hk hj).2; omega)
    have hwl := (wLn_s hk).2.2
    have hwp : 27 ^ wLn k ≤ 27 ^ 5 := Nat.pow_le_pow_right (by decide) hwl
    have h275 : (27 : Nat) ^ 5 = 14348907 := rfl
    by_cases q1 : rnL b n (sb b n p) ≤ 6
    · rw [if_pos q1]
      have hc := WD_code hk q1
      have hcl : cdF (fun i => b (sb b n p + i) - 96) (rnL b n (sb b n p)) < 27 ^ rnL b n (sb b n p) := cdF_lt _ (fun j hj => by
        have hge := rn_ge b isLw n (sb b n p)
        have := of_decide_eq_true (rn_in (b := b) (q := isLw) (n := n) (p := sb b n p) (i := sb b n p + j) (by omega) (by unfold rnL at hj; omega))
        omega)
      have hp6 : 27 ^ rnL b n (sb b n p) ≤ 27 ^ 6 := Nat.pow_le_pow_right (by decide) q1
      have h276 : (27 : Nat) ^ 6 = 387420489 := rfl
      by_cases q2 : cdF (fun i => b (sb b n p + i) - 96) (rnL b n (sb b n p)) = wCd k
      · rw [if_pos (by rw [q2]), if_pos (by decide)]
        exact ⟨true, M1, rfl, m3, fun _ => ⟨⟨fun _ => hc.mp q2, fun _ => rfl⟩, m2⟩, fun u => absurd rfl u⟩
      · rw [if_neg (by rw [zi_eq (by omega) (by omega)]; omega), if_pos (by decide)]
        exact ⟨false, M1, rfl, m3, fun _ => ⟨⟨fun u => absurd u (by decide), fun u => absurd (hc.mpr u) q2⟩, m2⟩, fun u => absurd rfl u⟩
    · rw [if_neg q1, if_neg (by rw [zi_eq (by omega) (by omega)]; omega), if_pos (by decide)]
      refine ⟨false, M1, rfl, m3, fun _ => ⟨⟨fun u => absurd u (by decide), fun u => absurd u.1 ?_⟩, m2⟩, fun u => absurd rfl u⟩
      unfold rnL at q1
      omega
  · rw [if_neg (by rw [show (0 : Int32) = zi 0 from rfl, zi_eq (by omega) (by omega)]; exact q), if_pos (by decide)]
    exact ⟨false, M, rfl, KR.rf, fun u => absurd u q, fun _ => ⟨rfl, rfl⟩⟩
theorem skipWord_m {b : Nat → Nat} {M : PM} {n p : Nat} {f g : Int} (h : TM b M n p f g) : ∃ M', F_X11_skipWord_99 M = rV M' ∧ TM b M' n (rn b isLw n p) f g ∧ KR M M' := by
  have hp := h.2.2.2.2.1
  have hn := h.2.2.2.2.2.1
  have hle : rn b isLw n p ≤ n := rn_le b isLw hp
  unfold F_X11_skipWord_99
  refine loopS (σ := PM × Nat) (fun f q => F_X11_skipWord_99_0 f q.1) (fun o => ∃ M', o = rV M' ∧ TM b M' n (rn b isLw n p) f g ∧ KR M M') (fun r q => r = rn b isLw n p - q.2 ∧ p ≤ q.2 ∧ q.2 ≤ rn b isLw n p ∧ TM b q.1 n q.2 f g ∧ KR M q.1) ?_ (rn b isLw n p - p) (M, p) FUEL ⟨rfl, Nat.le_refl _, rn_ge b isLw n p, h, KR.rf⟩ (FUEL_gt (by omega))
  rintro ff r ⟨M1, i⟩ ⟨i1, i2, i3, i4, i5⟩
  simp only at i1 i2 i3 i4 i5
  show (∃ M', F_X11_skipWord_99_0 (ff + 1) M1 = rV M' ∧ _) ∨ _
  have hr := bAt_in (i := i) i4
  rw [F_X11_skipWord_99_0, i4.2.1, byteAt_m i4 (by omega), cI_s]
  by_cases q2 : i < rn b isLw n p
  · right
    have hb := of_decide_eq_true (rn_in i2 q2)
    have e : bAt b n i = (b i : Int) := by unfold bAt; rw [if_pos (by omega)]
    refine ⟨rn b isLw n p - (i + 1), (sI M1 99 4 (zi ((i + 1 : Nat))), i + 1), by omega, ⟨rfl, by show p ≤ i + 1; omega, by show i + 1 ≤ rn b isLw n p; omega, i4.at' (by omega), i5.tr (KR.i (by decide))⟩, ?_⟩
    rw [e, if_neg (by rw [show (97 : Int32) = zi 97 from rfl, zi_lt (by omega) (by omega)]; omega), i4.2.1, byteAt_m i4 (by omega), cI_s, e, if_neg (by rw [show (122 : Int32) = zi 122 from rfl, zi_lt (by omega) (by omega)]; omega), i4.2.1, show (1 : Int32) = zi 1 from rfl, zi_add, zc (show (i : Int) + 1 = ((i + 1 : Nat) : Int) by omega)]
  · left
    have e : rn b isLw n p = i := by omega
    refine ⟨M1, ?_, e ▸ i4, i5⟩
    by_cases q1 : i < n
    · have hb := of_decide_eq_false (rn_out (b := b) (q := isLw) (n := n) (p := p) (by omega))
      rw [e] at hb
      have eb : bAt b n i = (b i : Int) := by unfold bAt; rw [if_pos q1]
      rw [eb] at hr ⊢
      by_cases q3 : b i < 97
      · rw [if_pos (by rw [show (97 : Int32) = zi 97 from rfl, zi_lt (by omega) (by omega)]; omega)]
      · rw [if_neg (by rw [show (97 : Int32) = zi 97 from rfl, zi_lt (by omega) (by omega)]; omega), i4.2.1, byteAt_m i4 (by omega), cI_s, eb, if_pos (by rw [show (122 : Int32) = zi 122 from rfl, zi_lt (by omega) (by omega)]; omega)]
    · have eb : bAt b n i = -1 := by unfold bAt; rw [if_neg q1]
      rw [eb, if_pos (by decide)]
theorem takes_m {b : Nat → Nat} {M : PM} {n p k : Nat} {f g : Int} {a1 a2 a3 a4 a5 : Int32} (h : TM b M n p f g) (hk : k < 11) (h5 : ∀ M, F_X11_five M a1 a2 a3 a4 a5 = rI (zi (wCd k)) M) : ∃ v M', F_X11_takes_99 M a1 a2 a3 a4 a5 = rI (bb v) M' ∧ KR M M' ∧ (f = 0 → (v = true ↔ WD b n k (sb b n p)) ∧ (v = true → TM b M' n (sb b n p + wLn k) 0 g) ∧ (v = false → TM b M' n (sb b n p) 0 g)) ∧ (f ≠ 0 → v = false ∧ M' = M) := by
  obtain ⟨v, M1, m1, m2, m3, m4⟩ := isWord_m h hk h5
  unfold F_X11_takes_99
  rw [m1, cI_s]
  cases v with
  | false =>
    rw [if_pos (by decide), if_pos (by decide)]
    exact ⟨false, M1, rfl, m2, fun u => ⟨(m3 u).1, fun w => absurd w (by decide), fun _ => (m3 u).2⟩, fun u => ⟨rfl, (m4 u).2⟩⟩
  | true =>
    by_cases q : f = 0
    · obtain ⟨w1, w2⟩ := m3 q
      obtain ⟨M2, s1, s2, s3⟩ := skipWord_m w2
      rw [(w1.mp rfl).1] at s2
      rw [if_neg (by decide), s1, cV_s, if_pos (by decide)]
      exact ⟨true, M2, rfl, m2.tr s3, fun u => ⟨w1, fun _ => s2, fun w => absurd w (by decide)⟩, fun u => absurd q u⟩
    · exact absurd (m4 q).1 (by decide)
