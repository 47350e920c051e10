/-! soonest: sets of works, ends and begins -/
def eF (E : Nat → Nat → Int) (A : Nat → Int) (s : Nat) : Nat → Int
  | 0 => -1
  | w + 1 => if s.testBit w = true ∧ A (s - 2 ^ w) ≠ -1 ∧ E w (A (s - 2 ^ w)).toNat ≠ -1 ∧ (eF E A s w = -1 ∨ E w (A (s - 2 ^ w)).toNat + 1 < eF E A s w) then E w (A (s - 2 ^ w)).toNat + 1 else eF E A s w
def ET (E : Nat → Nat → Int) (n a k : Nat) (A : Nat → Int) : Prop := A 0 = (a : Int) ∧ ∀ s, 0 < s → s < k → A s = eF E A s n
def lF (B : Nat → Nat → Int) (A : Nat → Int) (s : Nat) : Nat → Int
  | 0 => -1
  | w + 1 => if s.testBit w = true ∧ A (s - 2 ^ w) ≠ -1 then max (lF B A s w) (B w (A (s - 2 ^ w)).toNat) else lF B A s w
def LT' (B : Nat → Nat → Int) (n e k : Nat) (A : Nat → Int) : Prop := A 0 = (e : Int) ∧ ∀ s, 0 < s → s < k → A s = lF B A s n
theorem bit_facts : ∀ s : Fin 256, ∀ w : Fin 8, s.val.testBit w.val = true → (2 ^ w.val ≤ s.val ∧ (s.val - 2 ^ w.val).testBit w.val = false ∧ fb_ct (fun i => (s.val - 2 ^ w.val).testBit i) 8 + 1 = fb_ct (fun i => s.val.testBit i) 8) := by decide +kernel
theorem bitf {s w : Nat} (hs : s < 256) (hw : w < 8) (h : s.testBit w = true) : 2 ^ w ≤ s ∧ (s - 2 ^ w).testBit w = false ∧ fb_ct (fun i => (s - 2 ^ w).testBit i) 8 + 1 = fb_ct (fun i => s.testBit i) 8 := bit_facts ⟨s, hs⟩ ⟨w, hw⟩ h
theorem pow_pos2 (w : Nat) : 0 < 2 ^ w := Nat.two_pow_pos w
theorem bit_lt {s w : Nat} (h : s.testBit w = true) : s - 2 ^ w < s := by
  have h1 := Nat.two_pow_pos w
  have h2 : 0 < s := by
    rcases Nat.eq_zero_or_pos s with e | e
    · rw [e, Nat.zero_testBit] at h; exact absurd h (by decide)
    · exact e
  omega
theorem eF_cong {E : Nat → Nat → Int} {A A' : Nat → Int} {s : Nat} (h : ∀ t, t < s → A t = A' t) : ∀ w, eF E A s w = eF E A' s w
  | 0 => rfl
  | w + 1 => by
    rw [eF, eF, eF_cong h w]
    cases hb : s.testBit w
    · rw [if_neg (fun u => absurd u.1 (by decide)), if_neg (fun u => absurd u.1 (by decide))]
    · rw [h _ (bit_lt hb)]
theorem lF_cong {B : Nat → Nat → Int} {A A' : Nat → Int} {s : Nat} (h : ∀ t, t < s → A t = A' t) : ∀ w, lF B A s w = lF B A' s w
  | 0 => rfl
  | w + 1 => by
    rw [lF, lF, lF_cong h w]
    cases hb : s.testBit w
    · rw [if_neg (fun u => absurd u.1 (by decide)), if_neg (fun u => absurd u.1 (by decide))]
    · rw [h _ (bit_lt hb)]
theorem ET_one {E : Nat → Nat → Int} {n a k : Nat} {A A' : Nat → Int} (h : ET E n a k A) (h' : ET E n a k A') : ∀ m s, s < m → s < k → A s = A' s
  | 0, s, hs, _ => absurd hs (Nat.not_lt_zero s)
  | m + 1, s, hs, hk => by
    rcases Nat.eq_zero_or_pos s with e | e
    · rw [e, h.1, h'.1]
    · rw [h.2 s e hk, h'.2 s e hk]
      exact eF_cong (fun t ht => ET_one h h' m t (by omega) (by omega)) n
theorem LT_one {B : Nat → Nat → Int} {n a k : Nat} {A A' : Nat → Int} (h : LT' B n a k A) (h' : LT' B n a k A') : ∀ m s, s < m → s < k → A s = A' s
  | 0, s, hs, _ => absurd hs (Nat.not_lt_zero s)
  | m + 1, s, hs, hk => by
    rcases Nat.eq_zero_or_pos s with e | e
    · rw [e, h.1, h'.1]
    · rw [h.2 s e hk, h'.2 s e hk]
      exact lF_cong (fun t ht => LT_one h h' m t (by omega) (by omega)) n
/-- what is known of ends and begins -/
def EB (E B : Nat → Nat → Int) (n : Nat) : Prop := (∀ w x, w < n → x ≤ 1000000000 → E w x = -1 ∨ ((x : Int) ≤ E w x ∧ E w x ≤ 999999999)) ∧ (∀ w x, w < n → x ≤ 1000000000 → B w x = -1 ∨ (0 ≤ B w x ∧ B w x < x)) ∧ (∀ w (x b : Nat), w < n → x ≤ 1000000000 → b ≤ 1000000000 → E w x ≠ -1 → E w x + 1 ≤ b → (x : Int) ≤ B w b) ∧ (∀ w (x b : Nat), w < n → x ≤ 1000000000 → b ≤ 1000000000 → B w b ≠ -1 → (x : Int) ≤ B w b → E w x ≠ -1 ∧ E w x + 1 ≤ b)
theorem EB.e {E B : Nat → Nat → Int} {n : Nat} (h : EB E B n) : ∀ w x, w < n → x ≤ 1000000000 → E w x = -1 ∨ ((x : Int) ≤ E w x ∧ E w x ≤ 999999999) := h.1
theorem EB.b {E B : Nat → Nat → Int} {n : Nat} (h : EB E B n) : ∀ w x, w < n → x ≤ 1000000000 → B w x = -1 ∨ (0 ≤ B w x ∧ B w x < x) := h.2.1
theorem EB.d1 {E B : Nat → Nat → Int} {n : Nat} (h : EB E B n) : ∀ w (x b : Nat), w < n → x ≤ 1000000000 → b ≤ 1000000000 → E w x ≠ -1 → E w x + 1 ≤ b → (x : Int) ≤ B w b := h.2.2.1
theorem EB.d2 {E B : Nat → Nat → Int} {n : Nat} (h : EB E B n) : ∀ w (x b : Nat), w < n → x ≤ 1000000000 → b ≤ 1000000000 → B w b ≠ -1 → (x : Int) ≤ B w b → E w x ≠ -1 ∧ E w x + 1 ≤ b := h.2.2.2
theorem eF_rng {E B : Nat → Nat → Int} {n : Nat} (h : EB E B n) {A : Nat → Int} {s : Nat} (hA : ∀ t, t < s → -1 ≤ A t ∧ A t ≤ 1000000000) : ∀ w, w ≤ n → -1 ≤ eF E A s w ∧ eF E A s w ≤ 1000000000
  | 0, _ => by rw [eF]; omega
  | w + 1, hw => by
    rw [eF]
    split
    · rename_i u
      have := hA _ (bit_lt u.1)
      have := h.e w (A (s - 2 ^ w)).toNat (by omega) (by omega)
      omega
    · exact eF_rng h hA w (by omega)
theorem ET_rng {E B : Nat → Nat → Int} {n a k : Nat} (h : EB E B n) {A : Nat → Int} (ha : a ≤ 1000000000) (hA : ET E n a k A) : ∀ m s, s < m → s < k → -1 ≤ A s ∧ A s ≤ 1000000000
  | 0, s, hs, _ => absurd hs (Nat.not_lt_zero s)
  | m + 1, s, hs, hk => by
    rcases Nat.eq_zero_or_pos s with e | e
    · rw [e, hA.1]; omega
    · rw [hA.2 s e hk]
      exact eF_rng h (fun t ht => ET_rng h ha hA m t (by omega) (by omega)) n (Nat.le_refl _)
theorem lF_rng {E B : Nat → Nat → Int} {n : Nat} (h : EB E B n) {A : Nat → Int} {s : Nat} (hA : ∀ t, t < s → -1 ≤ A t ∧ A t ≤ 1000000000) : ∀ w, w ≤ n → -1 ≤ lF B A s w ∧ lF B A s w ≤ 1000000000
  | 0, _ => by rw [lF]; omega
  | w + 1, hw => by
    have ih := lF_rng h hA w (by omega)
    rw [lF]
    split
    · rename_i u
      have := hA _ (bit_lt u.1)
      have := h.b w (A (s - 2 ^ w)).toNat (by omega) (by omega)
      omega
    · exact ih
theorem LT_rng {E B : Nat → Nat → Int} {n a k : Nat} (h : EB E B n) {A : Nat → Int} (ha : a ≤ 1000000000) (hA : LT' B n a k A) : ∀ m s, s < m → s < k → -1 ≤ A s ∧ A s ≤ 1000000000
  | 0, s, hs, _ => absurd hs (Nat.not_lt_zero s)
  | m + 1, s, hs, hk => by
    rcases Nat.eq_zero_or_pos s with e | e
    · rw [e, hA.1]; omega
    · rw [hA.2 s e hk]
      exact lF_rng h (fun t ht => LT_rng h ha hA m t (by omega) (by omega)) n (Nat.le_refl _)
theorem eF_at {E : Nat → Nat → Int} {A : Nat → Int} {s : Nat} : ∀ k, eF E A s k ≠ -1 → ∃ w, w < k ∧ s.testBit w = true ∧ A (s - 2 ^ w) ≠ -1 ∧ E w (A (s - 2 ^ w)).toNat ≠ -1 ∧ eF E A s k = E w (A (s - 2 ^ w)).toNat + 1
  | 0, h => absurd rfl h
  | k + 1, h => by
    rw [eF] at h ⊢
    split
    · rename_i u
      exact ⟨k, by omega, u.1, u.2.1, u.2.2.1, rfl⟩
    · rename_i u
      rw [if_neg u] at h
      obtain ⟨w, w1, w2⟩ := eF_at k h
      exact ⟨w, by omega, w2⟩
theorem lF_at {B : Nat → Nat → Int} {A : Nat → Int} {s : Nat} : ∀ k, lF B A s k ≠ -1 → ∃ w, w < k ∧ s.testBit w = true ∧ A (s - 2 ^ w) ≠ -1 ∧ lF B A s k = B w (A (s - 2 ^ w)).toNat
  | 0, h => absurd rfl h
  | k + 1, h => by
    rw [lF] at h ⊢
    split
    · rename_i u
      rw [if_pos u] at h
      by_cases q : lF B A s k ≤ B k (A (s - 2 ^ k)).toNat
      · exact ⟨k, by omega, u.1, u.2, Int.max_eq_right q⟩
      · rw [Int.max_eq_left (by omega)] at h ⊢
        obtain ⟨w, w1, w2⟩ := lF_at k h
        exact ⟨w, by omega, w2⟩
    · rename_i u
      rw [if_neg u] at h
      obtain ⟨w, w1, w2⟩ := lF_at k h
      exact ⟨w, by omega, w2⟩
theorem lF_ge {B : Nat → Nat → Int} {A : Nat → Int} {s w : Nat} (h1 : s.testBit w = true) (h2 : A (s - 2 ^ w) ≠ -1) : ∀ k, w < k → B w (A (s - 2 ^ w)).toNat ≤ lF B A s k
  | 0, h => absurd h (Nat.not_lt_zero w)
  | k + 1, h => by
    rw [lF]
    by_cases e : w = k
    · subst e
      rw [if_pos ⟨h1, h2⟩]
      omega
    · have := lF_ge (B := B) h1 h2 k (by omega)
      split <;> omega
theorem cpl_bit {n s w : Nat} (hs : s < 2 ^ n) (hw : w < n) (h : s.testBit w = false) : (2 ^ n - 1 - s).testBit w = true := by
  rw [show 2 ^ n - 1 - s = 2 ^ n - (s + 1) by omega, Nat.testBit_two_pow_sub_succ hs, decide_eq_true hw, h]
  rfl
theorem soon_start {E B : Nat → Nat → Int} {n a e : Nat} (hn : n ≤ 8) (h : EB E B n) {A L : Nat → Int} (ha : a ≤ 1000000000) (he : e ≤ 1000000000) (hA : ET E n a (2 ^ n) A) (hL : LT' B n e (2 ^ n) L) : ∀ m s, s < m → s < 2 ^ n → A s ≠ -1 → A s ≤ L (2 ^ n - 1 - s) → (a : Int) ≤ L (2 ^ n - 1)
  | 0, s, hs, _, _, _ => absurd hs (Nat.not_lt_zero s)
  | m + 1, s, hs, hk, h1, h2 => by
    have hp : 2 ^ n ≤ 2 ^ 8 := Nat.pow_le_pow_right (by decide) hn
    rcases Nat.eq_zero_or_pos s with q | q
    · rw [q, hA.1] at h2
      rw [Nat.sub_zero] at h2
      exact h2
    · have h3 := h1
      rw [hA.2 s q hk] at h3
      obtain ⟨w, w1, w2, w3, w4, w5⟩ := eF_at n h3
      obtain ⟨b1, b2, b3⟩ := bitf (by omega) (by omega) w2
      have w6 := Nat.two_pow_pos w
      have r1 := ET_rng h ha hA _ (s - 2 ^ w) (Nat.lt_succ_self _) (by omega)
      have r2 := LT_rng h he hL _ (2 ^ n - 1 - s) (Nat.lt_succ_self _) (by omega)
      have r3 := ET_rng h ha hA _ s (Nat.lt_succ_self _) hk
      have tb := cpl_bit (s := s - 2 ^ w) (by omega) w1 b2
      have et : 2 ^ n - 1 - (s - 2 ^ w) - 2 ^ w = 2 ^ n - 1 - s := by omega
      have d := h.d1 w (A (s - 2 ^ w)).toNat (L (2 ^ n - 1 - s)).toNat w1 (by omega) (by omega) w4 (by rw [← w5, ← hA.2 s q hk]; omega)
      have g := lF_ge (B := B) (A := L) (s := 2 ^ n - 1 - (s - 2 ^ w)) (w := w) tb (by rw [et]; omega) n w1
      rw [et] at g
      rw [← hL.2 (2 ^ n - 1 - (s - 2 ^ w)) (by omega) (by omega)] at g
      exact soon_start hn h ha he hA hL m (s - 2 ^ w) (by omega) (by omega) w3 (by omega)
theorem soon_pick {E B : Nat → Nat → Int} {n e : Nat} (h : EB E B n) {L : Nat → Int} (he : e ≤ 1000000000) (hL : LT' B n e (2 ^ n) L) {s x : Nat} (hs : 0 < s) (hs2 : s < 2 ^ n) (hx : (x : Int) ≤ L s) : ∃ w, w < n ∧ s.testBit w = true ∧ E w x ≠ -1 ∧ E w x + 1 ≤ L (s - 2 ^ w) := by
  have e1 := hL.2 s hs hs2
  obtain ⟨w, w1, w2, w3, w4⟩ := lF_at n (show lF B L s n ≠ -1 by omega)
  have r0 := LT_rng h he hL _ s (Nat.lt_succ_self _) hs2
  have r1 := LT_rng h he hL _ (s - 2 ^ w) (Nat.lt_succ_self _) (Nat.lt_of_le_of_lt (Nat.sub_le _ _) hs2)
  have d := h.d2 w x (L (s - 2 ^ w)).toNat w1 (by omega) (by omega) (by omega) (by omega)
  exact ⟨w, w1, w2, d.1, by omega⟩
/-- the order: what is left, the day, the digits -/
def opk (E : Nat → Nat → Int) (L : Nat → Int) (s x : Nat) (w : Nat) : Bool := decide (s.testBit w = true ∧ E w x ≠ -1 ∧ E w x + 1 ≤ L (s - 2 ^ w))
def ordr (E : Nat → Nat → Int) (L : Nat → Int) (n a : Nat) : Nat → Nat × Nat × Nat
  | 0 => (2 ^ n - 1, a, 0)
  | k + 1 => let s := ordr E L n a k; let w := fa_first (opk E L s.1 s.2.1) n; (s.1 - 2 ^ w, (E w s.2.1 + 1).toNat, 10 * s.2.2 + w)
theorem full_ct : ∀ n : Fin 9, fb_ct (fun i => (2 ^ n.val - 1).testBit i) 8 = n.val := by decide +kernel
theorem ordr_inv {E B : Nat → Nat → Int} {n a e : Nat} (hn : n ≤ 8) (h : EB E B n) {L : Nat → Int} (ha : a ≤ 1000000000) (he : e ≤ 1000000000) (hL : LT' B n e (2 ^ n) L) (h0 : (a : Int) ≤ L (2 ^ n - 1)) : ∀ k, k ≤ n → (ordr E L n a k).1 < 2 ^ n ∧ fb_ct (fun i => (ordr E L n a k).1.testBit i) 8 + k = n ∧ ((ordr E L n a k).2.1 : Int) ≤ L (ordr E L n a k).1 ∧ a ≤ (ordr E L n a k).2.1 ∧ (ordr E L n a k).2.1 ≤ 1000000000 ∧ (ordr E L n a k).2.2 < 10 ^ k
  | 0, _ => by
    have := Nat.two_pow_pos n
    exact ⟨by show 2 ^ n - 1 < 2 ^ n; omega, full_ct ⟨n, by omega⟩, h0, Nat.le_refl _, ha, by show 0 < 10 ^ 0; decide⟩
  | k + 1, hk => by
    have hp : 2 ^ n ≤ 2 ^ 8 := Nat.pow_le_pow_right (by decide) hn
    obtain ⟨i1, i2, i3, i4, i5, i6⟩ := ordr_inv hn h ha he hL h0 k (by omega)
    show ((ordr E L n a k).1 - 2 ^ (fa_first (opk E L (ordr E L n a k).1 (ordr E L n a k).2.1) n)) < 2 ^ n ∧ fb_ct (fun i => ((ordr E L n a k).1 - 2 ^ (fa_first (opk E L (ordr E L n a k).1 (ordr E L n a k).2.1) n)).testBit i) 8 + (k + 1) = n ∧ ((E (fa_first (opk E L (ordr E L n a k).1 (ordr E L n a k).2.1) n) (ordr E L n a k).2.1 + 1).toNat : Int) ≤ L ((ordr E L n a k).1 - 2 ^ (fa_first (opk E L (ordr E L n a k).1 (ordr E L n a k).2.1) n)) ∧ a ≤ (E (fa_first (opk E L (ordr E L n a k).1 (ordr E L n a k).2.1) n) (ordr E L n a k).2.1 + 1).toNat ∧ (E (fa_first (opk E L (ordr E L n a k).1 (ordr E L n a k).2.1) n) (ordr E L n a k).2.1 + 1).toNat ≤ 1000000000 ∧ 10 * (ordr E L n a k).2.2 + fa_first (opk E L (ordr E L n a k).1 (ordr E L n a k).2.1) n < 10 ^ (k + 1)
    generalize (ordr E L n a k).1 = s at *
    generalize (ordr E L n a k).2.1 = x at *
    generalize (ordr E L n a k).2.2 = d at *
    have hs0 : 0 < s := by
      rcases Nat.eq_zero_or_pos s with q | q
      · rw [q, fb_ct_zero.mpr (fun i _ => Nat.zero_testBit i)] at i2
        omega
      · exact q
    obtain ⟨w, w1, w2, w3, w4⟩ := soon_pick h he hL hs0 i1 i3
    have hlt : fa_first (opk E L s x) n < n := by
      rcases Nat.lt_or_ge (fa_first (opk E L s x) n) n with q | q
      · exact q
      · have := fa_first_no (opk E L s x) n w (by omega)
        unfold opk at this
        rw [decide_eq_true ⟨w2, w3, w4⟩] at this
        exact absurd this (by decide)
    have hy := of_decide_eq_true (fa_first_yes (opk E L s x) n hlt)
    generalize fa_first (opk E L s x) n = v at *
    obtain ⟨b1, b2, b3⟩ := bitf (by omega) (by omega) hy.1
    have w6 := Nat.two_pow_pos v
    have re := h.e v x hlt i5
    have hp10 : 10 ^ (k + 1) = 10 ^ k * 10 := Nat.pow_succ 10 k
    refine ⟨by omega, by omega, by omega, by omega, by omega, by omega⟩
/-- the class's table of latest begins leaves out those ahead of the first day -/
def clipB (B : Nat → Nat → Int) (a : Nat) (w b : Nat) : Int := if (a : Int) ≤ B w b then B w b else -1
theorem lF_T {B : Nat → Nat → Int} {A : Nat → Int} {s w : Nat} (h : s.testBit w = true) (h2 : A (s - 2 ^ w) ≠ -1) : lF B A s (w + 1) = max (lF B A s w) (B w (A (s - 2 ^ w)).toNat) := by rw [lF, if_pos ⟨h, h2⟩]
theorem lF_N {B : Nat → Nat → Int} {A : Nat → Int} {s w : Nat} (h : ¬ (s.testBit w = true ∧ A (s - 2 ^ w) ≠ -1)) : lF B A s (w + 1) = lF B A s w := by rw [lF, if_neg h]
theorem lF_clip {E B : Nat → Nat → Int} {n a : Nat} (h : EB E B n) {A L : Nat → Int} {s : Nat} (hL : ∀ t, t < s → -1 ≤ L t ∧ L t ≤ 1000000000) (hA : ∀ t, t < s → A t = if (a : Int) ≤ L t then L t else -1) : ∀ k, k ≤ n → lF (clipB B a) A s k = if (a : Int) ≤ lF B L s k then lF B L s k else -1
  | 0, _ => by
    rw [lF, lF, if_neg (by omega)]
  | k + 1, hk => by
    have ih := lF_clip h hL hA k (by omega)
    have ihr := (lF_rng h hL k (by omega)).1
    cases hb : s.testBit k
    · rw [lF_N (B := clipB B a) (fun u => by rw [hb] at u; exact absurd u.1 (by decide)), lF_N (B := B) (A := L) (fun u => by rw [hb] at u; exact absurd u.1 (by decide)), ih]
    · have hlt := bit_lt hb
      have g := hL _ hlt
      have eA := hA _ hlt
      have bb := h.b k (L (s - 2 ^ k)).toNat (by omega) (by omega)
      by_cases q : (a : Int) ≤ L (s - 2 ^ k)
      · rw [if_pos q] at eA
        rw [lF_T (B := clipB B a) hb (by omega), lF_T (B := B) (A := L) hb (by omega), ih, eA]
        unfold clipB
        generalize lF B L s k = x at *
        generalize B k (L (s - 2 ^ k)).toNat = y at *
        by_cases h1 : (a : Int) ≤ x
        · rw [if_pos h1]
          by_cases h2 : (a : Int) ≤ y
          · rw [if_pos h2, if_pos (by omega)]
          · rw [if_neg h2, if_pos (by omega)]
            omega
        · rw [if_neg h1]
          by_cases h2 : (a : Int) ≤ y
          · rw [if_pos h2, if_pos (by omega)]
            omega
          · rw [if_neg h2, if_neg (by omega)]
            rfl
      · rw [if_neg q] at eA
        rw [lF_N (B := clipB B a) (fun u => u.2 eA), ih]
        by_cases q2 : L (s - 2 ^ k) = -1
        · rw [lF_N (B := B) (A := L) (fun u => u.2 q2)]
        · rw [lF_T (B := B) (A := L) hb q2]
          generalize lF B L s k = x at *
          generalize B k (L (s - 2 ^ k)).toNat = y at *
          by_cases h1 : (a : Int) ≤ x
          · rw [if_pos h1, if_pos (by omega)]
            omega
          · rw [if_neg h1, if_neg (by omega)]
theorem LT_clip {E B : Nat → Nat → Int} {n a e : Nat} (h : EB E B n) {A L : Nat → Int} (he : e ≤ 1000000000) (hae : a ≤ e) (hL : LT' B n e (2 ^ n) L) (hA : LT' (clipB B a) n e (2 ^ n) A) : ∀ m s, s < m → s < 2 ^ n → A s = if (a : Int) ≤ L s then L s else -1
  | 0, s, hs, _ => absurd hs (Nat.not_lt_zero s)
  | m + 1, s, hs, hk => by
    rcases Nat.eq_zero_or_pos s with q | q
    · rw [q, hA.1, hL.1, if_pos (by omega)]
    · rw [hA.2 s q hk, hL.2 s q hk]
      exact lF_clip h (fun t ht => LT_rng h he hL _ t (Nat.lt_succ_self _) (by omega)) (fun t ht => LT_clip h he hae hL hA m t (by omega) (by omega)) n (Nat.le_refl _)
/-! the works' ends and begins -/
noncomputable def Ef (C : Cal) (S : Sta) (w x : Nat) : Int := @dite Int (∃ e, EN (fd C (kL S w) 0) (kD S w) x e) (Classical.propDecidable _) (fun h => ((Classical.choose h : Nat) : Int)) (fun _ => -1)
noncomputable def Bf (C : Cal) (S : Sta) (w b : Nat) : Int := @dite Int (∃ k, BN (fd C (kL S w) 0) (kD S w) b k) (Classical.propDecidable _) (fun h => ((Classical.choose h : Nat) : Int)) (fun _ => -1)
theorem Ef_s {C : Cal} {S : Sta} {w x : Nat} {r : Int} (hn : 1 ≤ kD S w) (h : NthF C (kL S w) 0 x (kD S w) r) : r = Ef C S w x := by
  unfold Ef
  rcases NthF_EN h with ⟨e, e1, e2⟩ | ⟨e1, e2⟩
  · have hx : ∃ e, EN (fd C (kL S w) 0) (kD S w) x e := ⟨e, e1⟩
    rw [dif_pos hx, e2, EN_one e1 (Classical.choose_spec hx)]
  · rw [dif_neg (fun ⟨e, h⟩ => e2 hn e h), e1]
theorem Bf_s {C : Cal} {S : Sta} {w b a : Nat} {r : Int} (h : NbR (fd C (kL S w) 0) (kD S w) b a r) : r = clipB (Bf C S) a w b := by
  unfold clipB Bf
  rcases h with ⟨k, k1, k2, k3⟩ | ⟨k1, k2⟩
  · have hx : ∃ k, BN (fd C (kL S w) 0) (kD S w) b k := ⟨k, k1⟩
    rw [dif_pos hx, k3, BN_one k1 (Classical.choose_spec hx), if_pos (by rw [← BN_one k1 (Classical.choose_spec hx)]; omega)]
  · by_cases hx : ∃ k, BN (fd C (kL S w) 0) (kD S w) b k
    · rw [dif_pos hx, if_neg (by have := k2 _ (Classical.choose_spec hx); omega), k1]
    · rw [dif_neg hx, if_neg (by omega), k1]
theorem Bf_0 {C : Cal} {S : Sta} {w b : Nat} {r : Int} (h : NbR (fd C (kL S w) 0) (kD S w) b 0 r) : r = Bf C S w b := by
  rw [Bf_s h]
  unfold clipB
  split
  · rfl
  · rename_i u
    unfold Bf at u ⊢
    split at u
    · omega
    · rename_i v
      rw [dif_neg v]
theorem EB_s {C : Cal} {S : Sta} (hw : WFS C S) : EB (Ef C S) (Bf C S) (kN S) := by
  refine ⟨fun w x hw1 hx => ?_, fun w x hw1 hx => ?_, fun w x b hw1 hx hb h1 h2 => ?_, fun w x b hw1 hx hb h1 h2 => ?_⟩
  · have w1 := (hw.2.2.2.2.2 w hw1).1
    unfold Ef
    split
    · rename_i u
      have := Classical.choose_spec u
      have g := EN_ge w1.1 this
      have := this.1
      omega
    · exact Or.inl rfl
  · have w1 := (hw.2.2.2.2.2 w hw1).1
    unfold Bf
    split
    · rename_i u
      have g := BN_lt w1.1 (Classical.choose_spec u)
      omega
    · exact Or.inl rfl
  · have w1 := (hw.2.2.2.2.2 w hw1).1
    unfold Ef at h1 h2
    split at h1
    · rename_i u
      rw [dif_pos u] at h2
      have e1 := Classical.choose_spec u
      generalize Classical.choose u = e at *
      have hmn := fb_ct_mono (fd C (kL S w) 0) (show e + 1 ≤ b by omega)
      rw [ctT e1.2.1] at hmn
      have e3 := e1.2.2
      obtain ⟨k, k1, k2, k3, k4⟩ := ct_ex (p := fd C (kL S w) 0) (a := x) (b := b) (t := fb_ct (fd C (kL S w) 0) b - kD S w) (by omega) (by omega)
      have hB : BN (fd C (kL S w) 0) (kD S w) b k := ⟨k3, by omega⟩
      have hx : ∃ k, BN (fd C (kL S w) 0) (kD S w) b k := ⟨k, hB⟩
      unfold Bf
      rw [dif_pos hx, ← BN_one hB (Classical.choose_spec hx)]
      omega
    · exact absurd rfl h1
  · have w1 := (hw.2.2.2.2.2 w hw1).1
    unfold Bf at h1 h2
    split at h1
    · rename_i u
      rw [dif_pos u] at h2
      have e1 := Classical.choose_spec u
      generalize Classical.choose u = k at *
      have hmn := fb_ct_mono (fd C (kL S w) 0) (show x ≤ k by omega)
      have e3 := e1.2
      obtain ⟨e, k1, k2, k3, k4⟩ := ct_ex (p := fd C (kL S w) 0) (a := x) (b := b) (t := fb_ct (fd C (kL S w) 0) x + kD S w - 1) (by omega) (by omega)
      have hE : EN (fd C (kL S w) 0) (kD S w) x e := ⟨by omega, k3, by omega⟩
      have hx : ∃ e, EN (fd C (kL S w) 0) (kD S w) x e := ⟨e, hE⟩
      unfold Ef
      rw [dif_pos hx, ← EN_one hE (Classical.choose_spec hx)]
      omega
    · exact absurd rfl h1
