/-! texts: runs of bytes; the class's readers -/
def rn (b : Nat → Nat) (q : Nat → Bool) (n p : Nat) : Nat := p + fa_first (fun i => !q (b (p + i))) (n - p)
theorem rn_ge (b : Nat → Nat) (q : Nat → Bool) (n p : Nat) : p ≤ rn b q n p := Nat.le_add_right _ _
theorem rn_le (b : Nat → Nat) (q : Nat → Bool) {n p : Nat} (h : p ≤ n) : rn b q n p ≤ n := by
  have := fa_first_le (fun i => !q (b (p + i))) (n - p)
  unfold rn
  omega
theorem rn_in {b : Nat → Nat} {q : Nat → Bool} {n p i : Nat} (h1 : p ≤ i) (h2 : i < rn b q n p) : q (b i) = true := by
  unfold rn at h2
  have := fa_first_no (fun i => !q (b (p + i))) (n - p) (i - p) (by omega)
  simp only [Bool.not_eq_false'] at this
  rw [show p + (i - p) = i by omega] at this
  exact this
theorem rn_out {b : Nat → Nat} {q : Nat → Bool} {n p : Nat} (h : rn b q n p < n) : q (b (rn b q n p)) = false := by
  unfold rn at h ⊢
  have := fa_first_yes (fun i => !q (b (p + i))) (n - p) (by omega)
  simp only [Bool.not_eq_true'] at this
  exact this
theorem rn_self {b : Nat → Nat} {q : Nat → Bool} {n p : Nat} (h : p ≤ n) (hq : p < n → q (b p) = false) : rn b q n p = p := by
  rcases Nat.eq_or_lt_of_le (rn_ge b q n p) with e | e
  · exact e.symm
  · have := rn_in (Nat.le_refl p) e
    rw [hq (by have := rn_le b q h; omega)] at this
    exact absurd this (by decide)
def isBl (c : Nat) : Bool := decide (c = 32)
def isLw (c : Nat) : Bool := decide (97 ≤ c ∧ c ≤ 122)
def isDg (c : Nat) : Bool := decide (48 ≤ c ∧ c ≤ 57)
def sb (b : Nat → Nat) (n p : Nat) : Nat := rn b isBl n p
theorem sb_sb {b : Nat → Nat} {n p : Nat} (h : p ≤ n) : sb b n (sb b n p) = sb b n p := rn_self (rn_le _ _ h) rn_out
/-- the text: n bytes; p: where it is read; s: what was taken last; f, g: the fault and its place -/
def TC (b : Nat → Nat) (M : PM) (n p s : Nat) (f g : Int) : Prop := mI M 1 2 = zi n ∧ mI M 1 3 = zi p ∧ mI M 1 4 = zi s ∧ mI M 1 5 = zi f ∧ mI M 1 6 = zi g ∧ p ≤ n ∧ n ≤ 500 ∧ s ≤ 500 ∧ (0 ≤ f ∧ f ≤ 4) ∧ ∀ i, i < n → mA M 2 i = zi (b i) ∧ b i < 256
def KT (M M' : PM) : Prop := (∀ q k, ¬ (q = 1 ∧ 3 ≤ k ∧ k ≤ 6) → M'.1 q k = M.1 q k) ∧ M'.2 = M.2
theorem KT.rf {M : PM} : KT M M := ⟨fun _ _ _ => rfl, rfl⟩
theorem KT.tr {M M1 M2 : PM} (h : KT M M1) (g : KT M1 M2) : KT M M2 := ⟨fun q k hq => (g.1 q k hq).trans (h.1 q k hq), g.2.trans h.2⟩
theorem KT.i {M : PM} {k : Nat} {x : Int32} (hk : 3 ≤ k ∧ k ≤ 6) : KT M (sI M 1 k x) := ⟨fun q j hq => u2_ne (fun e => hq ⟨e.1, by omega, by omega⟩), rfl⟩
theorem KT.sam {M M' : PM} (h : KT M M') : Sam0 M M' := by
  refine ⟨fun p hp => h.1 p.1 p.2 (fun e => ?_), fun q _ => by rw [h.2], fun q _ => by rw [h.2], fun q _ i => by rw [h.2]⟩
  obtain ⟨p1, p2⟩ := p
  simp only at e
  obtain ⟨rfl, e2, e3⟩ := e
  have : p2 = 3 ∨ p2 = 4 ∨ p2 = 5 ∨ p2 = 6 := by omega
  rcases this with rfl | rfl | rfl | rfl <;> exact absurd hp (by decide)
theorem TC.at' {b : Nat → Nat} {M : PM} {n p s p' : Nat} {f g : Int} (h : TC b M n p s f g) (hp : p' ≤ n) : TC b (sI M 1 3 (zi p')) n p' s f g := ⟨(rI_nk (by decide)).trans h.1, rI_at, (rI_nk (by decide)).trans h.2.2.1, (rI_nk (by decide)).trans h.2.2.2.1, (rI_nk (by decide)).trans h.2.2.2.2.1, hp, h.2.2.2.2.2.2⟩
theorem TC.st' {b : Nat → Nat} {M : PM} {n p s s' : Nat} {f g : Int} (h : TC b M n p s f g) (hs : s' ≤ 500) : TC b (sI M 1 4 (zi s')) n p s' f g := ⟨(rI_nk (by decide)).trans h.1, (rI_nk (by decide)).trans h.2.1, rI_at, (rI_nk (by decide)).trans h.2.2.2.1, (rI_nk (by decide)).trans h.2.2.2.2.1, h.2.2.2.2.2.1, h.2.2.2.2.2.2.1, hs, h.2.2.2.2.2.2.2.2⟩
theorem TC.fl' {b : Nat → Nat} {M : PM} {n p s : Nat} {f g x y : Int} (h : TC b M n p s f g) (hx : 0 ≤ x ∧ x ≤ 4) : TC b (sI (sI M 1 5 (zi x)) 1 6 (zi y)) n p s x y := ⟨(rI_nk (by decide)).trans ((rI_nk (by decide)).trans h.1), (rI_nk (by decide)).trans ((rI_nk (by decide)).trans h.2.1), (rI_nk (by decide)).trans ((rI_nk (by decide)).trans h.2.2.1), (rI_nk (by decide)).trans rI_at, rI_at, h.2.2.2.2.2.1, h.2.2.2.2.2.2.1, h.2.2.2.2.2.2.2.1, hx, h.2.2.2.2.2.2.2.2.2⟩
theorem TC.kp {b : Nat → Nat} {M M' : PM} {n p s : Nat} {f g : Int} (h : TC b M n p s f g) (hi : ∀ k, 2 ≤ k → k ≤ 6 → M'.1 1 k = M.1 1 k) (ha : M'.2.2.1 2 = M.2.2.1 2) : TC b M' n p s f g := ⟨(hi 2 (by decide) (by decide)).trans h.1, (hi 3 (by decide) (by decide)).trans h.2.1, (hi 4 (by decide) (by decide)).trans h.2.2.1, (hi 5 (by decide) (by decide)).trans h.2.2.2.1, (hi 6 (by decide) (by decide)).trans h.2.2.2.2.1, h.2.2.2.2.2.1, h.2.2.2.2.2.2.1, h.2.2.2.2.2.2.2.1, h.2.2.2.2.2.2.2.2.1, fun i hi2 => ⟨(congrFun ha i).trans (h.2.2.2.2.2.2.2.2.2 i hi2).1, (h.2.2.2.2.2.2.2.2.2 i hi2).2⟩⟩
theorem skip_c {b : Nat → Nat} {M : PM} {n p s : Nat} {f g : Int} (h : TC b M n p s f g) : ∃ M', F_X4_skipBlanks_1 M = rV M' ∧ TC b M' n (sb b n p) s f g ∧ KT M M' := by
  have hp := h.2.2.2.2.2.1
  have hn := h.2.2.2.2.2.2.1
  have hle : sb b n p ≤ n := rn_le b isBl hp
  unfold F_X4_skipBlanks_1
  refine loopS (σ := PM × Nat) (fun f q => F_X4_skipBlanks_1_0 f q.1) (fun o => ∃ M', o = rV M' ∧ TC b M' n (sb b n p) s f g ∧ KT M M') (fun r q => r = sb b n p - q.2 ∧ p ≤ q.2 ∧ q.2 ≤ sb b n p ∧ TC b q.1 n q.2 s f g ∧ KT M q.1) ?_ (sb b n p - p) (M, p) FUEL ⟨rfl, Nat.le_refl _, rn_ge b isBl n p, h, KT.rf⟩ (FUEL_gt (by omega))
  rintro ff r ⟨M1, i⟩ ⟨i1, i2, i3, i4, i5⟩
  simp only at i1 i2 i3 i4 i5
  show (∃ M', F_X4_skipBlanks_1_0 (ff + 1) M1 = rV M' ∧ _) ∨ _
  rw [F_X4_skipBlanks_1_0, i4.1, i4.2.1]
  by_cases q1 : i = n
  · left
    have e : sb b n p = i := by omega
    exact ⟨M1, by rw [if_pos (by rw [zi_le (by omega) (by omega)]; omega)], e ▸ i4, i5⟩
  obtain ⟨b1, b2⟩ := i4.2.2.2.2.2.2.2.2.2 i (by omega)
  rw [if_neg (by rw [zi_le (by omega) (by omega)]; omega), if_pos (zi_ixT (by omega) (by omega)), zi_natN (by omega), b1]
  by_cases q2 : i < sb b n p
  · right
    have hb := of_decide_eq_true (rn_in i2 q2)
    refine ⟨sb b n p - (i + 1), (sI M1 1 3 (zi ((i + 1 : Nat))), i + 1), by omega, ⟨rfl, by show p ≤ i + 1; omega, by show i + 1 ≤ sb b n p; omega, i4.at' (by omega), i5.tr (KT.i (by decide))⟩, ?_⟩
    rw [if_pos (by rw [hb]; rfl), show (1 : Int32) = zi 1 from rfl, zi_add, zc (show (i : Int) + 1 = ((i + 1 : Nat) : Int) by omega)]
  · left
    have e : sb b n p = i := by omega
    have hb := of_decide_eq_false (rn_out (b := b) (q := isBl) (n := n) (p := p) (show sb b n p < n by omega))
    have e2 : rn b isBl n p = i := e
    rw [e2] at hb
    exact ⟨M1, by rw [if_neg (by rw [show (32 : Int32) = zi 32 from rfl, zi_eq (by omega) (by omega)]; omega)], e ▸ i4, i5⟩
theorem blame_c {b : Nat → Nat} {M : PM} {n p s : Nat} {f g x y : Int} (h : TC b M n p s f g) (hx : 0 < x ∧ x ≤ 4) : ∃ M', F_X4_blame_1 M (zi x) (zi y) = rV M' ∧ TC b M' n p s (if f = 0 then x else f) (if f = 0 then y else g) ∧ KT M M' := by
  have hf := h.2.2.2.2.2.2.2.2.1
  unfold F_X4_blame_1
  rw [h.2.2.2.1]
  by_cases q : f = 0
  · rw [if_pos (by rw [q]; rfl), if_pos q, if_pos q]
    exact ⟨_, rfl, h.fl' (by omega), (KT.i (by decide)).tr (KT.i (by decide))⟩
  · rw [if_neg (by rw [show (0 : Int32) = zi 0 from rfl, zi_eq (by omega) (by omega)]; exact q), if_neg q, if_neg q]
    exact ⟨M, rfl, h, KT.rf⟩
theorem isFine_c {b : Nat → Nat} {M : PM} {n p s : Nat} {f g : Int} (h : TC b M n p s f g) : F_X4_isFine_1 M = rI (bb (decide (f = 0))) M := by
  have hf := h.2.2.2.2.2.2.2.2.1
  unfold F_X4_isFine_1
  rw [h.2.2.2.1]
  by_cases q : f = 0
  · rw [if_pos (by rw [q]; rfl), if_pos (by decide), decide_eq_true q]
    rfl
  · rw [if_neg (by rw [show (0 : Int32) = zi 0 from rfl, zi_eq (by omega) (by omega)]; exact q), if_pos (by decide), decide_eq_false q]
    rfl
theorem atEnd_c {b : Nat → Nat} {M : PM} {n p s : Nat} {f g : Int} (h : TC b M n p s f g) : ∃ M', F_X4_isAtEnd_1 M = rI (bb (decide (sb b n p = n))) M' ∧ TC b M' n (sb b n p) s f g ∧ KT M M' := by
  obtain ⟨M1, m1, m2, m3⟩ := skip_c h
  have hp := m2.2.2.2.2.2.1
  have hn := m2.2.2.2.2.2.2.1
  refine ⟨M1, ?_, m2, m3⟩
  unfold F_X4_isAtEnd_1
  rw [m1, cV_s, m2.1, m2.2.1]
  by_cases q : sb b n p = n
  · rw [if_neg (by rw [zi_lt (by omega) (by omega)]; omega), if_pos (by decide), decide_eq_true q]
    rfl
  · rw [if_pos (by rw [zi_lt (by omega) (by omega)]; omega), if_pos (by decide), decide_eq_false q]
    rfl
theorem blameNext_c {b : Nat → Nat} {M : PM} {n p s : Nat} {f g : Int} (h : TC b M n p s f g) : ∃ M', F_X4_blameNext_1 M = rV M' ∧ TC b M' n (sb b n p) s (if f = 0 then 1 else f) (if f = 0 then ((sb b n p : Nat) : Int) else g) ∧ KT M M' := by
  obtain ⟨M1, m1, m2, m3⟩ := skip_c h
  obtain ⟨M2, k1, k2, k3⟩ := blame_c (x := 1) (y := ((sb b n p : Nat) : Int)) m2 (by decide)
  refine ⟨M2, ?_, k2, m3.tr k3⟩
  unfold F_X4_blameNext_1
  rw [m1, cV_s, m2.2.1, show (1 : Int32) = zi 1 from rfl, k1, cV_s]
theorem blameTaken_c {b : Nat → Nat} {M : PM} {n p s : Nat} {f g : Int} (h : TC b M n p s f g) : ∃ M', F_X4_blameTaken_1 M 3 = rV M' ∧ TC b M' n p s (if f = 0 then 3 else f) (if f = 0 then ((s : Nat) : Int) else g) ∧ KT M M' := by
  obtain ⟨M2, k1, k2, k3⟩ := blame_c (x := 3) (y := ((s : Nat) : Int)) h (by decide)
  refine ⟨M2, ?_, k2, k3⟩
  unfold F_X4_blameTaken_1
  rw [h.2.2.1, show (3 : Int32) = zi 3 from rfl, k1, cV_s]
theorem sign_c {b : Nat → Nat} {M : PM} {n p s c : Nat} {f g : Int} (h : TC b M n p s f g) (hc : c < 256) : ∃ v M', F_X4_takesSign_1 M (zi c) = rI (bb v) M' ∧ (v = true ↔ f = 0 ∧ sb b n p < n ∧ b (sb b n p) = c) ∧ KT M M' ∧ (v = true → TC b M' n (sb b n p + 1) (sb b n p) f g) ∧ (v = false → TC b M' n (sb b n p) s f g) := by
  obtain ⟨M1, m1, m2, m3⟩ := skip_c h
  have hp := m2.2.2.2.2.2.1
  have hn := m2.2.2.2.2.2.2.1
  unfold F_X4_takesSign_1
  rw [m1, cV_s, isFine_c m2, cI_s]
  have no : ∀ P : Prop, ¬ P → ∃ v M', (some (.inl (some (.int 0)), M1) : Option PR) = rI (bb v) M' ∧ (v = true ↔ P) ∧ KT M M' ∧ (v = true → TC b M' n (sb b n p + 1) (sb b n p) f g) ∧ (v = false → TC b M' n (sb b n p) s f g) := fun P hP => ⟨false, M1, rfl, ⟨fun u => absurd u (by decide), fun u => absurd u hP⟩, m3, fun u => absurd u (by decide), fun _ => m2⟩
  by_cases q : f = 0
  · rw [decide_eq_true q, if_neg (by decide), m2.1, m2.2.1]
    by_cases q1 : sb b n p < n
    · obtain ⟨b1, b2⟩ := m2.2.2.2.2.2.2.2.2.2 _ q1
      rw [if_neg (by rw [zi_le (by omega) (by omega)]; omega), if_pos (zi_ixT (by omega) (by omega)), zi_natN (by omega), b1]
      by_cases q2 : b (sb b n p) = c
      · have e3 : mI (sI M1 1 4 (zi (sb b n p))) 1 3 = zi (sb b n p) := (rI_nk (by decide)).trans m2.2.1
        rw [if_pos (by rw [q2]), if_pos (by decide), e3, show (1 : Int32) = zi 1 from rfl, zi_add, zc (show ((sb b n p : Nat) : Int) + 1 = ((sb b n p + 1 : Nat) : Int) by omega)]
        exact ⟨true, _, rfl, ⟨fun _ => ⟨q, q1, q2⟩, fun _ => rfl⟩, m3.tr ((KT.i (by decide)).tr (KT.i (by decide))), fun _ => (m2.st' (by omega)).at' (by omega), fun u => absurd u (by decide)⟩
      · rw [if_neg (by rw [zi_eq (by omega) (by omega)]; omega), if_pos (by decide)]
        exact no _ (fun u => q2 u.2.2)
    · rw [if_pos (by rw [zi_le (by omega) (by omega)]; omega), if_pos (by decide)]
      exact no _ (fun u => q1 u.2.1)
  · rw [decide_eq_false q, if_pos (by decide), if_pos (by decide)]
    exact no _ (fun u => q u.1)
