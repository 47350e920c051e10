/-! texts: the reference's readers -/
def TM (b : Nat → Nat) (M : PM) (n p : Nat) (f g : Int) : Prop := mI M 99 2 = zi n ∧ mI M 99 4 = zi p ∧ mI M 99 5 = zi f ∧ mI M 99 6 = zi g ∧ p ≤ n ∧ n ≤ 500 ∧ (0 ≤ f ∧ f ≤ 4) ∧ ∀ i, i < n → mA M 100 i = zi (b i) ∧ b i < 256
def KR (M M' : PM) : Prop := (∀ q k, ¬ (q = 99 ∧ 4 ≤ k ∧ k ≤ 6) → M'.1 q k = M.1 q k) ∧ M'.2 = M.2
theorem KR.rf {M : PM} : KR M M := ⟨fun _ _ _ => rfl, rfl⟩
theorem KR.tr {M M1 M2 : PM} (h : KR M M1) (g : KR M1 M2) : KR M M2 := ⟨fun q k hq => (g.1 q k hq).trans (h.1 q k hq), g.2.trans h.2⟩
theorem KR.i {M : PM} {k : Nat} {x : Int32} (hk : 4 ≤ k ∧ k ≤ 6) : KR M (sI M 99 k x) := ⟨fun q j hq => u2_ne (fun e => hq ⟨e.1, by omega, by omega⟩), rfl⟩
theorem KR.sam {M M' : PM} (h : KR M M') : Sam M M' := by
  refine ⟨⟨fun p hp => h.1 p.1 p.2 (fun e => ?_), fun q _ => by rw [h.2], fun q _ => by rw [h.2], fun q _ i => by rw [h.2]⟩, by rw [h.2]⟩
  obtain ⟨p1, p2⟩ := p
  simp only at e
  obtain ⟨rfl, e2, e3⟩ := e
  have : p2 = 4 ∨ p2 = 5 ∨ p2 = 6 := by omega
  rcases this with rfl | rfl | rfl <;> exact absurd hp (by decide)
theorem TM.at' {b : Nat → Nat} {M : PM} {n p p' : Nat} {f g : Int} (h : TM b M n p f g) (hp : p' ≤ n) : TM b (sI M 99 4 (zi p')) n p' f g := ⟨(rI_nk (by decide)).trans h.1, rI_at, (rI_nk (by decide)).trans h.2.2.1, (rI_nk (by decide)).trans h.2.2.2.1, hp, h.2.2.2.2.2⟩
theorem TM.fl' {b : Nat → Nat} {M : PM} {n p : Nat} {f g x y : Int} (h : TM b M n p f g) (hx : 0 ≤ x ∧ x ≤ 4) : TM b (sI (sI M 99 5 (zi x)) 99 6 (zi y)) n p x y := ⟨(rI_nk (by decide)).trans ((rI_nk (by decide)).trans h.1), (rI_nk (by decide)).trans ((rI_nk (by decide)).trans h.2.1), (rI_nk (by decide)).trans rI_at, rI_at, h.2.2.2.2.1, h.2.2.2.2.2.1, hx, h.2.2.2.2.2.2.2⟩
theorem TM.kp {b : Nat → Nat} {M M' : PM} {n p : Nat} {f g : Int} (h : TM b M n p f g) (hi : ∀ k, 2 ≤ k → k ≤ 6 → M'.1 99 k = M.1 99 k) (ha : M'.2.2.1 100 = M.2.2.1 100) : TM b M' n p f g := ⟨(hi 2 (by decide) (by decide)).trans h.1, (hi 4 (by decide) (by decide)).trans h.2.1, (hi 5 (by decide) (by decide)).trans h.2.2.1, (hi 6 (by decide) (by decide)).trans h.2.2.2.1, h.2.2.2.2.1, h.2.2.2.2.2.1, h.2.2.2.2.2.2.1, fun i hi2 => ⟨(congrFun ha i).trans (h.2.2.2.2.2.2.2 i hi2).1, (h.2.2.2.2.2.2.2 i hi2).2⟩⟩
def bAt (b : Nat → Nat) (n i : Nat) : Int := if i < n then (b i : Int) else -1
theorem byteAt_m {b : Nat → Nat} {M : PM} {n p i : Nat} {f g : Int} (h : TM b M n p f g) (hi : i ≤ 2000) : F_X11_byteAt_99 M (zi i) = rI (zi (bAt b n i)) M := by
  have hn := h.2.2.2.2.2.1
  unfold F_X11_byteAt_99 bAt
  rw [h.1]
  by_cases q : i < n
  · rw [if_pos (by rw [zi_lt (by omega) (by omega)]; omega), if_pos (zi_ixT (by omega) (by omega)), zi_natN (by omega), (h.2.2.2.2.2.2.2 i q).1, if_pos q]
  · rw [if_neg (by rw [zi_lt (by omega) (by omega)]; omega), if_neg q]
    rfl
theorem bAt_in {b : Nat → Nat} {M : PM} {n p i : Nat} {f g : Int} (h : TM b M n p f g) : -1 ≤ bAt b n i ∧ bAt b n i < 256 := by
  unfold bAt
  by_cases q : i < n
  · rw [if_pos q]
    have := (h.2.2.2.2.2.2.2 i q).2
    omega
  · rw [if_neg q]; decide
theorem blanks_m {b : Nat → Nat} {M : PM} {n p : Nat} {f g : Int} (h : TM b M n p f g) : ∃ M', F_X11_blanks_99 M = rV M' ∧ TM b M' n (sb b n p) f g ∧ KR M M' := by
  have hp := h.2.2.2.2.1
  have hn := h.2.2.2.2.2.1
  have hle : sb b n p ≤ n := rn_le b isBl hp
  unfold F_X11_blanks_99
  refine loopS (σ := PM × Nat) (fun f q => F_X11_blanks_99_0 f q.1) (fun o => ∃ M', o = rV M' ∧ TM b M' n (sb b n p) f g ∧ KR M M') (fun r q => r = sb b n p - q.2 ∧ p ≤ q.2 ∧ q.2 ≤ sb b n p ∧ TM b q.1 n q.2 f g ∧ KR M q.1) ?_ (sb b n p - p) (M, p) FUEL ⟨rfl, Nat.le_refl _, rn_ge b isBl n p, h, KR.rf⟩ (FUEL_gt (by omega))
  rintro ff r ⟨M1, i⟩ ⟨i1, i2, i3, i4, i5⟩
  simp only at i1 i2 i3 i4 i5
  show (∃ M', F_X11_blanks_99_0 (ff + 1) M1 = rV M' ∧ _) ∨ _
  have hr := bAt_in (i := i) i4
  rw [F_X11_blanks_99_0, i4.2.1, byteAt_m i4 (by omega), cI_s]
  by_cases q2 : i < sb b n p
  · right
    have hb := of_decide_eq_true (rn_in i2 q2)
    have e : bAt b n i = 32 := by unfold bAt; rw [if_pos (by omega), hb]; rfl
    refine ⟨sb b n p - (i + 1), (sI M1 99 4 (zi ((i + 1 : Nat))), i + 1), by omega, ⟨rfl, by show p ≤ i + 1; omega, by show i + 1 ≤ sb b n p; omega, i4.at' (by omega), i5.tr (KR.i (by decide))⟩, ?_⟩
    rw [if_pos (by rw [e]; rfl), i4.2.1, show (1 : Int32) = zi 1 from rfl, zi_add, zc (show (i : Int) + 1 = ((i + 1 : Nat) : Int) by omega)]
  · left
    have e : sb b n p = i := by omega
    refine ⟨M1, ?_, e ▸ i4, i5⟩
    rw [if_neg]
    rw [show (32 : Int32) = zi 32 from rfl, zi_eq (by omega) (by omega)]
    unfold bAt
    by_cases q1 : i < n
    · have hb := of_decide_eq_false (rn_out (b := b) (q := isBl) (n := n) (p := p) (show sb b n p < n by omega))
      have e2 : rn b isBl n p = i := e
      rw [e2] at hb
      rw [if_pos q1]
      omega
    · rw [if_neg q1]; decide
theorem wrong_m {b : Nat → Nat} {M : PM} {n p : Nat} {f g x y : Int} (h : TM b M n p f g) (hx : 0 < x ∧ x ≤ 4) : ∃ M', F_X11_wrong_99 M (zi x) (zi y) = rV M' ∧ TM b M' n p (if f = 0 then x else f) (if f = 0 then y else g) ∧ KR M M' := by
  have hf := h.2.2.2.2.2.2.1
  unfold F_X11_wrong_99
  rw [h.2.2.1]
  by_cases q : f = 0
  · rw [if_pos (by rw [q]; rfl), if_pos q, if_pos q]
    exact ⟨_, rfl, h.fl' (by omega), (KR.i (by decide)).tr (KR.i (by decide))⟩
  · rw [if_neg (by rw [show (0 : Int32) = zi 0 from rfl, zi_eq (by omega) (by omega)]; exact q), if_neg q, if_neg q]
    exact ⟨M, rfl, h, KR.rf⟩
theorem isDigit_m {M : PM} {x : Int} (hx : -1 ≤ x ∧ x < 256) : F_X11_isDigit M (zi x) = rI (bb (decide (48 ≤ x ∧ x ≤ 57))) M := by
  unfold F_X11_isDigit
  by_cases q1 : x < 48
  · rw [if_pos (by rw [show (48 : Int32) = zi 48 from rfl, zi_lt (by omega) (by omega)]; omega), if_pos (by decide), decide_eq_false (by omega)]
    rfl
  · rw [if_neg (by rw [show (48 : Int32) = zi 48 from rfl, zi_lt (by omega) (by omega)]; omega)]
    by_cases q2 : 57 < x
    · rw [if_pos (by rw [show (57 : Int32) = zi 57 from rfl, zi_lt (by omega) (by omega)]; omega), if_pos (by decide), decide_eq_false (by omega)]
      rfl
    · rw [if_neg (by rw [show (57 : Int32) = zi 57 from rfl, zi_lt (by omega) (by omega)]; omega), if_pos (by decide), decide_eq_true (by omega)]
      rfl
theorem bAt_dig {b : Nat → Nat} {n p i : Nat} (h1 : sb b n p ≤ i) (h2 : i ≤ nE b n p) (hE : nE b n p ≤ n) : decide (48 ≤ bAt b n i ∧ bAt b n i ≤ 57) = decide (i < nE b n p) := by
  refine decide_eq_decide.mpr ⟨fun u => ?_, fun u => ?_⟩
  · rcases Nat.lt_or_ge i (nE b n p) with q | q
    · exact q
    · exfalso
      have e : nE b n p = i := by omega
      unfold bAt at u
      by_cases q1 : i < n
      · have hb := of_decide_eq_false (rn_out (b := b) (q := isDg) (n := n) (p := sb b n p) (show nE b n p < n by omega))
        have e2 : rn b isDg n (sb b n p) = i := e
        rw [e2] at hb
        rw [if_pos q1] at u
        omega
      · rw [if_neg q1] at u
        omega
  · have hb := of_decide_eq_true (rn_in h1 u)
    unfold bAt
    rw [if_pos (by omega)]
    omega
theorem number_m {b : Nat → Nat} {M : PM} {n p : Nat} {f g lo hi : Int} (h : TM b M n p f g) (hlo : -2147483648 ≤ lo ∧ lo < 2147483648) (hhi : -2147483648 ≤ hi ∧ hi < 2147483648) : ∃ M', KR M M' ∧ ((f = 0 ∧ nFl b n p lo hi = 0 ∧ F_X11_number_99 M (zi lo) (zi hi) = rI (zi (nV b n p)) M' ∧ TM b M' n (nE b n p) 0 g) ∨ (f = 0 ∧ nFl b n p lo hi ≠ 0 ∧ F_X11_number_99 M (zi lo) (zi hi) = rI (zi 0) M' ∧ TM b M' n (nE b n p) (nFl b n p lo hi) ((sb b n p : Nat) : Int)) ∨ (f ≠ 0 ∧ M' = M ∧ F_X11_number_99 M (zi lo) (zi hi) = rI (zi 0) M)) := by
  have hf := h.2.2.2.2.2.2.1
  unfold F_X11_number_99
  rw [h.2.2.1]
  by_cases q : f = 0
  rotate_left
  · rw [if_neg (by rw [show (0 : Int32) = zi 0 from rfl, zi_eq (by omega) (by omega)]; exact q)]
    exact ⟨M, KR.rf, Or.inr (Or.inr ⟨q, rfl, rfl⟩)⟩
  · obtain ⟨M1, m1, m2, m3⟩ := blanks_m h
    have hp := m2.2.2.2.2.1
    have hn := m2.2.2.2.2.2.1
    have hge : sb b n p ≤ nE b n p := rn_ge b isDg n (sb b n p)
    have hle : nE b n p ≤ n := rn_le b isDg hp
    have hvV : nV b n p ≤ 1000000 := nv_le _
    have hr := bAt_in (i := sb b n p) m2
    subst q
    rw [if_pos (by rfl), m1, cV_s, m2.2.1, lt_z, byteAt_m m2 (by omega), cI_s, isDigit_m hr, cI_s, bAt_dig (Nat.le_refl _) hge hle]
    -- the digits, whatever the fault is
    have loop : ∀ (M2 : PM) (x y : Int), TM b M2 n (sb b n p) x y → ∃ M3, F_X11_number_99_44 FUEL M2 (zi lo) (zi hi) (zi (sb b n p)) (zi 0) = (cI (F_X11_in M3 (zi (nV b n p)) (zi lo) (zi hi)) fun v1005 M1004 => (if v1005 = 0 then cV (F_X11_wrong_99 M1004 2 (zi (sb b n p))) fun M1006 => F_X11_number_99_122 M1006 (zi (nV b n p)) else F_X11_number_99_122 M1004 (zi (nV b n p)))) ∧ TM b M3 n (nE b n p) x y ∧ KR M2 M3 := fun M2 x y h2 => by
      refine loopS (σ := PM × Nat) (fun ff q => F_X11_number_99_44 ff q.1 (zi lo) (zi hi) (zi (sb b n p)) (zi (nv b (sb b n p) (q.2 - sb b n p)))) (fun o => ∃ M3, o = (cI (F_X11_in M3 (zi (nV b n p)) (zi lo) (zi hi)) fun v1005 M1004 => (if v1005 = 0 then cV (F_X11_wrong_99 M1004 2 (zi (sb b n p))) fun M1006 => F_X11_number_99_122 M1006 (zi (nV b n p)) else F_X11_number_99_122 M1004 (zi (nV b n p)))) ∧ TM b M3 n (nE b n p) x y ∧ KR M2 M3) (fun r q => r = nE b n p - q.2 ∧ sb b n p ≤ q.2 ∧ q.2 ≤ nE b n p ∧ TM b q.1 n q.2 x y ∧ KR M2 q.1) ?_ (nE b n p - sb b n p) (M2, sb b n p) FUEL ⟨rfl, Nat.le_refl _, hge, h2, KR.rf⟩ (FUEL_gt (by omega)) |> (fun h => by
        rw [show sb b n p - sb b n p = 0 by omega] at h
        exact h)
      rintro ff r ⟨M3, i⟩ ⟨i1, i2, i3, i4, i5⟩
      simp only at i1 i2 i3 i4 i5
      show (∃ M4, F_X11_number_99_44 (ff + 1) M3 (zi lo) (zi hi) (zi (sb b n p)) (zi (nv b (sb b n p) (i - sb b n p))) = _ ∧ _) ∨ _
      rw [F_X11_number_99_44, i4.2.1, byteAt_m i4 (by omega), cI_s, isDigit_m (bAt_in i4), cI_s, bAt_dig i2 i3 hle]
      by_cases q2 : i < nE b n p
      · right
        have hb := of_decide_eq_true (rn_in i2 q2)
        have hv := nv_le (b := b) (q := sb b n p) (i - sb b n p)
        have e : bAt b n i = (b i : Int) := by unfold bAt; rw [if_pos (by omega)]
        refine ⟨nE b n p - (i + 1), (sI M3 99 4 (zi ((i + 1 : Nat))), i + 1), by omega, ⟨rfl, by show sb b n p ≤ i + 1; omega, by show i + 1 ≤ nE b n p; omega, i4.at' (by omega), i5.tr (KR.i (by decide))⟩, ?_⟩
        rw [decide_eq_true q2, if_neg (by decide), i4.2.1, byteAt_m i4 (by omega), cI_s, e, show (10 : Int32) = zi 10 from rfl, show (48 : Int32) = zi 48 from rfl, zi_mul, zi_add, zi_sub, lt_z]
        unfold F_X11_number_99_91
        rw [i4.2.1, show (1 : Int32) = zi 1 from rfl, zi_add, zc (show (i : Int) + 1 = ((i + 1 : Nat) : Int) by omega)]
        dsimp only
        rw [show i + 1 - sb b n p = i - sb b n p + 1 by omega, nv, show sb b n p + (i - sb b n p) = i by omega]
        by_cases q3 : 10 * nv b (sb b n p) (i - sb b n p) + b i - 48 ≤ 1000000
        · rw [if_pos (by rw [show (1000000 : Int32) = zi 1000000 from rfl, zi_le (by omega) (by omega)]; omega), Nat.min_eq_left q3, zc (show (10 : Int) * (nv b (sb b n p) (i - sb b n p) : Int) + (b i : Int) - 48 = ((10 * nv b (sb b n p) (i - sb b n p) + b i - 48 : Nat) : Int) by omega)]
        · rw [if_neg (by rw [show (1000000 : Int32) = zi 1000000 from rfl, zi_le (by omega) (by omega)]; omega), Nat.min_eq_right (by omega)]
          rfl
      · left
        have e : nE b n p = i := by omega
        refine ⟨M3, ?_, e ▸ i4, i5⟩
        rw [decide_eq_false q2, if_pos (by decide)]
        unfold nV
        rw [e]
    have fin : ∀ M3 : PM, ∀ x y : Int, TM b M3 n (nE b n p) x y → KR M M3 → (x = 0 → nE b n p ≠ sb b n p) → ((x = 0 ∧ y = g) ∨ (x = nFl b n p lo hi ∧ x ≠ 0 ∧ y = ((sb b n p : Nat) : Int))) → ∃ M', KR M M' ∧ (((0 : Int) = 0 ∧ nFl b n p lo hi = 0 ∧ (cI (F_X11_in M3 (zi (nV b n p)) (zi lo) (zi hi)) fun v1005 M1004 => (if v1005 = 0 then cV (F_X11_wrong_99 M1004 2 (zi (sb b n p))) fun M1006 => F_X11_number_99_122 M1006 (zi (nV b n p)) else F_X11_number_99_122 M1004 (zi (nV b n p)))) = rI (zi (nV b n p)) M' ∧ TM b M' n (nE b n p) 0 g) ∨ ((0 : Int) = 0 ∧ nFl b n p lo hi ≠ 0 ∧ (cI (F_X11_in M3 (zi (nV b n p)) (zi lo) (zi hi)) fun v1005 M1004 => (if v1005 = 0 then cV (F_X11_wrong_99 M1004 2 (zi (sb b n p))) fun M1006 => F_X11_number_99_122 M1006 (zi (nV b n p)) else F_X11_number_99_122 M1004 (zi (nV b n p)))) = rI (zi 0) M' ∧ TM b M' n (nE b n p) (nFl b n p lo hi) ((sb b n p : Nat) : Int))) := fun M3 x y h3 k3 hx0 hxy => by
      have hx4 := h3.2.2.2.2.2.2.1
      have e122 : ∀ (M4 : PM) (u v : Int), TM b M4 n (nE b n p) u v → F_X11_number_99_122 M4 (zi (nV b n p)) = rI (zi (if u = 0 then (nV b n p : Int) else 0)) M4 := fun M4 u v h4 => by
        have := h4.2.2.2.2.2.2.1
        unfold F_X11_number_99_122
        rw [h4.2.2.1]
        by_cases q : u = 0
        · rw [if_pos (by rw [q]; rfl), if_pos q]
        · rw [if_neg (by rw [show (0 : Int32) = zi 0 from rfl, zi_eq (by omega) (by omega)]; exact q), if_neg q]
          rfl
      by_cases q2 : lo ≤ nV b n p ∧ nV b n p ≤ hi
      · refine ⟨M3, k3, ?_⟩
        rw [in_t q2 (by omega), cI_s, if_neg (by decide), e122 M3 x y h3]
        rcases hxy with ⟨u1, u2⟩ | ⟨u1, u2, u3⟩
        · subst u1 u2
          have hF : nFl b n p lo hi = 0 := by unfold nFl; rw [if_neg (hx0 rfl), if_pos q2]
          exact Or.inl ⟨rfl, hF, by rw [if_pos rfl], h3⟩
        · rw [if_neg u2]
          exact Or.inr ⟨rfl, by omega, rfl, by rw [← u1, ← u3]; exact h3⟩
      · obtain ⟨M4, w1, w2, w3⟩ := wrong_m (x := 2) (y := ((sb b n p : Nat) : Int)) h3 (by decide)
        refine ⟨M4, k3.tr w3, ?_⟩
        rw [in_f q2 (by omega) (by omega), cI_s, if_pos (by rfl), show (2 : Int32) = zi 2 from rfl, w1, cV_s, e122 M4 _ _ w2]
        rcases hxy with ⟨u1, u2⟩ | ⟨u1, u2, u3⟩
        · subst u1 u2
          have hF : nFl b n p lo hi = 2 := by unfold nFl; rw [if_neg (hx0 rfl), if_neg q2]
          rw [if_pos rfl, if_pos rfl] at w2
          rw [if_pos rfl, if_neg (by decide)]
          exact Or.inr ⟨rfl, by omega, rfl, by rw [hF]; exact w2⟩
        · rw [if_neg u2, if_neg u2] at w2
          rw [if_neg u2, if_neg u2]
          exact Or.inr ⟨rfl, by omega, rfl, by rw [← u1, ← u3]; exact w2⟩
    have lift : ∀ o : Option PR, (∃ M', KR M M' ∧ (((0 : Int) = 0 ∧ nFl b n p lo hi = 0 ∧ o = rI (zi (nV b n p)) M' ∧ TM b M' n (nE b n p) 0 g) ∨ ((0 : Int) = 0 ∧ nFl b n p lo hi ≠ 0 ∧ o = rI (zi 0) M' ∧ TM b M' n (nE b n p) (nFl b n p lo hi) ((sb b n p : Nat) : Int)))) → ∃ M', KR M M' ∧ (((0 : Int) = 0 ∧ nFl b n p lo hi = 0 ∧ o = rI (zi (nV b n p)) M' ∧ TM b M' n (nE b n p) 0 g) ∨ ((0 : Int) = 0 ∧ nFl b n p lo hi ≠ 0 ∧ o = rI (zi 0) M' ∧ TM b M' n (nE b n p) (nFl b n p lo hi) ((sb b n p : Nat) : Int)) ∨ ((0 : Int) ≠ 0 ∧ M' = M ∧ o = rI (zi 0) M)) := fun o => by
      rintro ⟨M', k, h1 | h1⟩
      · exact ⟨M', k, Or.inl h1⟩
      · exact ⟨M', k, Or.inr (Or.inl h1)⟩
    by_cases q1 : sb b n p < nE b n p
    · obtain ⟨M3, l1, l2, l3⟩ := loop M1 0 g m2
      rw [decide_eq_true q1, if_neg (by decide)]
      have l1' : F_X11_number_99_44 FUEL M1 (zi lo) (zi hi) (zi (sb b n p)) 0 = _ := l1
      rw [l1']
      exact lift _ (fin M3 0 g l2 (m3.tr l3) (fun _ => by omega) (Or.inl ⟨rfl, rfl⟩))
    · have hF : nFl b n p lo hi = 1 := by unfold nFl; rw [if_pos (by omega)]
      obtain ⟨M2, w1, w2, w3⟩ := wrong_m (x := 1) (y := ((sb b n p : Nat) : Int)) m2 (by decide)
      rw [if_pos rfl, if_pos rfl] at w2
      obtain ⟨M3, l1, l2, l3⟩ := loop M2 1 ((sb b n p : Nat) : Int) w2
      rw [decide_eq_false q1, if_pos (by decide), m2.2.1, show (1 : Int32) = zi 1 from rfl, w1, cV_s]
      have l1' : F_X11_number_99_44 FUEL M2 (zi lo) (zi hi) (zi (sb b n p)) 0 = _ := l1
      rw [l1']
      exact lift _ (fin M3 1 _ l2 ((m3.tr w3).tr l3) (fun u => absurd u (by decide)) (Or.inr ⟨hF.symm, by decide, rfl⟩))
theorem sign_m {b : Nat → Nat} {M : PM} {n p c : Nat} {f g : Int} (h : TM b M n p f g) (hc : c < 256) : ∃ M', F_X11_sign_99 M (zi c) = rV M' ∧ KR M M' ∧ (f = 0 → sb b n p < n ∧ b (sb b n p) = c → TM b M' n (sb b n p + 1) 0 g) ∧ (f = 0 → ¬ (sb b n p < n ∧ b (sb b n p) = c) → TM b M' n (sb b n p) 1 ((sb b n p : Nat) : Int)) ∧ (f ≠ 0 → M' = M) := by
  have hf := h.2.2.2.2.2.2.1
  unfold F_X11_sign_99
  rw [h.2.2.1]
  by_cases q : f = 0
  · obtain ⟨M1, m1, m2, m3⟩ := blanks_m h
    have hp := m2.2.2.2.2.1
    have hn := m2.2.2.2.2.2.1
    have hr := bAt_in (i := sb b n p) m2
    subst q
    rw [if_pos (by rfl), m1, cV_s, m2.2.1, byteAt_m m2 (by omega), cI_s]
    by_cases q1 : sb b n p < n ∧ b (sb b n p) = c
    · have e : bAt b n (sb b n p) = (c : Int) := by unfold bAt; rw [if_pos q1.1, q1.2]
      rw [if_pos (by rw [e]), m2.2.1, show (1 : Int32) = zi 1 from rfl, zi_add, zc (show ((sb b n p : Nat) : Int) + 1 = ((sb b n p + 1 : Nat) : Int) by omega)]
      exact ⟨_, rfl, m3.tr (KR.i (by decide)), fun _ _ => m2.at' (by omega), fun _ u => absurd q1 u, fun u => absurd rfl u⟩
    · have e : bAt b n (sb b n p) ≠ (c : Int) := by
        unfold bAt
        by_cases q2 : sb b n p < n
        · rw [if_pos q2]
          intro u
          exact q1 ⟨q2, by omega⟩
        · rw [if_neg q2]; omega
      obtain ⟨M2, w1, w2, w3⟩ := wrong_m (x := 1) (y := ((sb b n p : Nat) : Int)) m2 (by decide)
      rw [if_pos rfl, if_pos rfl] at w2
      rw [if_neg (by rw [zi_eq (by omega) (by omega)]; exact e), m2.2.1, show (1 : Int32) = zi 1 from rfl, w1, cV_s]
      exact ⟨M2, rfl, m3.tr w3, fun _ u => absurd u q1, fun _ _ => w2, fun u => absurd rfl u⟩
  · rw [if_neg (by rw [show (0 : Int32) = zi 0 from rfl, zi_eq (by omega) (by omega)]; exact q)]
    exact ⟨M, rfl, KR.rf, fun u => absurd u q, fun u => absurd u q, fun _ => rfl⟩
