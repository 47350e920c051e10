/-! begun: what both look for -/
def EN (p : Nat → Bool) (n x e : Nat) : Prop := e ≤ 999999999 ∧ p e = true ∧ fb_ct p e + 1 = fb_ct p x + n
def BB (p : Nat → Bool) (n a last : Nat) (r : Int) : Prop := (r = -1 ∧ ∀ x e, a ≤ x → x ≤ last → ¬ EN p n x e) ∨ ∃ b e : Nat, r = (b : Int) ∧ a ≤ b ∧ b ≤ last ∧ EN p n b e ∧ ∀ x e', a ≤ x → x ≤ last → EN p n x e' → e + x ≤ e' + b ∧ (x < b → e + x < e' + b)
theorem BB_one {p : Nat → Bool} {n a last : Nat} {r r' : Int} (h : BB p n a last r) (h' : BB p n a last r') : r = r' := by
  rcases h with ⟨h1, h2⟩ | ⟨b, e, h1, h2, h3, h4, h5⟩
  · rcases h' with ⟨g1, g2⟩ | ⟨b', e', g1, g2, g3, g4, g5⟩
    · rw [h1, g1]
    · exact absurd g4 (h2 b' e' g2 g3)
  · rcases h' with ⟨g1, g2⟩ | ⟨b', e', g1, g2, g3, g4, g5⟩
    · exact absurd h4 (g2 b e h2 h3)
    · have u1 := h5 b' e' g2 g3 g4
      have u2 := g5 b e h2 h3 h4
      rcases Nat.lt_trichotomy b b' with q | q | q
      · have := u2.2 q; omega
      · rw [h1, g1, q]
      · have := u1.2 q; omega
theorem ct_lip (p : Nat → Bool) {x y : Nat} (h : x ≤ y) : fb_ct p y ≤ fb_ct p x + (y - x) := by
  have e := fb_ct_split p x (y - x)
  rw [show x + (y - x) = y by omega] at e
  have := fb_ct_le (fun k => p (x + k)) (y - x)
  omega
theorem ct_ex {p : Nat → Bool} {a b t : Nat} (h1 : fb_ct p a ≤ t) (h2 : t < fb_ct p b) : ∃ x, a ≤ x ∧ x < b ∧ p x = true ∧ fb_ct p x = t := by
  obtain ⟨x, x1, x2, x3⟩ := fb_ct_kth h2
  refine ⟨x, ?_, x1, x2, x3⟩
  rcases Nat.lt_or_ge x a with q | q
  · have := ct_lt_of q x2; omega
  · exact q
theorem ct_le_of {p : Nat → Bool} {x y : Nat} (hy : p y = true) (h : fb_ct p x ≤ fb_ct p y) : x ≤ y := by
  rcases Nat.lt_or_ge y x with q | q
  · have := ct_lt_of q hy; omega
  · exact q
theorem ct_gt_of {p : Nat → Bool} {x y : Nat} (h : fb_ct p x < fb_ct p y) : x < y := by
  rcases Nat.lt_or_ge x y with q | q
  · exact q
  · have := fb_ct_mono p q; omega
theorem EN_ge {p : Nat → Bool} {n x e : Nat} (hn : 1 ≤ n) (h : EN p n x e) : x ≤ e := ct_le_of h.2.1 (by have := h.2.2; omega)
theorem EN_len {p : Nat → Bool} {n x e : Nat} (hn : 1 ≤ n) (h : EN p n x e) : n + x ≤ e + 1 := by
  have := ct_lip p (EN_ge hn h)
  have := EN_ge hn h
  have := h.2.2
  omega
theorem EN_back {p : Nat → Bool} {n x x' e' : Nat} (hn : 1 ≤ n) (h : EN p n x' e') (hx : x ≤ x') : ∃ e, EN p n x e := by
  have h1 := fb_ct_mono p hx
  have h2 := h.2.2
  obtain ⟨e, e1, e2, e3, e4⟩ := ct_ex (p := p) (a := x) (b := e' + 1) (t := fb_ct p x + n - 1) (by omega) (by rw [ctT h.2.1]; omega)
  exact ⟨e, by have := h.1; omega, e3, by omega⟩
theorem NthF_EN {C : Cal} {L x n : Nat} {r : Int} (h : NthF C L 0 x n r) : (∃ e : Nat, EN (fd C L 0) n x e ∧ r = (e : Int)) ∨ (r = -1 ∧ (1 ≤ n → ∀ e, ¬ EN (fd C L 0) n x e)) := by
  rcases h with ⟨k, k1, k2, k3, k4⟩ | ⟨k1, k2⟩
  · have := fb_ct_split (fd C L 0) x k
    exact Or.inl ⟨x + k, ⟨k1, k2, by omega⟩, k4⟩
  · refine Or.inr ⟨k1, fun hn e he => ?_⟩
    have g := EN_ge hn he
    have s := fb_ct_split (fd C L 0) x (e - x)
    rw [show x + (e - x) = e by omega] at s
    have := he.2.2
    exact k2 (e - x) (by have := he.1; omega) (by rw [show x + (e - x) = e by omega]; exact he.2.1) (by omega)
/-! the class's loop: what is known when the walk stands at c -/
def BC (p : Nat → Bool) (n a last c : Nat) (r l : Int) : Prop := (r = -1 ∧ l = 1000000001 ∧ ∀ x e, a ≤ x → x ≤ last → EN p n x e → ¬ e < c) ∨ ∃ b e : Nat, r = (b : Int) ∧ l = (e : Int) - b + 1 ∧ a ≤ b ∧ b ≤ last ∧ EN p n b e ∧ e < c ∧ ∀ x e', a ≤ x → x ≤ last → EN p n x e' → e' < c → e + x ≤ e' + b ∧ (x < b → e + x < e' + b)
theorem BC_end {p : Nat → Bool} {n a last c : Nat} {r l : Int} (h : BC p n a last c r l) (hx : ∀ x e, a ≤ x → x ≤ last → EN p n x e → e < c) : BB p n a last r := by
  rcases h with ⟨h1, h2, h3⟩ | ⟨b, e, h1, h2, h3, h4, h5, h6, h7⟩
  · exact Or.inl ⟨h1, fun x e x1 x2 x3 => h3 x e x1 x2 x3 (hx x e x1 x2 x3)⟩
  · exact Or.inr ⟨b, e, h1, h3, h4, h5, fun x e' x1 x2 x3 => h7 x e' x1 x2 x3 (hx x e' x1 x2 x3)⟩
theorem BC_n {p : Nat → Bool} {n a last c : Nat} {r : Int} (hn : 1 ≤ n) (hn2 : n ≤ 60) (h : BC p n a last c r n) : BB p n a last r := by
  rcases h with ⟨h1, h2, h3⟩ | ⟨b, e, h1, h2, h3, h4, h5, h6, h7⟩
  · omega
  · refine Or.inr ⟨b, e, h1, h3, h4, h5, fun x e' x1 x2 x3 => ?_⟩
    rcases Nat.lt_or_ge e' c with q | q
    · exact h7 x e' x1 x2 x3 q
    · have := EN_len hn x3
      exact ⟨by omega, fun _ => by omega⟩
/-- the walk went on to v, and no end lies between -/
theorem BC_on {p : Nat → Bool} {n a last c c' : Nat} {r l : Int} (h : BC p n a last c r l) (hc : c ≤ c') (hx : ∀ x e, a ≤ x → x ≤ last → EN p n x e → c ≤ e → ¬ e < c') : BC p n a last c' r l := by
  rcases h with ⟨h1, h2, h3⟩ | ⟨b, e, h1, h2, h3, h4, h5, h6, h7⟩
  · refine Or.inl ⟨h1, h2, fun x e x1 x2 x3 x4 => ?_⟩
    rcases Nat.lt_or_ge e c with q | q
    · exact h3 x e x1 x2 x3 q
    · exact hx x e x1 x2 x3 q x4
  · refine Or.inr ⟨b, e, h1, h2, h3, h4, h5, by omega, fun x e' x1 x2 x3 x4 => ?_⟩
    rcases Nat.lt_or_ge e' c with q | q
    · exact h7 x e' x1 x2 x3 q
    · exact absurd x4 (hx x e' x1 x2 x3 q)
/-- a begin w with the end v: taken -/
theorem BC_take {p : Nat → Bool} {n a last c v w : Nat} {r l : Int} (h : BC p n a last c r l) (hv : c ≤ v) (hw : EN p n w v) (h1 : a ≤ w) (h2 : w ≤ last) (hl : (v : Int) - w + 1 < l) (hx : ∀ x e, a ≤ x → x ≤ last → EN p n x e → c ≤ e → e < v + 1 → e = v ∧ x ≤ w) : BC p n a last (v + 1) w ((v : Int) - w + 1) := by
  refine Or.inr ⟨w, v, rfl, rfl, h1, h2, hw, by omega, fun x e x1 x2 x3 x4 => ?_⟩
  rcases Nat.lt_or_ge e c with q | q
  · rcases h with ⟨g1, g2, g3⟩ | ⟨b, e0, g1, g2, g3, g4, g5, g6, g7⟩
    · exact absurd q (g3 x e x1 x2 x3)
    · have := (g7 x e x1 x2 x3 q).1
      exact ⟨by omega, fun _ => by omega⟩
  · have := hx x e x1 x2 x3 q x4
    exact ⟨by omega, fun _ => by omega⟩
/-- not taken -/
theorem BC_left {p : Nat → Bool} {n a last c v w : Nat} {r l : Int} (h : BC p n a last c r l) (hv : c ≤ v) (hv2 : v ≤ 999999999) (hl : l ≤ (v : Int) - w + 1) (hx : ∀ x e, a ≤ x → x ≤ last → EN p n x e → c ≤ e → e < v + 1 → e = v ∧ x ≤ w) : BC p n a last (v + 1) r l := by
  rcases h with ⟨g1, g2, g3⟩ | ⟨b, e0, g1, g2, g3, g4, g5, g6, g7⟩
  · omega
  · refine Or.inr ⟨b, e0, g1, g2, g3, g4, g5, by omega, fun x e x1 x2 x3 x4 => ?_⟩
    rcases Nat.lt_or_ge e c with q | q
    · exact g7 x e x1 x2 x3 q
    · have := hx x e x1 x2 x3 q x4
      exact ⟨by omega, fun _ => by omega⟩
