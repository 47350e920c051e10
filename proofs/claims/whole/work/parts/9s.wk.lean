/-! weeks: the rows of days that may be, and the first of them -/
def meR (W d : Nat → Nat) (i j : Nat) : Bool := mee (W i) (d i) (W j) (d j)
def PWs (W d : Nat → Nat) (k : Nat) (T : Nat → Bool) : Prop := ∀ i j, i < j → j < k → T i = true → T j = true → meR W d i j = true
def okk (W : Nat → Nat) (n : Nat) (d : Nat → Nat) (k : Nat) : Prop := ∀ T : Nat → Bool, T k = true → PWs W d (k + 1) T → fb_ct T (k + 1) ≤ n
def Fe (W : Nat → Nat) (n m : Nat) (d : Nat → Nat) : Prop := ∀ T : Nat → Bool, PWs W d m T → fb_ct T m ≤ n
theorem okk_Fe {W d : Nat → Nat} {n : Nat} : ∀ {m : Nat}, (∀ k, k < m → okk W n d k) → Fe W n m d
  | 0, _ => fun T _ => Nat.zero_le _
  | m + 1, h => fun T hT => by
    cases ht : T m with
    | true => exact h m (Nat.lt_succ_self m) T ht hT
    | false =>
      rw [ctF ht]
      exact okk_Fe (m := m) (fun k hk => h k (by omega)) T (fun i j h1 h2 => hT i j h1 (by omega))
theorem Fe_okk {W d : Nat → Nat} {n m k : Nat} (h : Fe W n m d) (hk : k < m) : okk W n d k := fun T _ hT => by
  have h1 := h (fun i => T i && decide (i ≤ k)) (fun i j h1 h2 h3 h4 => by
    simp only [Bool.and_eq_true, decide_eq_true_eq] at h3 h4
    exact hT i j h1 (by omega) h3.1 h4.1)
  have h2 : fb_ct T (k + 1) = fb_ct (fun i => T i && decide (i ≤ k)) (k + 1) := fb_ct_cong (fun i hi => by rw [decide_eq_true (by omega : i ≤ k), Bool.and_true])
  have h3 := fb_ct_mono (fun i => T i && decide (i ≤ k)) (show k + 1 ≤ m by omega)
  omega
theorem Fe_cong {W d e : Nat → Nat} {n m : Nat} (h : Fe W n m d) (he : ∀ i j, i < j → j < m → meR W e i j = true → meR W d i j = true) : Fe W n m e := fun T hT => h T (fun i j h1 h2 h3 h4 => he i j h1 h2 (hT i j h1 h2 h3 h4))
theorem okk_cong {W d e : Nat → Nat} {n k : Nat} (he : ∀ i, i ≤ k → d i = e i) (h : okk W n d k) : okk W n e k := fun T h1 hT => h T h1 (fun i j a1 a2 a3 a4 => by
  have := hT i j a1 a2 a3 a4
  unfold meR at this ⊢
  rw [he i (by omega), he j (by omega)]
  exact this)
theorem ct_swap {T : Nat → Bool} {m a b : Nat} (hab : a < b) (hb : b < m) : fb_ct (fun t => if t = b then T a else (if t = a then T b else T t)) m = fb_ct T m := by
  have u1 := fb_ct_upd (fun t => if t = a then T b else T t) (T a) (i := b) (n := m) hb
  have u2 := fb_ct_upd T (T b) (i := a) (n := m) (by omega)
  have u3 : (if b = a then T b else T b) = T b := by split <;> rfl
  rw [u3] at u1
  omega
theorem Fe_swap {W d e : Nat → Nat} {n m a b : Nat} (h : Fe W n m d) (hab : a < b) (hb : b < m) (hW : W a = W b) (ea : e a = d b) (eb : e b = d a) (eo : ∀ t, t ≠ a → t ≠ b → e t = d t) : Fe W n m e := fun T hT => by
  rw [← ct_swap (T := T) hab hb]
  refine h _ (fun i j h1 h2 h3 h4 => ?_)
  have key : ∀ x y, x < m → y < m → x ≠ y → T x = true → T y = true → mee (W x) (e x) (W y) (e y) = true := fun x y hx hy hne tx ty => by
    rcases Nat.lt_or_ge x y with q | q
    · exact hT x y q hy tx ty
    · rw [mee_comm]
      exact hT y x (by omega) hx ty tx
  have h3' : (if i = b then T a else (if i = a then T b else T i)) = true := h3
  have h4' : (if j = b then T a else (if j = a then T b else T j)) = true := h4
  unfold meR
  by_cases q1 : i = b
  · subst q1
    rw [if_pos rfl] at h3'
    rw [if_neg (by omega), if_neg (by omega)] at h4'
    have := key a j (by omega) h2 (by omega) h3' h4'
    rw [ea, eo j (by omega) (by omega), hW] at this
    exact this
  · rw [if_neg q1] at h3'
    by_cases q2 : i = a
    · subst q2
      rw [if_pos rfl] at h3'
      by_cases q3 : j = b
      · subst q3
        rw [if_pos rfl] at h4'
        have := key j i h2 (by omega) (by omega) h3' h4'
        rw [ea, eb] at this
        rw [hW] at this ⊢
        exact this
      · rw [if_neg q3, if_neg (by omega)] at h4'
        have := key b j hb h2 (by omega) h3' h4'
        rw [eb, eo j (by omega) q3, ← hW] at this
        exact this
    · rw [if_neg q2] at h3'
      by_cases q3 : j = b
      · subst q3
        rw [if_pos rfl] at h4'
        have := key i a (by omega) (by omega) q2 h3' h4'
        rw [ea, eo i q2 q1, hW] at this
        exact this
      · rw [if_neg q3] at h4'
        by_cases q4 : j = a
        · subst q4
          rw [if_pos rfl] at h4'
          have := key i b (by omega) hb (by omega) h3' h4'
          rw [eb, eo i q2 q1, ← hW] at this
          exact this
        · rw [if_neg q4] at h4'
          have := key i j (by omega) h2 (by omega) h3' h4'
          rw [eo i q2 q1, eo j q4 q3] at this
          exact this
/-! a search by places, in the order of rows -/
def GdR (lo : (Nat → Nat) → Nat → Nat) (hi : Nat → Nat) (ok : (Nat → Nat) → Nat → Prop) (m : Nat) (d : Nat → Nat) (k : Nat) : Prop := ∀ j, k ≤ j → j < m → lo d j ≤ d j ∧ d j < hi j ∧ ok d j
def LX (lo : (Nat → Nat) → Nat → Nat) (hi : Nat → Nat) (ok : (Nat → Nat) → Nat → Prop) (m : Nat) (k : Nat) (d : Nat → Nat) : Prop := GdR lo hi ok m d k ∧ ∀ e, (∀ i, i < k → e i = d i) → GdR lo hi ok m e k → ∀ j, k ≤ j → j < m → (∀ i, i < j → e i = d i) → d j ≤ e j
/-- the bounds of class and reference -/
def lcW (W : Nat → Nat) (k : Nat) : Nat := lcs 1 (fun _ => true) W k
def hiC (W : Nat → Nat) (k : Nat) : Nat := Nat.gcd (lcW W k) (W k)
def bR (W : Nat → Nat) (m k : Nat) : Nat := lcs 1 (fun j => decide (j ≠ k)) (fun j => Nat.gcd (W j) (W k)) m
def hiR (W : Nat → Nat) (m k : Nat) : Nat := if k = 0 then 1 else bR W m k
def loC (W : Nat → Nat) (d : Nat → Nat) (k : Nat) : Nat → Nat
  | 0 => 0
  | i + 1 => if W i = W k then d i else loC W d k i
def lo0 (_ : Nat → Nat) (_ : Nat) : Nat := 0
theorem bR_W {W : Nat → Nat} {m k : Nat} : bR W m k ∣ W k := lcs_dvd (Nat.one_dvd _) (fun j _ _ => Nat.gcd_dvd_right _ _)
theorem bR_in {W : Nat → Nat} {m k j : Nat} (hj : j < m) (h : j ≠ k) : Nat.gcd (W j) (W k) ∣ bR W m k := lcs_in (w := fun j => Nat.gcd (W j) (W k)) (p := fun j => decide (j ≠ k)) hj (decide_eq_true h)
theorem bR_pos {W : Nat → Nat} {m k : Nat} (hk : 0 < W k) : 0 < bR W m k := Nat.pos_of_dvd_of_pos bR_W hk
theorem mee_dvd {w d v e : Nat} : mee w d v e = true ↔ ((Nat.gcd w v : Nat) : Int) ∣ (d : Int) - e := by
  unfold mee
  rw [decide_eq_true_eq]
  exact ⟨Int.dvd_of_emod_eq_zero, Int.emod_eq_zero_of_dvd⟩
theorem GdR_Fe {lo : (Nat → Nat) → Nat → Nat} {hi W : Nat → Nat} {n m : Nat} {d : Nat → Nat} (h : GdR lo hi (okk W n) m d 0) : Fe W n m d := okk_Fe (fun k hk => (h k (Nat.zero_le _) hk).2.2)
theorem Fe_GdR {hi W : Nat → Nat} {n m : Nat} {d : Nat → Nat} (h : Fe W n m d) (hr : ∀ k, k < m → d k < hi k) : GdR lo0 hi (okk W n) m d 0 := fun j _ hj => ⟨Nat.zero_le _, hr j hj, Fe_okk h hj⟩
/-- two rows that differ by a shift, seen by the laws' common measures, meet alike -/
theorem shift_meet {W d e : Nat → Nat} {s : Int} {i j : Nat} (h1 : ((Nat.gcd (W i) (W j) : Nat) : Int) ∣ (e i : Int) - (d i + s)) (h2 : ((Nat.gcd (W i) (W j) : Nat) : Int) ∣ (e j : Int) - (d j + s)) (h : meR W e i j = true) : meR W d i j = true := by
  unfold meR at h ⊢
  rw [mee_dvd] at h ⊢
  have := Int.dvd_sub (Int.dvd_sub h h1) (Int.dvd_neg.mpr h2)
  rw [show ((e i : Int) - e j - (e i - (d i + s)) - -(e j - (d j + s))) = (d i : Int) - d j by omega] at this
  exact this
theorem gcd_dvd_int {a b : Nat} {x : Int} (h : (b : Int) ∣ x) : ((Nat.gcd a b : Nat) : Int) ∣ x := Int.dvd_trans (Int.natCast_dvd_natCast.mpr (Nat.gcd_dvd_right a b)) h
theorem gcd_dvd_int' {a b : Nat} {x : Int} (h : (a : Int) ∣ x) : ((Nat.gcd a b : Nat) : Int) ∣ x := Int.dvd_trans (Int.natCast_dvd_natCast.mpr (Nat.gcd_dvd_left a b)) h
theorem first_hi {W r : Nat → Nat} {n m : Nat} (hW : ∀ k, k < m → 0 < W k) (h : LX lo0 (hiR W m) (okk W n) m 0 r) : ∀ k, k < m → r k < hiC W k := fun k hk => by
  have hg := h.1
  by_cases k0 : k = 0
  · have := (hg 0 (Nat.le_refl _) (by omega)).2.1
    unfold hiR at this
    rw [if_pos rfl] at this
    rw [k0]
    unfold hiC lcW lcs
    rw [Nat.gcd_one_left]
    exact this
  rcases Nat.lt_or_ge (r k) (hiC W k) with q | q
  · exact q
  exfalso
  have hwk := hW k hk
  have hcp : 0 < hiC W k := Nat.gcd_pos_of_pos_right _ hwk
  obtain ⟨x, y, hxy⟩ := bez (lcW W k) (W k)
  have hsp : ((hiC W k : Nat) : Int) = (lcW W k : Int) * x + (W k : Int) * y := hxy.symm
  -- the shift is - lcW * x
  have hrk := (hg k (Nat.zero_le _) hk).2.1
  unfold hiR at hrk
  rw [if_neg k0] at hrk
  let s : Int := -((lcW W k : Int) * x)
  let e : Nat → Nat := fun i => if i < k then r i else if i = k then r k - hiC W k else (((r i : Int) + s) % (bR W m i : Int)).toNat
  have he : ∀ i, i < m → ∀ g : Nat, g ∣ W i → g ∣ (if k < i then bR W m i else W i) → (g : Int) ∣ (e i : Int) - (r i + s) := fun i hi g hgW hg2 => by
    show (g : Int) ∣ (((if i < k then r i else if i = k then r k - hiC W k else (((r i : Int) + s) % (bR W m i : Int)).toNat) : Nat) : Int) - (r i + s)
    rcases Nat.lt_trichotomy i k with u | u | u
    · rw [if_pos u, show (r i : Int) - (r i + s) = (lcW W k : Int) * x by show (r i : Int) - (r i + -((lcW W k : Int) * x)) = _; omega]
      exact Int.dvd_trans (Int.natCast_dvd_natCast.mpr (Nat.dvd_trans hgW (lcs_in (p := fun _ => true) u rfl))) (Int.dvd_mul_right _ _)
    · subst u
      rw [if_neg (Nat.lt_irrefl i), if_pos rfl, show ((r i - hiC W i : Nat) : Int) - (r i + s) = -((W i : Int) * y) by show ((r i - hiC W i : Nat) : Int) - (r i + -((lcW W i : Int) * x)) = _; omega]
      exact Int.dvd_neg.mpr (Int.dvd_trans (Int.natCast_dvd_natCast.mpr hgW) (Int.dvd_mul_right _ _))
    · rw [if_neg (by omega), if_neg (by omega)]
      rw [if_pos u] at hg2
      have hbp := bR_pos (m := m) (hW i hi)
      have m1 := Int.emod_nonneg ((r i : Int) + s) (b := (bR W m i : Int)) (by omega)
      have m3 := Int.emod_add_mul_ediv ((r i : Int) + s) (bR W m i : Int)
      rw [show ((((r i : Int) + s) % (bR W m i : Int)).toNat : Int) - (r i + s) = -((bR W m i : Int) * (((r i : Int) + s) / (bR W m i : Int))) by omega]
      exact Int.dvd_neg.mpr (Int.dvd_trans (Int.natCast_dvd_natCast.mpr hg2) (Int.dvd_mul_right _ _))
  have hFe : Fe W n m e := Fe_cong (GdR_Fe hg) (fun i j h1 h2 h3 => by
    refine shift_meet (s := s) (he i (by omega) _ (Nat.gcd_dvd_left _ _) ?_) (he j h2 _ (Nat.gcd_dvd_right _ _) ?_) h3
    · split
      · have := bR_in (W := W) (m := m) (k := i) (j := j) h2 (by omega)
        rw [Nat.gcd_comm] at this
        exact this
      · exact Nat.gcd_dvd_left _ _
    · split
      · exact bR_in (W := W) (m := m) (k := j) (j := i) (by omega) (by omega)
      · exact Nat.gcd_dvd_right _ _)
  have hGe : GdR lo0 (hiR W m) (okk W n) m e 0 := Fe_GdR hFe (fun i hi => by
    show (if i < k then r i else if i = k then r k - hiC W k else (((r i : Int) + s) % (bR W m i : Int)).toNat) < hiR W m i
    rcases Nat.lt_trichotomy i k with u | u | u
    · rw [if_pos u]
      exact (hg i (Nat.zero_le _) hi).2.1
    · subst u
      rw [if_neg (Nat.lt_irrefl i), if_pos rfl]
      unfold hiR
      rw [if_neg k0]
      omega
    · rw [if_neg (by omega), if_neg (by omega)]
      unfold hiR
      rw [if_neg (by omega)]
      have hbp := bR_pos (m := m) (hW i hi)
      have m1 := Int.emod_nonneg ((r i : Int) + s) (b := (bR W m i : Int)) (by omega)
      have m2 := Int.emod_lt_of_pos ((r i : Int) + s) (b := (bR W m i : Int)) (by omega)
      omega)
  have hlx := h.2 e (fun i hi => absurd hi (Nat.not_lt_zero i)) hGe k (Nat.zero_le _) hk (fun i hi => by
    show (if i < k then r i else _) = r i
    rw [if_pos hi])
  have hek : e k = r k - hiC W k := by
    show (if k < k then r k else if k = k then r k - hiC W k else _) = _
    rw [if_neg (Nat.lt_irrefl k), if_pos rfl]
  omega
theorem loC_at {W d : Nat → Nat} {k : Nat} : ∀ {i : Nat}, loC W d k i = 0 ∨ ∃ a, a < i ∧ W a = W k ∧ loC W d k i = d a
  | 0 => Or.inl rfl
  | i + 1 => by
    rw [loC]
    split
    · rename_i u
      exact Or.inr ⟨i, Nat.lt_succ_self i, u, rfl⟩
    · rcases loC_at (W := W) (d := d) (k := k) (i := i) with u | ⟨a, a1, a2⟩
      · exact Or.inl u
      · exact Or.inr ⟨a, by omega, a2⟩
theorem loC_cong {W d e : Nat → Nat} {k : Nat} : ∀ {i : Nat}, (∀ t, t < i → d t = e t) → loC W d k i = loC W e k i
  | 0, _ => rfl
  | i + 1, h => by
    rw [loC, loC, h i (Nat.lt_succ_self i), loC_cong (fun t ht => h t (by omega))]
theorem first_lo {W r : Nat → Nat} {n m : Nat} (hW : ∀ k, k < m → 0 < W k) (h : LX lo0 (hiR W m) (okk W n) m 0 r) : ∀ k, k < m → loC W r k k ≤ r k := fun k hk => by
  have hg := h.1
  rcases loC_at (W := W) (d := r) (k := k) (i := k) with u | ⟨a, a1, a2, a3⟩
  · omega
  rcases Nat.lt_or_ge (r k) (loC W r k k) with q | q
  · exfalso
    rw [a3] at q
    have ra := (hg a (Nat.zero_le _) (by omega)).2.1
    have rk := (hg k (Nat.zero_le _) hk).2.1
    unfold hiR at ra rk
    by_cases a0 : a = 0
    · rw [if_pos a0] at ra; omega
    rw [if_neg a0] at ra
    rw [if_neg (by omega)] at rk
    have b1 : bR W m k ≤ W k := Nat.le_of_dvd (hW k hk) bR_W
    have b2 : bR W m a ≤ W a := Nat.le_of_dvd (hW a (by omega)) bR_W
    have b3 : W a ≤ bR W m a := Nat.le_of_dvd (bR_pos (hW a (by omega))) (by
      have := bR_in (W := W) (m := m) (k := a) (j := k) hk (by omega)
      rw [← a2, Nat.gcd_self] at this
      exact this)
    have b4 : W k ≤ bR W m k := Nat.le_of_dvd (bR_pos (hW k hk)) (by
      have := bR_in (W := W) (m := m) (k := k) (j := a) (by omega) (by omega)
      rw [a2, Nat.gcd_self] at this
      exact this)
    have hFe := Fe_swap (e := fun i => if i = k then r a else if i = a then r k else r i) (GdR_Fe hg) a1 hk a2 (by show (if a = k then r a else if a = a then r k else r a) = r k; rw [if_neg (by omega), if_pos rfl]) (by show (if k = k then r a else _) = r a; rw [if_pos rfl]) (fun t h1 h2 => by show (if t = k then r a else if t = a then r k else r t) = r t; rw [if_neg h2, if_neg h1])
    have hGe := Fe_GdR (hi := hiR W m) hFe (fun i hi => by
      show (if i = k then r a else if i = a then r k else r i) < hiR W m i
      by_cases q1 : i = k
      · rw [if_pos q1, q1]
        unfold hiR
        rw [if_neg (by omega)]
        omega
      · rw [if_neg q1]
        by_cases q2 : i = a
        · rw [if_pos q2, q2]
          unfold hiR
          rw [if_neg a0]
          omega
        · rw [if_neg q2]
          exact (hg i (Nat.zero_le _) hi).2.1)
    have hlx := h.2 _ (fun i hi => absurd hi (Nat.not_lt_zero i)) hGe a (Nat.zero_le _) (by omega) (fun i hi => by
      show (if i = k then r a else if i = a then r k else r i) = r i
      rw [if_neg (by omega), if_neg (by omega)])
    have : (if a = k then r a else if a = a then r k else r a) = r k := by rw [if_neg (by omega), if_pos rfl]
    have hlx2 : r a ≤ (if a = k then r a else if a = a then r k else r a) := hlx
    omega
  · exact q
theorem weeks_in {W r : Nat → Nat} {n m : Nat} (hW : ∀ k, k < m → 0 < W k) (h : LX lo0 (hiR W m) (okk W n) m 0 r) : GdR (fun d k => loC W d k k) (hiC W) (okk W n) m r 0 := fun j h1 h2 => ⟨first_lo hW h j h2, first_hi hW h j h2, (h.1 j h1 h2).2.2⟩
/-- a row of the class's, brought into the reference's bounds -/
theorem weeks_red {W d : Nat → Nat} {n m : Nat} (hW : ∀ k, k < m → 0 < W k) (h : GdR (fun d k => loC W d k k) (hiC W) (okk W n) m d 0) : GdR lo0 (hiR W m) (okk W n) m (fun i => d i % bR W m i) 0 := by
  refine Fe_GdR (Fe_cong (GdR_Fe h) (fun i j h1 h2 h3 => ?_)) (fun k hk => ?_)
  · have sub : ∀ (x b : Nat) (g : Nat), g ∣ b → (g : Int) ∣ ((x % b : Nat) : Int) - (x + 0) := fun x b g hg => by
      have := Nat.mod_add_div x b
      rw [show ((x % b : Nat) : Int) - (x + 0) = -((b * (x / b) : Nat) : Int) by omega]
      exact Int.dvd_neg.mpr (Int.natCast_dvd_natCast.mpr (Nat.dvd_trans hg (Nat.dvd_mul_right _ _)))
    refine shift_meet (s := 0) (e := fun i => d i % bR W m i) (sub (d i) (bR W m i) _ ?_) (sub (d j) (bR W m j) _ ?_) h3
    · have := bR_in (W := W) (m := m) (k := i) (j := j) h2 (by omega)
      rw [Nat.gcd_comm] at this
      exact this
    · exact bR_in (W := W) (m := m) (k := j) (j := i) (by omega) (by omega)
  · show d k % bR W m k < hiR W m k
    unfold hiR
    have hm := Nat.mod_lt (d k) (bR_pos (m := m) (hW k hk))
    by_cases k0 : k = 0
    · rw [if_pos k0]
      have := (h 0 (Nat.le_refl _) (by omega)).2.1
      unfold hiC lcW lcs at this
      rw [Nat.gcd_one_left] at this
      rw [k0, show d 0 = 0 by omega, Nat.zero_mod]
      decide
    · rw [if_neg k0]
      exact hm
theorem weeks_same {W r d : Nat → Nat} {n m : Nat} (hW : ∀ k, k < m → 0 < W k) (hr : LX lo0 (hiR W m) (okk W n) m 0 r) (hd : LX (fun d k => loC W d k k) (hiC W) (okk W n) m 0 d) : ∀ k j, j < k → j < m → d j = r j
  | 0, j, h, _ => absurd h (Nat.not_lt_zero j)
  | k + 1, j, hj, hjm => by
    have ih := fun i (hi : i < j) => weeks_same hW hr hd k i (by omega) (by omega)
    have h1 := hd.2 r (fun i hi => absurd hi (Nat.not_lt_zero i)) (weeks_in hW hr) j (Nat.zero_le _) hjm (fun i hi => (ih i hi).symm)
    have h2 := hr.2 (fun i => d i % bR W m i) (fun i hi => absurd hi (Nat.not_lt_zero i)) (weeks_red hW hd.1) j (Nat.zero_le _) hjm (fun i hi => by
      show d i % bR W m i = r i
      rw [ih i hi]
      have := (hr.1 i (Nat.zero_le _) (by omega)).2.1
      unfold hiR at this
      by_cases i0 : i = 0
      · rw [if_pos i0] at this
        rw [show r i = 0 by omega, Nat.zero_mod]
      · rw [if_neg i0] at this
        exact Nat.mod_eq_of_lt this)
    have h3 := Nat.mod_le (d j) (bR W m j)
    have h4 : r j ≤ d j % bR W m j := h2
    omega
