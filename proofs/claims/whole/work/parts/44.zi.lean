/-! an int as the image of an integer -/
def zi (z : Int) : Int32 := Int32.ofInt z
theorem zi_add (a b : Int) : zi a + zi b = zi (a + b) := (Int32.ofInt_add a b).symm
theorem zi_sub (a b : Int) : zi a - zi b = zi (a - b) := (Int32.ofInt_sub a b).symm
theorem zi_mul (a b : Int) : zi a * zi b = zi (a * b) := (Int32.ofInt_mul a b).symm
theorem zi_neg (a : Int) : -zi a = zi (-a) := (Int32.ofInt_neg a).symm
theorem zi_lit (n : Nat) : (OfNat.ofNat n : Int32) = zi (n : Int) := rfl
theorem zi_nI (n : Nat) : nI n = zi (n : Int) := rfl
theorem zi_to {z : Int} (h : -2147483648 ≤ z ∧ z < 2147483648) : (zi z).toInt = z := Int32.toInt_ofInt_of_le (by omega) (by omega)
theorem zi_of (x : Int32) : zi x.toInt = x := Int32.ofInt_toInt x
theorem zi_lt {a b : Int} (ha : -2147483648 ≤ a ∧ a < 2147483648) (hb : -2147483648 ≤ b ∧ b < 2147483648) : (zi a < zi b) = (a < b) := by
  rw [Int32.lt_iff_toInt_lt, zi_to ha, zi_to hb]
theorem zi_le {a b : Int} (ha : -2147483648 ≤ a ∧ a < 2147483648) (hb : -2147483648 ≤ b ∧ b < 2147483648) : (zi a ≤ zi b) = (a ≤ b) := by
  rw [Int32.le_iff_toInt_le, zi_to ha, zi_to hb]
theorem zi_eq {a b : Int} (ha : -2147483648 ≤ a ∧ a < 2147483648) (hb : -2147483648 ≤ b ∧ b < 2147483648) : (zi a = zi b) = (a = b) := by
  rw [← Int32.toInt_inj, zi_to ha, zi_to hb]
theorem zi_ltT {a b : Int} (h : a < b) (hr : -2147483648 ≤ a ∧ b < 2147483648) : (zi a < zi b) = True := by
  rw [zi_lt (by omega) (by omega)]; exact eq_true h
theorem zi_ltF {a b : Int} (h : b ≤ a) (hr : -2147483648 ≤ b ∧ a < 2147483648) : (zi a < zi b) = False := by
  rw [zi_lt (by omega) (by omega)]; exact eq_false (by omega)
theorem zi_leT {a b : Int} (h : a ≤ b) (hr : -2147483648 ≤ a ∧ b < 2147483648) : (zi a ≤ zi b) = True := by
  rw [zi_le (by omega) (by omega)]; exact eq_true h
theorem zi_leF {a b : Int} (h : b < a) (hr : -2147483648 ≤ b ∧ a < 2147483648) : (zi a ≤ zi b) = False := by
  rw [zi_le (by omega) (by omega)]; exact eq_false (by omega)
theorem zi_eqT {a b : Int} (h : a = b) : (zi a = zi b) = True := by
  rw [h]; exact eq_self _
theorem zi_eqF {a b : Int} (h : a ≠ b) (hr : (-2147483648 ≤ a ∧ a < 2147483648) ∧ -2147483648 ≤ b ∧ b < 2147483648) : (zi a = zi b) = False := by
  rw [zi_eq hr.1 hr.2]; exact eq_false h
theorem zi_nat {z : Int} (h : 0 ≤ z ∧ z < 2147483648) : (zi z).toNatClampNeg = z.toNat := Int32.toNatClampNeg_ofInt_of_le (by omega) (by omega)
theorem zi_natN {k : Nat} (h : k < 2147483648) : (zi (k : Int)).toNatClampNeg = k := by
  rw [zi_nat (by omega), Int.toNat_natCast]
theorem zi_ixT {z : Int} {n : Nat} (h : 0 ≤ z ∧ z < n) (hn : n < 2147483648) : ixOK (zi z) n = true := by
  unfold ixOK
  have e1 : ¬ zi z < 0 := fun e => by
    have := zi_ltF (a := z) (b := 0) h.1 (by omega)
    exact this ▸ e
  rw [zi_nat (by omega), decide_eq_false e1]
  have e2 : z.toNat < n := by omega
  rw [decide_eq_true e2]
  rfl
theorem zi_div {a b : Int} (ha : 0 ≤ a ∧ a < 2147483648) (hb : 0 < b ∧ b < 2147483648) : zi a / zi b = zi (a / b) := by
  have h := Int32.ofInt_tdiv (a := a) (b := b) (by show (-2147483648 : Int) ≤ a; omega) (by show a ≤ (2147483647 : Int); omega) (by show (-2147483648 : Int) ≤ b; omega) (by show b ≤ (2147483647 : Int); omega)
  rw [Int.tdiv_eq_ediv_of_nonneg ha.1] at h
  exact h.symm
theorem zi_tdiv {a b : Int} (ha : -2147483648 ≤ a ∧ a < 2147483648) (hb : -2147483648 ≤ b ∧ b < 2147483648) : zi a / zi b = zi (a.tdiv b) := by
  exact (Int32.ofInt_tdiv (a := a) (b := b) (by show (-2147483648 : Int) ≤ a; omega) (by show a ≤ (2147483647 : Int); omega) (by show (-2147483648 : Int) ≤ b; omega) (by show b ≤ (2147483647 : Int); omega)).symm
theorem zi_rem {a b : Int} (ha : 0 ≤ a ∧ a < 2147483648) (hb : 0 < b ∧ b < 2147483648) : zi a - zi a / zi b * zi b = zi (a % b) := by
  rw [zi_div ha hb, zi_mul, zi_sub]
  congr 1
  have := Int.emod_def a b
  rw [Int.mul_comm] at this
  omega
theorem zi_trem {a b : Int} (ha : -2147483648 ≤ a ∧ a < 2147483648) (hb : 0 < b ∧ b < 2147483648) : zi a - zi a / zi b * zi b = zi (a.tmod b) := by
  rw [zi_tdiv ha (by omega), zi_mul, zi_sub]
  congr 1
  have := Int.tmod_def a b
  rw [Int.mul_comm] at this
  omega
theorem zi_rng (x : Int32) : ∃ z : Int, x = zi z ∧ -2147483648 ≤ z ∧ z < 2147483648 := ⟨x.toInt, (zi_of x).symm, fb_rng x⟩
theorem zb0 : zi 0 &&& zi 1 = zi 0 := by decide
theorem zb1 : zi 1 &&& zi 1 = zi 1 := by decide
theorem ltNT {a b : Nat} (h : a < b) : (a < b) = True := eq_true h
theorem zi_ne {a : Int} (h : a ≠ 0) (hr : -2147483648 ≤ a ∧ a < 2147483648) : ¬ zi a = 0 := fun e => h (by rw [show (0 : Int32) = zi 0 from rfl, zi_eq hr (by omega)] at e; exact e)
set_option maxRecDepth 10000 in
theorem zl : ((0 : Int32) = zi 0) ∧ ((1 : Int32) = zi 1) ∧ ((2 : Int32) = zi 2) ∧ ((3 : Int32) = zi 3) ∧ ((4 : Int32) = zi 4) ∧ ((5 : Int32) = zi 5) ∧ ((6 : Int32) = zi 6) ∧ ((7 : Int32) = zi 7) ∧ ((8 : Int32) = zi 8) ∧ ((9 : Int32) = zi 9) ∧ ((10 : Int32) = zi 10) ∧ ((11 : Int32) = zi 11) ∧ ((12 : Int32) = zi 12) ∧ ((13 : Int32) = zi 13) ∧ ((14 : Int32) = zi 14) ∧ ((15 : Int32) = zi 15) ∧ ((16 : Int32) = zi 16) ∧ ((17 : Int32) = zi 17) ∧ ((18 : Int32) = zi 18) ∧ ((19 : Int32) = zi 19) ∧ ((20 : Int32) = zi 20) ∧ ((21 : Int32) = zi 21) ∧ ((22 : Int32) = zi 22) ∧ ((23 : Int32) = zi 23) ∧ ((24 : Int32) = zi 24) ∧ ((25 : Int32) = zi 25) ∧ ((26 : Int32) = zi 26) ∧ ((27 : Int32) = zi 27) ∧ ((28 : Int32) = zi 28) ∧ ((29 : Int32) = zi 29) ∧ ((30 : Int32) = zi 30) ∧ ((31 : Int32) = zi 31) ∧ ((32 : Int32) = zi 32) ∧ ((33 : Int32) = zi 33) ∧ ((34 : Int32) = zi 34) ∧ ((35 : Int32) = zi 35) ∧ ((36 : Int32) = zi 36) ∧ ((37 : Int32) = zi 37) ∧ ((38 : Int32) = zi 38) ∧ ((39 : Int32) = zi 39) ∧ ((40 : Int32) = zi 40) ∧ ((41 : Int32) = zi 41) ∧ ((42 : Int32) = zi 42) ∧ ((43 : Int32) = zi 43) ∧ ((44 : Int32) = zi 44) ∧ ((45 : Int32) = zi 45) ∧ ((46 : Int32) = zi 46) ∧ ((47 : Int32) = zi 47) ∧ ((48 : Int32) = zi 48) ∧ ((49 : Int32) = zi 49) ∧ ((50 : Int32) = zi 50) ∧ ((51 : Int32) = zi 51) ∧ ((52 : Int32) = zi 52) ∧ ((53 : Int32) = zi 53) ∧ ((54 : Int32) = zi 54) ∧ ((55 : Int32) = zi 55) ∧ ((56 : Int32) = zi 56) ∧ ((57 : Int32) = zi 57) ∧ ((58 : Int32) = zi 58) ∧ ((59 : Int32) = zi 59) ∧ ((60 : Int32) = zi 60) ∧ ((61 : Int32) = zi 61) ∧ ((62 : Int32) = zi 62) ∧ ((63 : Int32) = zi 63) ∧ ((64 : Int32) = zi 64) ∧ ((65 : Int32) = zi 65) ∧ ((66 : Int32) = zi 66) ∧ ((67 : Int32) = zi 67) ∧ ((68 : Int32) = zi 68) ∧ ((69 : Int32) = zi 69) ∧ ((70 : Int32) = zi 70) ∧ ((71 : Int32) = zi 71) ∧ ((72 : Int32) = zi 72) ∧ ((73 : Int32) = zi 73) ∧ ((74 : Int32) = zi 74) ∧ ((75 : Int32) = zi 75) ∧ ((76 : Int32) = zi 76) ∧ ((77 : Int32) = zi 77) ∧ ((78 : Int32) = zi 78) ∧ ((79 : Int32) = zi 79) ∧ ((80 : Int32) = zi 80) ∧ ((81 : Int32) = zi 81) ∧ ((82 : Int32) = zi 82) ∧ ((83 : Int32) = zi 83) ∧ ((84 : Int32) = zi 84) ∧ ((85 : Int32) = zi 85) ∧ ((86 : Int32) = zi 86) ∧ ((87 : Int32) = zi 87) ∧ ((88 : Int32) = zi 88) ∧ ((89 : Int32) = zi 89) ∧ ((90 : Int32) = zi 90) ∧ ((91 : Int32) = zi 91) ∧ ((92 : Int32) = zi 92) ∧ ((93 : Int32) = zi 93) ∧ ((94 : Int32) = zi 94) ∧ ((95 : Int32) = zi 95) ∧ ((96 : Int32) = zi 96) ∧ ((97 : Int32) = zi 97) ∧ ((98 : Int32) = zi 98) ∧ ((99 : Int32) = zi 99) ∧ ((100 : Int32) = zi 100) ∧ ((101 : Int32) = zi 101) ∧ ((102 : Int32) = zi 102) ∧ ((103 : Int32) = zi 103) ∧ ((104 : Int32) = zi 104) ∧ ((105 : Int32) = zi 105) ∧ ((106 : Int32) = zi 106) ∧ ((107 : Int32) = zi 107) ∧ ((108 : Int32) = zi 108) ∧ ((109 : Int32) = zi 109) ∧ ((110 : Int32) = zi 110) ∧ ((111 : Int32) = zi 111) ∧ ((112 : Int32) = zi 112) ∧ ((113 : Int32) = zi 113) ∧ ((114 : Int32) = zi 114) ∧ ((115 : Int32) = zi 115) ∧ ((116 : Int32) = zi 116) ∧ ((117 : Int32) = zi 117) ∧ ((118 : Int32) = zi 118) ∧ ((119 : Int32) = zi 119) ∧ ((120 : Int32) = zi 120) ∧ ((121 : Int32) = zi 121) ∧ ((122 : Int32) = zi 122) ∧ ((123 : Int32) = zi 123) ∧ ((124 : Int32) = zi 124) ∧ ((125 : Int32) = zi 125) ∧ ((126 : Int32) = zi 126) ∧ ((127 : Int32) = zi 127) ∧ ((128 : Int32) = zi 128) ∧ ((200 : Int32) = zi 200) ∧ ((220 : Int32) = zi 220) ∧ ((255 : Int32) = zi 255) ∧ ((256 : Int32) = zi 256) ∧ ((279 : Int32) = zi 279) ∧ ((500 : Int32) = zi 500) ∧ ((999 : Int32) = zi 999) ∧ ((99999 : Int32) = zi 99999) ∧ ((100000 : Int32) = zi 100000) ∧ ((100001 : Int32) = zi 100001) ∧ ((100060 : Int32) = zi 100060) ∧ ((1000000 : Int32) = zi 1000000) ∧ ((252645135 : Int32) = zi 252645135) ∧ ((858993459 : Int32) = zi 858993459) ∧ ((999999999 : Int32) = zi 999999999) ∧ ((1000000001 : Int32) = zi 1000000001) ∧ ((1431655765 : Int32) = zi 1431655765) := ⟨rfl, rfl, rfl, rfl, rfl, rfl, rfl, rfl, rfl, rfl, rfl, rfl, rfl, rfl, rfl, rfl, rfl, rfl, rfl, rfl, rfl, rfl, rfl, rfl, rfl, rfl, rfl, rfl, rfl, rfl, rfl, rfl, rfl, rfl, rfl, rfl, rfl, rfl, rfl, rfl, rfl, rfl, rfl, rfl, rfl, rfl, rfl, rfl, rfl, rfl, rfl, rfl, rfl, rfl, rfl, rfl, rfl, rfl, rfl, rfl, rfl, rfl, rfl, rfl, rfl, rfl, rfl, rfl, rfl, rfl, rfl, rfl, rfl, rfl, rfl, rfl, rfl, rfl, rfl, rfl, rfl, rfl, rfl, rfl, rfl, rfl, rfl, rfl, rfl, rfl, rfl, rfl, rfl, rfl, rfl, rfl, rfl, rfl, rfl, rfl, rfl, rfl, rfl, rfl, rfl, rfl, rfl, rfl, rfl, rfl, rfl, rfl, rfl, rfl, rfl, rfl, rfl, rfl, rfl, rfl, rfl, rfl, rfl, rfl, rfl, rfl, rfl, rfl, rfl, rfl, rfl, rfl, rfl, rfl, rfl, rfl, rfl, rfl, rfl, rfl, rfl, rfl, rfl, rfl, rfl, rfl⟩
/-! answers -/
abbrev rI (x : Int32) (M : PM) : Option PR := some (.inl (some (.int x)), M)
abbrev rJ (x : Int64) (M : PM) : Option PR := some (.inl (some (.long x)), M)
abbrev rV (M : PM) : Option PR := some (.inl none, M)
abbrev rE (E : String) (M : PM) : Option PR := some (.inr E, M)
theorem cI_s (x : Int32) (M : PM) (k : Int32 → PM → Option PR) : cI (some (.inl (some (.int x)), M)) k = k x M := rfl
theorem cJ_s (x : Int64) (M : PM) (k : Int64 → PM → Option PR) : cJ (some (.inl (some (.long x)), M)) k = k x M := rfl
theorem cV_s (M : PM) (k : PM → Option PR) : cV (some (.inl none, M)) k = k M := rfl
theorem bI_s (x : Int32) (M : PM) (k : Int32 → PM → Option PR) : bI (some (.inl (some (.int x)), M)) k = k x M := rfl
theorem bI_e (E : String) (M : PM) (k : Int32 → PM → Option PR) : bI (some (.inr E, M)) k = some (.inr E, M) := rfl
theorem bV_s (M : PM) (k : PM → Option PR) : bV (some (.inl none, M)) k = k M := rfl
theorem bV_e (E : String) (M : PM) (k : PM → Option PR) : bV (some (.inr E, M)) k = some (.inr E, M) := rfl
theorem lt_z {α : Type} (x : α) (k : α → Option PR) : lt x k = k x := rfl
def bb (b : Bool) : Int32 := if b then zi 1 else zi 0
theorem bb_t : bb true = zi 1 := rfl
theorem bb_f : bb false = zi 0 := rfl
theorem bb_and (b : Bool) : bb b &&& zi 1 = bb b := by cases b <;> decide
theorem bb_0 (b : Bool) : (bb b = zi 0) = (b = false) := by cases b <;> decide
theorem bb_if (b : Bool) {α : Type} (x y : α) : (if bb b = zi 0 then x else y) = if b = true then y else x := by cases b <;> rfl
theorem FUEL_gt {k : Nat} (h : k < 4294967296) : k < FUEL := h
/-! loops -/
theorem loopS {σ : Type} (G : Nat → σ → Option PR) (Q : Option PR → Prop) (I : Nat → σ → Prop) (h : ∀ f r s, I r s → Q (G (f + 1) s) ∨ ∃ r' s', r' < r ∧ I r' s' ∧ G (f + 1) s = G f s') : ∀ r s f, I r s → r < f → Q (G f s) := by
  intro r
  induction r using Nat.strongRecOn with
  | ind r ih =>
    intro s f hI hf
    obtain ⟨f, rfl⟩ : ∃ g, f = g + 1 := ⟨f - 1, by omega⟩
    rcases h f r s hI with hq | ⟨r', s', h1, h2, h3⟩
    · exact hq
    · rw [h3]
      exact ih r' h1 s' f h2 (by omega)
theorem loopI (n : Nat) (G : Nat → Nat → Option PR) (Q : Option PR → Prop) (I : Nat → Prop) (hend : ∀ f, I n → Q (G (f + 1) n)) (hstep : ∀ f i, i < n → I i → Q (G (f + 1) i) ∨ (I (i + 1) ∧ G (f + 1) i = G f (i + 1))) (i f : Nat) (hi : i ≤ n) (h0 : I i) (hf : n - i < f) : Q (G f i) := by
  refine loopS G Q (fun r i => i ≤ n ∧ r = n - i ∧ I i) ?_ (n - i) i f ⟨hi, rfl, h0⟩ hf
  intro f r i ⟨h1, h2, h3⟩
  by_cases e : i = n
  · subst e; exact Or.inl (hend f h3)
  · rcases hstep f i (by omega) h3 with q | ⟨q1, q2⟩
    · exact Or.inl q
    · exact Or.inr ⟨n - (i + 1), i + 1, by omega, ⟨by omega, rfl, q1⟩, q2⟩
theorem loopU (n : Nat) (G : Nat → Nat → Option PR) (res : Option PR) (hend : ∀ f, G (f + 1) n = res) (hstep : ∀ f i, i < n → G (f + 1) i = G f (i + 1)) (i f : Nat) (hi : i ≤ n) (hf : n - i < f) : G f i = res :=
  loopI n G (fun o => o = res) (fun _ => True) (fun f _ => hend f) (fun f i h _ => Or.inr ⟨trivial, hstep f i h⟩) i f hi trivial hf
