/-! WHAT BOTH HOLD -/
/-- own laws, other laws, houses, stills -/
def Cal : Type := (Nat × (Nat → Nat) × (Nat → Nat)) × (Nat × (Nat → Nat) × (Nat → Nat)) × Nat × Nat × (Nat → Nat)
def cN (C : Cal) : Nat := C.1.1
def cW (C : Cal) : Nat → Nat := C.1.2.1
def cD (C : Cal) : Nat → Nat := C.1.2.2
def oN (C : Cal) : Nat := C.2.1.1
def oW (C : Cal) : Nat → Nat := C.2.1.2.1
def oD (C : Cal) : Nat → Nat := C.2.1.2.2
def cH (C : Cal) : Nat := C.2.2.1
def cK (C : Cal) : Nat := C.2.2.2.1
def cS (C : Cal) : Nat → Nat := C.2.2.2.2
/-- the least number that t and the weeks of some laws divide -/
def lcs (t : Nat) (p : Nat → Bool) (w : Nat → Nat) : Nat → Nat
  | 0 => t
  | k + 1 => if p k = true then Nat.lcm (lcs t p w k) (w k) else lcs t p w k
def t4 (C : Cal) : Nat := lcs 1 (fun _ => true) (cW C) (cN C)
def t5 (C : Cal) : Nat := lcs (t4 C) (fun _ => true) (oW C) (oN C)
/-- how often the wheels were turned till a day -/
def tO (C : Cal) (d : Int) : Int := d - (fb_ct (fun i => decide ((cS C i : Int) < d)) (cK C) : Int)
def WFC (C : Cal) : Prop := (cN C ≤ 12 ∧ oN C ≤ 6 ∧ cH C ≤ 10 ∧ cK C ≤ 3) ∧ (∀ l, l < cN C → (2 ≤ cW C l ∧ cW C l ≤ 24) ∧ cD C l < cW C l) ∧ (∀ l, l < oN C → (2 ≤ oW C l ∧ oW C l ≤ 24) ∧ oD C l < oW C l) ∧ (∀ i, i < cK C → cS C i ≤ 99999) ∧ (∀ i j, i < j → j < cK C → cS C i ≠ cS C j) ∧ t5 C ≤ 100000
/-- bit i of a long -/
def lb (x : Int64) (i : Nat) : Bool := x.toBitVec.getLsbD i
def EvB (x : Int64) (w : Nat) : Prop := ∀ i, i < 64 → lb x i = decide (i % w = 0)
/-- the set of those below n that have p, as both make it -/
def ob (p : Nat → Bool) : Nat → Int32
  | 0 => zi 0
  | k + 1 => ob p k ||| (if p k = true then zi 1 <<< (zi k &&& zi 31) else zi 0)
def mee (w d v e : Nat) : Bool := decide (((d : Int) - e) % (Nat.gcd w v : Int) = 0)
def LawC (M : PM) (q n : Nat) (w d : Nat → Nat) : Prop := mI M q 4 = zi n ∧ (∀ l, l < n → mA M (q + 1) l = zi (w l)) ∧ (∀ l, l < n → mA M (q + 2) l = zi (d l)) ∧ (∀ l, l < n → EvB (mB M (q + 3) l) (w l))
def CalC (M : PM) (C : Cal) : Prop := LawC M 4 (cN C) (cW C) (cD C) ∧ LawC M 9 (oN C) (oW C) (oD C) ∧ (∀ l, l < cN C → mA M 8 l = ob (fun k => mee (cW C k) (cD C k) (cW C l) (cD C l)) (cN C)) ∧ (mI M 3 4 = zi (cH C) ∧ mI M 3 5 = zi (cK C) ∧ mI M 3 6 = zi (t4 C) ∧ mI M 3 7 = zi (t5 C)) ∧ (∀ i, i < cK C → mA M 15 i = zi (cS C i))
def CalM (M : PM) (C : Cal) : Prop := (mA M 103 0 = zi (cN C) ∧ mA M 103 1 = zi (oN C) ∧ mA M 103 2 = zi (cH C) ∧ mA M 103 3 = zi (cK C) ∧ mA M 103 4 = zi (t4 C) ∧ mA M 103 5 = zi (t5 C)) ∧ (∀ l, l < cN C → mA M 107 l = zi (cW C l)) ∧ (∀ l, l < cN C → mA M 109 l = zi (cD C l)) ∧ (∀ l, l < oN C → mA M 111 l = zi (oW C l)) ∧ (∀ l, l < oN C → mA M 113 l = zi (oD C l)) ∧ (∀ i, i < cK C → mA M 105 i = zi (cS C i))
/-- wheels; sights: law, ago, held; deeds: house, law, day, held; works: days, laws -/
def Sta : Type := (Nat → Nat → Nat) × (Nat × (Nat → Nat) × (Nat → Nat) × (Nat → Bool)) × (Nat × (Nat → Nat) × (Nat → Nat) × (Nat → Nat) × (Nat → Bool)) × (Nat × (Nat → Nat) × (Nat → Nat))
def aS (S : Sta) : Nat → Nat → Nat := S.1
def gN (S : Sta) : Nat := S.2.1.1
def gL (S : Sta) : Nat → Nat := S.2.1.2.1
def gA (S : Sta) : Nat → Nat := S.2.1.2.2.1
def gB (S : Sta) : Nat → Bool := S.2.1.2.2.2
def dN (S : Sta) : Nat := S.2.2.1.1
def dH (S : Sta) : Nat → Nat := S.2.2.1.2.1
def dL (S : Sta) : Nat → Nat := S.2.2.1.2.2.1
def dD (S : Sta) : Nat → Nat := S.2.2.1.2.2.2.1
def dB (S : Sta) : Nat → Bool := S.2.2.1.2.2.2.2
def kN (S : Sta) : Nat := S.2.2.2.1
def kD (S : Sta) : Nat → Nat := S.2.2.2.2.1
def kL (S : Sta) : Nat → Nat := S.2.2.2.2.2
def WFS (C : Cal) (S : Sta) : Prop := (∀ h l, h < cH C → l < cN C → aS S h l < cW C l) ∧ (∀ h l, h < cH C → cN C ≤ l → aS S h l = 0) ∧ (gN S ≤ 20 ∧ dN S ≤ 20 ∧ kN S ≤ 8) ∧ (∀ i, i < gN S → gL S i < cN C ∧ gA S i ≤ 9) ∧ (∀ i, i < dN S → dH S i < cH C ∧ dL S i < cN C ∧ dD S i ≤ 999999999) ∧ (∀ i, i < kN S → (1 ≤ kD S i ∧ kD S i ≤ 60) ∧ kL S i < 2 ^ cN C)
def StaC (M : PM) (C : Cal) (S : Sta) (q : Nat) : Prop := (∀ h l, h < cH C → l < 12 → mA M (q + 1) (h * 12 + l) = zi (aS S h l)) ∧ (mI M q 4 = zi (gN S) ∧ mI M q 9 = zi (dN S) ∧ mI M q 12 = zi (kN S)) ∧ (∀ i, i < gN S → mA M (q + 2) i = zi (gL S i) ∧ mA M (q + 3) i = zi (gA S i) ∧ mA M (q + 4) i = bb (gB S i)) ∧ (∀ i, i < dN S → mA M (q + 5) i = zi (dH S i) ∧ mA M (q + 6) i = zi (dL S i) ∧ mA M (q + 7) i = zi (tO C (dD S i)) ∧ mA M (q + 8) i = bb (dB S i)) ∧ (∀ i, i < kN S → mA M (q + 9) i = zi (kD S i) ∧ mA M (q + 10) i = zi (kL S i))
def StaM (M : PM) (C : Cal) (S : Sta) : Prop := (∀ h l, h < cH C → l < 12 → mG M 115 h l = zi (aS S h l)) ∧ (mI M 99 32 = zi (gN S) ∧ mI M 99 33 = zi (dN S) ∧ mI M 99 34 = zi (kN S)) ∧ (∀ i, i < gN S → mG M 119 i 0 = zi (gL S i) ∧ mG M 119 i 1 = zi (gA S i) ∧ mG M 119 i 2 = bb (gB S i)) ∧ (∀ i, i < dN S → mG M 120 i 0 = zi (dH S i) ∧ mG M 120 i 1 = zi (dL S i) ∧ mG M 120 i 2 = zi (dD S i) ∧ mG M 120 i 3 = bb (dB S i)) ∧ (∀ i, i < kN S → mG M 121 i 0 = zi (kD S i) ∧ mG M 121 i 1 = zi (kL S i))
/-- row r of the reference's images -/
def Kept (M : PM) (C : Cal) (S : Sta) (r : Nat) : Prop := (∀ h l, h < cH C → l < 12 → mG M 122 r (3 + (h * 12 + l)) = zi (aS S h l)) ∧ (mG M 122 r 0 = zi (gN S) ∧ mG M 122 r 1 = zi (dN S) ∧ mG M 122 r 2 = zi (kN S)) ∧ (∀ i, i < gN S → mG M 122 r (123 + i * 7) = zi (gL S i) ∧ mG M 122 r (124 + i * 7) = zi (gA S i) ∧ mG M 122 r (125 + i * 7) = bb (gB S i)) ∧ (∀ i, i < dN S → mG M 122 r (126 + i * 7) = zi (dH S i) ∧ mG M 122 r (127 + i * 7) = zi (dL S i) ∧ mG M 122 r (128 + i * 7) = zi (dD S i) ∧ mG M 122 r (129 + i * 7) = bb (dB S i)) ∧ (∀ i, i < kN S → mG M 122 r (263 + i * 2) = zi (kD S i) ∧ mG M 122 r (264 + i * 2) = zi (kL S i))
def ImgR (M : PM) (C : Cal) : Prop := ∃ n : Nat, n ≤ 3 ∧ mI M 0 5 = zi n ∧ mI M 99 35 = zi n ∧ ∀ r, r < n → ∃ S, WFS C S ∧ StaC M C S (43 + 11 * r) ∧ Kept M C S r
/-- a wish: how many parts; their sorts, firsts, seconds -/
def Wsh : Type := Nat × (Nat → Nat) × (Nat → Nat) × (Nat → Nat)
def hN (W : Wsh) : Nat := W.1
def hS (W : Wsh) : Nat → Nat := W.2.1
def hA (W : Wsh) : Nat → Nat := W.2.2.1
def hB (W : Wsh) : Nat → Nat := W.2.2.2
/-- how many stand on the stack ahead of part k -/
def hDep (W : Wsh) : Nat → Nat
  | 0 => 0
  | k + 1 => if hS W k < 5 then hDep W k + 1 else if hS W k = 5 then hDep W k else hDep W k - 1
def hT (C : Cal) (W : Wsh) : Nat := lcs (t5 C) (fun i => decide (hS W i = 2)) (hA W) (hN W)
def WFW (C : Cal) (W : Wsh) : Prop := hN W ≤ 100 ∧ hT C W ≤ 100000 ∧ (0 < hN W → 0 < hDep W (hN W)) ∧ ∀ i, i < hN W → hS W i ≤ 7 ∧ (hS W i = 0 → hA W i < cN C) ∧ (hS W i = 1 → hA W i ≤ 12) ∧ (hS W i = 2 → (2 ≤ hA W i ∧ hA W i ≤ 99) ∧ hB W i < hA W i) ∧ (hS W i = 3 → hA W i < cH C ∧ hB W i < cN C) ∧ (hS W i = 4 → hA W i < oN C) ∧ (hS W i = 5 → 1 ≤ hDep W i) ∧ (5 < hS W i → 2 ≤ hDep W i)
def WisC (M : PM) (C : Cal) (W : Wsh) : Prop := mI M 76 7 = zi (hN W) ∧ mI M 76 8 = bb (decide (0 < fb_ct (fun i => decide (hS W i = 1)) (hN W))) ∧ mI M 76 9 = zi (hT C W) ∧ ∀ i, i < hN W → mA M 77 i = zi (hS W i) ∧ mA M 78 i = zi (hA W i) ∧ mA M 79 i = zi (hB W i) ∧ (hS W i = 2 → EvB (mB M 80 i) (hA W i))
def WisM (M : PM) (C : Cal) (W : Wsh) : Prop := mI M 99 24 = zi (hN W) ∧ mI M 99 27 = zi (hT C W) ∧ ∀ i, i < hN W → mG M 116 i 0 = zi (hS W i) ∧ mG M 116 i 1 = zi (hA W i) ∧ mG M 116 i 2 = zi (hB W i)
def TapR (M : PM) : Prop := ∃ (t : Nat) (b : Nat → Nat), t ≤ 500 ∧ mI M 1 1 = zi t ∧ mI M 99 1 = zi t ∧ ∀ i, i < t → mA M 2 i = zi (b i) ∧ mA M 100 i = zi (b i) ∧ b i < 256
def CntR (M : PM) : Prop := mI M 0 13 = mI M 99 3 ∧ mI M 0 14 = mA M 101 0 ∧ mI M 0 15 = mA M 101 1 ∧ mI M 0 16 = mA M 101 2
def Rel (M : PM) : Prop := ∃ (C : Cal) (S : Sta) (W : Wsh), WFC C ∧ CalC M C ∧ CalM M C ∧ WFS C S ∧ StaC M C S 16 ∧ StaM M C S ∧ WFW C W ∧ WisC M C W ∧ WisM M C W ∧ ImgR M C ∧ TapR M ∧ CntR M
/-! what need not be kept over a call -/
def kIl : List (Nat × Nat) := [(0, 5), (0, 13), (0, 14), (0, 15), (0, 16), (1, 1), (3, 4), (3, 5), (3, 6), (3, 7), (4, 4), (9, 4), (16, 4), (16, 9), (16, 12), (43, 4), (43, 9), (43, 12), (54, 4), (54, 9), (54, 12), (65, 4), (65, 9), (65, 12), (76, 7), (76, 8), (76, 9), (99, 1), (99, 3), (99, 24), (99, 27), (99, 32), (99, 33), (99, 34), (99, 35)]
def kAl : List Nat := [2, 5, 6, 8, 10, 11, 15, 17, 18, 19, 20, 21, 22, 23, 24, 25, 26, 44, 45, 46, 47, 48, 49, 50, 51, 52, 53, 55, 56, 57, 58, 59, 60, 61, 62, 63, 64, 66, 67, 68, 69, 70, 71, 72, 73, 74, 75, 77, 78, 79, 100, 101, 103, 105, 107, 109, 111, 113]
def kBl : List Nat := [7, 12, 80]
def kGl : List Nat := [115, 116, 119, 120, 121, 122]
def Sam0 (M M' : PM) : Prop := (∀ p ∈ kIl, M'.1 p.1 p.2 = M.1 p.1 p.2) ∧ (∀ q ∈ kAl, M'.2.2.1 q = M.2.2.1 q) ∧ (∀ q ∈ kBl, M'.2.2.2.1 q = M.2.2.2.1 q) ∧ (∀ g ∈ kGl, ∀ i, M'.2.2.2.2 g i = M.2.2.2.2 g i)
def Sam (M M' : PM) : Prop := Sam0 M M' ∧ M'.2.2.2.1 129 = M.2.2.2.1 129
theorem Sam0.rf {M : PM} : Sam0 M M := ⟨fun _ _ => rfl, fun _ _ => rfl, fun _ _ => rfl, fun _ _ _ => rfl⟩
theorem Sam0.tr {M M1 M2 : PM} (h : Sam0 M M1) (g : Sam0 M1 M2) : Sam0 M M2 := ⟨fun p hp => (g.1 p hp).trans (h.1 p hp), fun p hp => (g.2.1 p hp).trans (h.2.1 p hp), fun p hp => (g.2.2.1 p hp).trans (h.2.2.1 p hp), fun p hp i => (g.2.2.2 p hp i).trans (h.2.2.2 p hp i)⟩
theorem Sam.rf {M : PM} : Sam M M := ⟨Sam0.rf, rfl⟩
theorem Sam.tr {M M1 M2 : PM} (h : Sam M M1) (g : Sam M1 M2) : Sam M M2 := ⟨h.1.tr g.1, g.2.trans h.2⟩
theorem Sam.i {M M1 : PM} (q k : Nat) (x : Int32) (hk : kIl.contains (q, k) = false) (h : Sam M M1) : Sam M (sI M1 q k x) := by
  refine h.tr ⟨⟨fun p hp => u2_ne (fun e => ?_), fun _ _ => rfl, fun _ _ => rfl, fun _ _ _ => rfl⟩, rfl⟩
  have e2 : p = (q, k) := Prod.ext e.1 e.2
  rw [e2] at hp
  exact absurd (List.contains_iff_mem.mpr hp) (by rw [hk]; decide)
theorem Sam.j {M M1 : PM} (q k : Nat) (x : Int64) (h : Sam M M1) : Sam M (sJ M1 q k x) := h
theorem Sam.a {M M1 : PM} (q k : Nat) (x : Int32) (hk : kAl.contains q = false) (h : Sam M M1) : Sam M (sA M1 q k x) := by
  refine h.tr ⟨⟨fun _ _ => rfl, fun p hp => u1_ne (fun e => ?_), fun _ _ => rfl, fun _ _ _ => rfl⟩, rfl⟩
  rw [e] at hp
  exact absurd (List.contains_iff_mem.mpr hp) (by rw [hk]; decide)
theorem Sam.b {M M1 : PM} (q k : Nat) (x : Int64) (hk : (129 :: kBl).contains q = false) (h : Sam M M1) : Sam M (sB M1 q k x) := by
  have h9 : ∀ p, p ∈ (129 :: kBl) → p ≠ q := fun p hp e => by
    rw [e] at hp
    exact absurd (List.contains_iff_mem.mpr hp) (by rw [hk]; decide)
  exact h.tr ⟨⟨fun _ _ => rfl, fun _ _ => rfl, fun p hp => u1_ne (h9 p (List.mem_cons_of_mem _ hp)), fun _ _ _ => rfl⟩, u1_ne (h9 129 List.mem_cons_self)⟩
theorem Sam.g {M M1 : PM} (q i k : Nat) (x : Int32) (hk : kGl.contains q = false) (h : Sam M M1) : Sam M (sG M1 q i k x) := by
  refine h.tr ⟨⟨fun _ _ => rfl, fun _ _ => rfl, fun _ _ => rfl, fun p hp j => u2_ne (fun e => ?_)⟩, rfl⟩
  rw [e.1] at hp
  exact absurd (List.contains_iff_mem.mpr hp) (by rw [hk]; decide)
theorem Sam0.out {M : PM} (k : Nat) (x : Int64) : Sam0 M (sB M 129 k x) := ⟨fun _ _ => rfl, fun _ _ => rfl, fun p hp => u1_ne (fun e => by rw [e] at hp; exact absurd hp (by decide)), fun _ _ _ => rfl⟩
theorem s0I {M M1 : PM} (h : Sam0 M M1) (q k : Nat) (hk : (q, k) ∈ kIl) : mI M1 q k = mI M q k := h.1 (q, k) hk
theorem s0A {M M1 : PM} (h : Sam0 M M1) (q : Nat) (hk : q ∈ kAl) : mA M1 q = mA M q := h.2.1 q hk
theorem s0B {M M1 : PM} (h : Sam0 M M1) (q : Nat) (hk : q ∈ kBl) : mB M1 q = mB M q := h.2.2.1 q hk
theorem s0G {M M1 : PM} (h : Sam0 M M1) (q i : Nat) (hk : q ∈ kGl) : mG M1 q i = mG M q i := h.2.2.2 q hk i
theorem CalC.sm {M M1 : PM} {C : Cal} (h : Sam0 M M1) (c : CalC M C) : CalC M1 C := by
  unfold CalC LawC at c ⊢
  simp only [s0I h 4 4 (by decide), s0I h 9 4 (by decide), s0I h 3 4 (by decide), s0I h 3 5 (by decide), s0I h 3 6 (by decide), s0I h 3 7 (by decide), s0A h (4 + 1) (by decide), s0A h (4 + 2) (by decide), s0A h (9 + 1) (by decide), s0A h (9 + 2) (by decide), s0A h 8 (by decide), s0A h 15 (by decide), s0B h (4 + 3) (by decide), s0B h (9 + 3) (by decide)]
  exact c
theorem CalM.sm {M M1 : PM} {C : Cal} (h : Sam0 M M1) (c : CalM M C) : CalM M1 C := by
  unfold CalM at c ⊢
  simp only [s0A h 103 (by decide), s0A h 105 (by decide), s0A h 107 (by decide), s0A h 109 (by decide), s0A h 111 (by decide), s0A h 113 (by decide)]
  exact c
theorem StaC.sm {M M1 : PM} {C : Cal} {S : Sta} {q : Nat} (h : Sam0 M M1) (hq : q = 16 ∨ q = 43 ∨ q = 54 ∨ q = 65) (c : StaC M C S q) : StaC M1 C S q := by
  unfold StaC at c ⊢
  have e1 : ∀ k, (k = 4 ∨ k = 9 ∨ k = 12) → mI M1 q k = mI M q k := fun k hk => by
    rcases hq with rfl | rfl | rfl | rfl <;> rcases hk with rfl | rfl | rfl <;> exact s0I h _ _ (by decide)
  have e2 : ∀ k, k < 10 → mA M1 (q + (k + 1)) = mA M (q + (k + 1)) := fun k hk => s0A h _ (by
    rcases hq with rfl | rfl | rfl | rfl
    · exact (by decide : ∀ k, k < 10 → 16 + (k + 1) ∈ kAl) k hk
    · exact (by decide : ∀ k, k < 10 → 43 + (k + 1) ∈ kAl) k hk
    · exact (by decide : ∀ k, k < 10 → 54 + (k + 1) ∈ kAl) k hk
    · exact (by decide : ∀ k, k < 10 → 65 + (k + 1) ∈ kAl) k hk)
  simp only [e1 4 (by decide), e1 9 (by decide), e1 12 (by decide), e2 0 (by decide), e2 1 (by decide), e2 2 (by decide), e2 3 (by decide), e2 4 (by decide), e2 5 (by decide), e2 6 (by decide), e2 7 (by decide), e2 8 (by decide), e2 9 (by decide)]
  exact c
theorem StaM.sm {M M1 : PM} {C : Cal} {S : Sta} (h : Sam0 M M1) (c : StaM M C S) : StaM M1 C S := by
  unfold StaM at c ⊢
  simp only [s0I h 99 32 (by decide), s0I h 99 33 (by decide), s0I h 99 34 (by decide), fun i => s0G h 115 i (by decide), fun i => s0G h 119 i (by decide), fun i => s0G h 120 i (by decide), fun i => s0G h 121 i (by decide)]
  exact c
theorem Kept.sm {M M1 : PM} {C : Cal} {S : Sta} {r : Nat} (h : Sam0 M M1) (c : Kept M C S r) : Kept M1 C S r := by
  unfold Kept at c ⊢
  simp only [fun i => s0G h 122 i (by decide)]
  exact c
theorem ImgR.sm {M M1 : PM} {C : Cal} (h : Sam0 M M1) (c : ImgR M C) : ImgR M1 C := by
  obtain ⟨n, h1, h2, h3, h4⟩ := c
  refine ⟨n, h1, (s0I h 0 5 (by decide)).trans h2, (s0I h 99 35 (by decide)).trans h3, fun r hr => ?_⟩
  obtain ⟨S, s1, s2, s3⟩ := h4 r hr
  refine ⟨S, s1, s2.sm h ?_, s3.sm h⟩
  have : r = 0 ∨ r = 1 ∨ r = 2 := by omega
  rcases this with rfl | rfl | rfl <;> simp
theorem WisC.sm {M M1 : PM} {C : Cal} {W : Wsh} (h : Sam0 M M1) (c : WisC M C W) : WisC M1 C W := by
  unfold WisC at c ⊢
  simp only [s0I h 76 7 (by decide), s0I h 76 8 (by decide), s0I h 76 9 (by decide), s0A h 77 (by decide), s0A h 78 (by decide), s0A h 79 (by decide), s0B h 80 (by decide)]
  exact c
theorem WisM.sm {M M1 : PM} {C : Cal} {W : Wsh} (h : Sam0 M M1) (c : WisM M C W) : WisM M1 C W := by
  unfold WisM at c ⊢
  simp only [s0I h 99 24 (by decide), s0I h 99 27 (by decide), fun i => s0G h 116 i (by decide)]
  exact c
theorem TapR.sm {M M1 : PM} (h : Sam0 M M1) (c : TapR M) : TapR M1 := by
  unfold TapR at c ⊢
  simp only [s0I h 1 1 (by decide), s0I h 99 1 (by decide), s0A h 2 (by decide), s0A h 100 (by decide)]
  exact c
theorem CntR.sm {M M1 : PM} (h : Sam0 M M1) (c : CntR M) : CntR M1 := by
  unfold CntR at c ⊢
  simp only [s0I h 0 13 (by decide), s0I h 0 14 (by decide), s0I h 0 15 (by decide), s0I h 0 16 (by decide), s0I h 99 3 (by decide), s0A h 101 (by decide)]
  exact c
theorem Rel.sm {M M1 : PM} (h : Sam0 M M1) (c : Rel M) : Rel M1 := by
  obtain ⟨C, S, W, h1, h2, h3, h4, h5, h6, h7, h8, h9, h10, h11, h12⟩ := c
  exact ⟨C, S, W, h1, h2.sm h, h3.sm h, h4, h5.sm h (Or.inl rfl), h6.sm h, h7, h8.sm h, h9.sm h, h10.sm h, h11.sm h, h12.sm h⟩
