/-! which things a function leaves as they were: all but those of the list S -/
def KP (S : List Nat) (M M' : PM) : Prop := ∀ q, q ∉ S → (∀ k, M'.1 q k = M.1 q k) ∧ (∀ k, M'.2.1 q k = M.2.1 q k) ∧ M'.2.2.1 q = M.2.2.1 q ∧ M'.2.2.2.1 q = M.2.2.2.1 q ∧ ∀ i, M'.2.2.2.2 q i = M.2.2.2.2 q i
def FRP (S : List Nat) (M0 : PM) (o : Option PR) : Prop := ∀ r, o = some r → KP S M0 r.2
section Frame
variable {S : List Nat} {M0 M M' : PM} {q0 : Nat}
theorem KP.rf : KP S M M := fun _ _ => ⟨fun _ => rfl, fun _ => rfl, rfl, rfl, fun _ => rfl⟩
theorem KP.trans (h : KP S M0 M) (g : KP S M M') : KP S M0 M' := fun q hq => by
  obtain ⟨a1, a2, a3, a4, a5⟩ := h q hq
  obtain ⟨b1, b2, b3, b4, b5⟩ := g q hq
  exact ⟨fun k => (b1 k).trans (a1 k), fun k => (b2 k).trans (a2 k), b3.trans a3, b4.trans a4, fun i => (b5 i).trans (a5 i)⟩
theorem kp_ne {q : Nat} (hq : q ∉ S) (h0 : q0 ∈ S) : q ≠ q0 := fun e => hq (e ▸ h0)
theorem kp_sI {k : Nat} {x : Int32} (h0 : q0 ∈ S) (h : KP S M0 M) : KP S M0 (sI M q0 k x) := fun q hq => by
  obtain ⟨a1, a2, a3, a4, a5⟩ := h q hq
  exact ⟨fun k2 => (u2_ne (fun e => kp_ne hq h0 e.1)).trans (a1 k2), a2, a3, a4, a5⟩
theorem kp_sJ {k : Nat} {x : Int64} (h0 : q0 ∈ S) (h : KP S M0 M) : KP S M0 (sJ M q0 k x) := fun q hq => by
  obtain ⟨a1, a2, a3, a4, a5⟩ := h q hq
  exact ⟨a1, fun k2 => (u2_ne (fun e => kp_ne hq h0 e.1)).trans (a2 k2), a3, a4, a5⟩
theorem kp_sA {k : Nat} {x : Int32} (h0 : q0 ∈ S) (h : KP S M0 M) : KP S M0 (sA M q0 k x) := fun q hq => by
  obtain ⟨a1, a2, a3, a4, a5⟩ := h q hq
  exact ⟨a1, a2, (u1_ne (kp_ne hq h0)).trans a3, a4, a5⟩
theorem kp_sB {k : Nat} {x : Int64} (h0 : q0 ∈ S) (h : KP S M0 M) : KP S M0 (sB M q0 k x) := fun q hq => by
  obtain ⟨a1, a2, a3, a4, a5⟩ := h q hq
  exact ⟨a1, a2, a3, (u1_ne (kp_ne hq h0)).trans a4, a5⟩
theorem kp_sG {i k : Nat} {x : Int32} (h0 : q0 ∈ S) (h : KP S M0 M) : KP S M0 (sG M q0 i k x) := fun q hq => by
  obtain ⟨a1, a2, a3, a4, a5⟩ := h q hq
  exact ⟨a1, a2, a3, a4, fun j => (u2_ne (fun e => kp_ne hq h0 e.1)).trans (a5 j)⟩
theorem kp_cA {q1 p1 p2 n : Nat} (h0 : q0 ∈ S) (h : KP S M0 M) : KP S M0 (cA M q1 q0 p1 p2 n) := fun q hq => by
  obtain ⟨a1, a2, a3, a4, a5⟩ := h q hq
  exact ⟨a1, a2, (u1_ne (kp_ne hq h0)).trans a3, a4, a5⟩
theorem kp_cB {q1 p1 p2 n : Nat} (h0 : q0 ∈ S) (h : KP S M0 M) : KP S M0 (cB M q1 q0 p1 p2 n) := fun q hq => by
  obtain ⟨a1, a2, a3, a4, a5⟩ := h q hq
  exact ⟨a1, a2, a3, (u1_ne (kp_ne hq h0)).trans a4, a5⟩
theorem fr_none : FRP S M0 none := fun r h => nomatch h
theorem fr_some {v : Option Value ⊕ String} (h : KP S M0 M) : FRP S M0 (some (v, M)) := fun r e => by cases e; exact h
theorem fr_if {c : Prop} [Decidable c] {a b : Option PR} (h1 : FRP S M0 a) (h2 : FRP S M0 b) : FRP S M0 (if c then a else b) := by
  by_cases h : c
  · rw [if_pos h]; exact h1
  · rw [if_neg h]; exact h2
theorem fr_lt {α : Type} {x : α} {k : α → Option PR} (h : ∀ y, FRP S M0 (k y)) : FRP S M0 (lt x k) := h x
theorem fr_ltM {x : PM} {k : PM → Option PR} (hx : KP S M0 x) (h : ∀ y, KP S M0 y → FRP S M0 (k y)) : FRP S M0 (lt x k) := h x hx
theorem fr_cI {f : Option PR} {k : Int32 → PM → Option PR} (h : FRP S M0 f) (hk : ∀ x M1, KP S M0 M1 → FRP S M0 (k x M1)) : FRP S M0 (cI f k) := by
  unfold cI
  split
  · rename_i x M1; exact hk x M1 (h _ rfl)
  · exact fr_none
theorem fr_cJ {f : Option PR} {k : Int64 → PM → Option PR} (h : FRP S M0 f) (hk : ∀ x M1, KP S M0 M1 → FRP S M0 (k x M1)) : FRP S M0 (cJ f k) := by
  unfold cJ
  split
  · rename_i x M1; exact hk x M1 (h _ rfl)
  · exact fr_none
theorem fr_cV {f : Option PR} {k : PM → Option PR} (h : FRP S M0 f) (hk : ∀ M1, KP S M0 M1 → FRP S M0 (k M1)) : FRP S M0 (cV f k) := by
  unfold cV
  split
  · rename_i M1; exact hk M1 (h _ rfl)
  · exact fr_none
theorem fr_bI {f : Option PR} {k : Int32 → PM → Option PR} (h : FRP S M0 f) (hk : ∀ x M1, KP S M0 M1 → FRP S M0 (k x M1)) : FRP S M0 (bI f k) := by
  unfold bI
  split
  · rename_i x M1; exact hk x M1 (h _ rfl)
  · rename_i E M1; exact fr_some (h _ rfl)
  · exact fr_none
theorem fr_bV {f : Option PR} {k : PM → Option PR} (h : FRP S M0 f) (hk : ∀ M1, KP S M0 M1 → FRP S M0 (k M1)) : FRP S M0 (bV f k) := by
  unfold bV
  split
  · rename_i M1; exact hk M1 (h _ rfl)
  · rename_i E M1; exact fr_some (h _ rfl)
  · exact fr_none
end Frame
