/-! the start -/
def C0 : Cal := ((0, fun _ => 0, fun _ => 0), (0, fun _ => 0, fun _ => 0), 0, 0, fun _ => 0)
def S0 : Sta := (fun _ _ => 0, (0, fun _ => 0, fun _ => 0, fun _ => false), (0, fun _ => 0, fun _ => 0, fun _ => 0, fun _ => false), (0, fun _ => 0, fun _ => 0))
def W0 : Wsh := (0, fun _ => 0, fun _ => 0, fun _ => 0)
theorem rel_0 : Rel Mc_7 := by
  have z : ∀ {p : Nat → Prop} (i : Nat), i < 0 → p i := fun i hi => absurd hi (Nat.not_lt_zero i)
  refine ⟨C0, S0, W0, ?_, ?_, ?_, ?_, ?_, ?_, ?_, ?_, ?_, ?_, ?_, ?_⟩
  · exact ⟨⟨by decide, by decide, by decide, by decide⟩, fun l hl => absurd hl (Nat.not_lt_zero l), fun l hl => absurd hl (Nat.not_lt_zero l), fun l hl => absurd hl (Nat.not_lt_zero l), fun i j _ hj => absurd hj (Nat.not_lt_zero j), by decide⟩
  · exact ⟨⟨rfl, fun l hl => absurd hl (Nat.not_lt_zero l), fun l hl => absurd hl (Nat.not_lt_zero l), fun l hl => absurd hl (Nat.not_lt_zero l)⟩, ⟨rfl, fun l hl => absurd hl (Nat.not_lt_zero l), fun l hl => absurd hl (Nat.not_lt_zero l), fun l hl => absurd hl (Nat.not_lt_zero l)⟩, fun l hl => absurd hl (Nat.not_lt_zero l), ⟨rfl, rfl, rfl, rfl⟩, fun l hl => absurd hl (Nat.not_lt_zero l)⟩
  · exact ⟨⟨rfl, rfl, rfl, rfl, rfl, rfl⟩, fun l hl => absurd hl (Nat.not_lt_zero l), fun l hl => absurd hl (Nat.not_lt_zero l), fun l hl => absurd hl (Nat.not_lt_zero l), fun l hl => absurd hl (Nat.not_lt_zero l), fun l hl => absurd hl (Nat.not_lt_zero l)⟩
  · exact ⟨fun h l hh => absurd hh (Nat.not_lt_zero h), fun h l hh => absurd hh (Nat.not_lt_zero h), ⟨by decide, by decide, by decide⟩, fun l hl => absurd hl (Nat.not_lt_zero l), fun l hl => absurd hl (Nat.not_lt_zero l), fun l hl => absurd hl (Nat.not_lt_zero l)⟩
  · exact ⟨fun h l hh => absurd hh (Nat.not_lt_zero h), ⟨rfl, rfl, rfl⟩, fun l hl => absurd hl (Nat.not_lt_zero l), fun l hl => absurd hl (Nat.not_lt_zero l), fun l hl => absurd hl (Nat.not_lt_zero l)⟩
  · exact ⟨fun h l hh => absurd hh (Nat.not_lt_zero h), ⟨rfl, rfl, rfl⟩, fun l hl => absurd hl (Nat.not_lt_zero l), fun l hl => absurd hl (Nat.not_lt_zero l), fun l hl => absurd hl (Nat.not_lt_zero l)⟩
  · exact ⟨by decide, by decide, fun h => absurd h (by decide), fun l hl => absurd hl (Nat.not_lt_zero l)⟩
  · exact ⟨rfl, rfl, rfl, fun l hl => absurd hl (Nat.not_lt_zero l)⟩
  · exact ⟨rfl, rfl, fun l hl => absurd hl (Nat.not_lt_zero l)⟩
  · exact ⟨0, by decide, rfl, rfl, fun l hl => absurd hl (Nat.not_lt_zero l)⟩
  · exact ⟨0, fun _ => 0, by decide, rfl, rfl, fun l hl => absurd hl (Nat.not_lt_zero l)⟩
  · exact ⟨rfl, rfl, rfl, rfl⟩
