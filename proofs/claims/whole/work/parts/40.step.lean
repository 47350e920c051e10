/-! THE MATHEMATICS: one row a case -/
def OK_0 (Rel : PM → Prop) : Prop := ∀ (M : PM) (a1 : Int32) (a2 : Int32) (a3 : Int32) (a4 : Int32) (a5 : Int32), Rel M → ∃ M', c_0 M a1 a2 a3 a4 a5 = some M' ∧ Rel M'
def OK_1 (Rel : PM → Prop) : Prop := ∀ (M : PM) (a1 : Int32), Rel M → ∃ M', c_1 M a1 = some M' ∧ Rel M'
def OK_2 (Rel : PM → Prop) : Prop := ∀ (M : PM) (a1 : Int32), Rel M → ∃ M', c_2 M a1 = some M' ∧ Rel M'
def OK_3 (Rel : PM → Prop) : Prop := ∀ (M : PM), Rel M → ∃ M', c_3 M  = some M' ∧ Rel M'
def OK_4 (Rel : PM → Prop) : Prop := ∀ (M : PM) (a1 : Int32), Rel M → ∃ M', c_4 M a1 = some M' ∧ Rel M'
def OK_5 (Rel : PM → Prop) : Prop := ∀ (M : PM) (a1 : Int32) (a2 : Int32), Rel M → ∃ M', c_5 M a1 a2 = some M' ∧ Rel M'
def OK_6 (Rel : PM → Prop) : Prop := ∀ (M : PM) (a1 : Int32) (a2 : Int32), Rel M → ∃ M', c_6 M a1 a2 = some M' ∧ Rel M'
def OK_7 (Rel : PM → Prop) : Prop := ∀ (M : PM) (a1 : Int32) (a2 : Int32) (a3 : Int32), Rel M → ∃ M', c_7 M a1 a2 a3 = some M' ∧ Rel M'
def OK_8 (Rel : PM → Prop) : Prop := ∀ (M : PM) (a1 : Int32), Rel M → ∃ M', c_8 M a1 = some M' ∧ Rel M'
def OK_9 (Rel : PM → Prop) : Prop := ∀ (M : PM) (a1 : Int32), Rel M → ∃ M', c_9 M a1 = some M' ∧ Rel M'
def OK_10 (Rel : PM → Prop) : Prop := ∀ (M : PM) (a1 : Int32) (a2 : Int32), Rel M → ∃ M', c_10 M a1 a2 = some M' ∧ Rel M'
def OK_11 (Rel : PM → Prop) : Prop := ∀ (M : PM) (a1 : Int32), Rel M → ∃ M', c_11 M a1 = some M' ∧ Rel M'
def OK_12 (Rel : PM → Prop) : Prop := ∀ (M : PM) (a1 : Int32), Rel M → ∃ M', c_12 M a1 = some M' ∧ Rel M'
def OK_13 (Rel : PM → Prop) : Prop := ∀ (M : PM) (a1 : Int32), Rel M → ∃ M', c_13 M a1 = some M' ∧ Rel M'
def OK_14 (Rel : PM → Prop) : Prop := ∀ (M : PM) (a1 : Int32), Rel M → ∃ M', c_14 M a1 = some M' ∧ Rel M'
def OK_15 (Rel : PM → Prop) : Prop := ∀ (M : PM) (a1 : Int32), Rel M → ∃ M', c_15 M a1 = some M' ∧ Rel M'
def OK_16 (Rel : PM → Prop) : Prop := ∀ (M : PM) (a1 : Int32), Rel M → ∃ M', c_16 M a1 = some M' ∧ Rel M'
def OK_17 (Rel : PM → Prop) : Prop := ∀ (M : PM) (a1 : Int32), Rel M → ∃ M', c_17 M a1 = some M' ∧ Rel M'
def OK_18 (Rel : PM → Prop) : Prop := ∀ (M : PM) (a1 : Int32) (a2 : Int32), Rel M → ∃ M', c_18 M a1 a2 = some M' ∧ Rel M'
def OK_19 (Rel : PM → Prop) : Prop := ∀ (M : PM) (a1 : Int32) (a2 : Int32) (a3 : Int32), Rel M → ∃ M', c_19 M a1 a2 a3 = some M' ∧ Rel M'
def OK_20 (Rel : PM → Prop) : Prop := ∀ (M : PM) (a1 : Int32), Rel M → ∃ M', c_20 M a1 = some M' ∧ Rel M'
def OK_21 (Rel : PM → Prop) : Prop := ∀ (M : PM) (a1 : Int32) (a2 : Int32) (a3 : Int32), Rel M → ∃ M', c_21 M a1 a2 a3 = some M' ∧ Rel M'
def OK_22 (Rel : PM → Prop) : Prop := ∀ (M : PM) (a1 : Int32) (a2 : Int32) (a3 : Int32), Rel M → ∃ M', c_22 M a1 a2 a3 = some M' ∧ Rel M'
def OK_23 (Rel : PM → Prop) : Prop := ∀ (M : PM) (a1 : Int32), Rel M → ∃ M', c_23 M a1 = some M' ∧ Rel M'
def OK_24 (Rel : PM → Prop) : Prop := ∀ (M : PM) (a1 : Int32), Rel M → ∃ M', c_24 M a1 = some M' ∧ Rel M'
def OK_25 (Rel : PM → Prop) : Prop := ∀ (M : PM) (a1 : Int32) (a2 : Int32) (a3 : Int32) (a4 : Int32), Rel M → ∃ M', c_25 M a1 a2 a3 a4 = some M' ∧ Rel M'
def OK_26 (Rel : PM → Prop) : Prop := ∀ (M : PM) (a1 : Int32) (a2 : Int32), Rel M → ∃ M', c_26 M a1 a2 = some M' ∧ Rel M'
def OK_27 (Rel : PM → Prop) : Prop := ∀ (M : PM), Rel M → ∃ M', c_27 M  = some M' ∧ Rel M'
def OK_28 (Rel : PM → Prop) : Prop := ∀ (M : PM) (a1 : Int32), Rel M → ∃ M', c_28 M a1 = some M' ∧ Rel M'
def OK_29 (Rel : PM → Prop) : Prop := ∀ (M : PM) (a1 : Int32) (a2 : Int32), Rel M → ∃ M', c_29 M a1 a2 = some M' ∧ Rel M'
def OK_30 (Rel : PM → Prop) : Prop := ∀ (M : PM) (a1 : Int32) (a2 : Int32), Rel M → ∃ M', c_30 M a1 a2 = some M' ∧ Rel M'
def OK_31 (Rel : PM → Prop) : Prop := ∀ (M : PM) (a1 : Int32) (a2 : Int32), Rel M → ∃ M', c_31 M a1 a2 = some M' ∧ Rel M'
def OK_32 (Rel : PM → Prop) : Prop := ∀ (M : PM) (a1 : Int32) (a2 : Int32), Rel M → ∃ M', c_32 M a1 a2 = some M' ∧ Rel M'
def OK_33 (Rel : PM → Prop) : Prop := ∀ (M : PM), Rel M → ∃ M', c_33 M  = some M' ∧ Rel M'
def OK_34 (Rel : PM → Prop) : Prop := ∀ (M : PM) (a1 : Int32) (a2 : Int32), Rel M → ∃ M', c_34 M a1 a2 = some M' ∧ Rel M'
def OK_35 (Rel : PM → Prop) : Prop := ∀ (M : PM) (a1 : Int32) (a2 : Int32), Rel M → ∃ M', c_35 M a1 a2 = some M' ∧ Rel M'
def OK_36 (Rel : PM → Prop) : Prop := ∀ (M : PM) (a1 : Int32) (a2 : Int32), Rel M → ∃ M', c_36 M a1 a2 = some M' ∧ Rel M'
def OK_37 (Rel : PM → Prop) : Prop := ∀ (M : PM) (a1 : Int32) (a2 : Int32) (a3 : Int32), Rel M → ∃ M', c_37 M a1 a2 a3 = some M' ∧ Rel M'
def OK_38 (Rel : PM → Prop) : Prop := ∀ (M : PM), Rel M → ∃ M', c_38 M  = some M' ∧ Rel M'
def OK_39 (Rel : PM → Prop) : Prop := ∀ (M : PM), Rel M → ∃ M', c_39 M  = some M' ∧ Rel M'
def OK_40 (Rel : PM → Prop) : Prop := ∀ (M : PM) (a1 : Int32), Rel M → ∃ M', c_40 M a1 = some M' ∧ Rel M'
def OK_41 (Rel : PM → Prop) : Prop := ∀ (M : PM) (a1 : Int32), Rel M → ∃ M', c_41 M a1 = some M' ∧ Rel M'
theorem step_of {Rel : PM → Prop} (h0 : OK_0 Rel) (h1 : OK_1 Rel) (h2 : OK_2 Rel) (h3 : OK_3 Rel) (h4 : OK_4 Rel) (h5 : OK_5 Rel) (h6 : OK_6 Rel) (h7 : OK_7 Rel) (h8 : OK_8 Rel) (h9 : OK_9 Rel) (h10 : OK_10 Rel) (h11 : OK_11 Rel) (h12 : OK_12 Rel) (h13 : OK_13 Rel) (h14 : OK_14 Rel) (h15 : OK_15 Rel) (h16 : OK_16 Rel) (h17 : OK_17 Rel) (h18 : OK_18 Rel) (h19 : OK_19 Rel) (h20 : OK_20 Rel) (h21 : OK_21 Rel) (h22 : OK_22 Rel) (h23 : OK_23 Rel) (h24 : OK_24 Rel) (h25 : OK_25 Rel) (h26 : OK_26 Rel) (h27 : OK_27 Rel) (h28 : OK_28 Rel) (h29 : OK_29 Rel) (h30 : OK_30 Rel) (h31 : OK_31 Rel) (h32 : OK_32 Rel) (h33 : OK_33 Rel) (h34 : OK_34 Rel) (h35 : OK_35 Rel) (h36 : OK_36 Rel) (h37 : OK_37 Rel) (h38 : OK_38 Rel) (h39 : OK_39 Rel) (h40 : OK_40 Rel) (h41 : OK_41 Rel) (xs : Nat → Int32) (i : Int32) (M : PM) (h : Rel M) : ∃ M', F_step xs i M = some M' ∧ Rel M' := by
  unfold F_step
  generalize xs i.toNatClampNeg &&& 63 = op
  by_cases e0 : op = 0
  · rw [if_pos e0]; exact h0 M _ _ _ _ _  h
  rw [if_neg e0]
  by_cases e1 : op = 1
  · rw [if_pos e1]; exact h1 M _  h
  rw [if_neg e1]
  by_cases e2 : op = 2
  · rw [if_pos e2]; exact h2 M _  h
  rw [if_neg e2]
  by_cases e3 : op = 3
  · rw [if_pos e3]; exact h3 M  h
  rw [if_neg e3]
  by_cases e4 : op = 4
  · rw [if_pos e4]; exact h4 M _  h
  rw [if_neg e4]
  by_cases e5 : op = 5
  · rw [if_pos e5]; exact h5 M _ _  h
  rw [if_neg e5]
  by_cases e6 : op = 6
  · rw [if_pos e6]; exact h6 M _ _  h
  rw [if_neg e6]
  by_cases e7 : op = 7
  · rw [if_pos e7]; exact h7 M _ _ _  h
  rw [if_neg e7]
  by_cases e8 : op = 8
  · rw [if_pos e8]; exact h8 M _  h
  rw [if_neg e8]
  by_cases e9 : op = 9
  · rw [if_pos e9]; exact h9 M _  h
  rw [if_neg e9]
  by_cases e10 : op = 10
  · rw [if_pos e10]; exact h10 M _ _  h
  rw [if_neg e10]
  by_cases e11 : op = 11
  · rw [if_pos e11]; exact h11 M _  h
  rw [if_neg e11]
  by_cases e12 : op = 12
  · rw [if_pos e12]; exact h12 M _  h
  rw [if_neg e12]
  by_cases e13 : op = 13
  · rw [if_pos e13]; exact h13 M _  h
  rw [if_neg e13]
  by_cases e14 : op = 14
  · rw [if_pos e14]; exact h14 M _  h
  rw [if_neg e14]
  by_cases e15 : op = 15
  · rw [if_pos e15]; exact h15 M _  h
  rw [if_neg e15]
  by_cases e16 : op = 16
  · rw [if_pos e16]; exact h16 M _  h
  rw [if_neg e16]
  by_cases e17 : op = 17
  · rw [if_pos e17]; exact h17 M _  h
  rw [if_neg e17]
  by_cases e18 : op = 18
  · rw [if_pos e18]; exact h18 M _ _  h
  rw [if_neg e18]
  by_cases e19 : op = 19
  · rw [if_pos e19]; exact h19 M _ _ _  h
  rw [if_neg e19]
  by_cases e20 : op = 20
  · rw [if_pos e20]; exact h20 M _  h
  rw [if_neg e20]
  by_cases e21 : op = 21
  · rw [if_pos e21]; exact h21 M _ _ _  h
  rw [if_neg e21]
  by_cases e22 : op = 22
  · rw [if_pos e22]; exact h22 M _ _ _  h
  rw [if_neg e22]
  by_cases e23 : op = 23
  · rw [if_pos e23]; exact h23 M _  h
  rw [if_neg e23]
  by_cases e24 : op = 24
  · rw [if_pos e24]; exact h24 M _  h
  rw [if_neg e24]
  by_cases e25 : op = 25
  · rw [if_pos e25]; exact h25 M _ _ _ _  h
  rw [if_neg e25]
  by_cases e26 : op = 26
  · rw [if_pos e26]; exact h26 M _ _  h
  rw [if_neg e26]
  by_cases e27 : op = 27
  · rw [if_pos e27]; exact h27 M  h
  rw [if_neg e27]
  by_cases e28 : op = 28
  · rw [if_pos e28]; exact h28 M _  h
  rw [if_neg e28]
  by_cases e29 : op = 29
  · rw [if_pos e29]; exact h29 M _ _  h
  rw [if_neg e29]
  by_cases e30 : op = 30
  · rw [if_pos e30]; exact h30 M _ _  h
  rw [if_neg e30]
  by_cases e31 : op = 31
  · rw [if_pos e31]; exact h31 M _ _  h
  rw [if_neg e31]
  by_cases e32 : op = 32
  · rw [if_pos e32]; exact h32 M _ _  h
  rw [if_neg e32]
  by_cases e33 : op = 33
  · rw [if_pos e33]; exact h33 M  h
  rw [if_neg e33]
  by_cases e34 : op = 34
  · rw [if_pos e34]; exact h34 M _ _  h
  rw [if_neg e34]
  by_cases e35 : op = 35
  · rw [if_pos e35]; exact h35 M _ _  h
  rw [if_neg e35]
  by_cases e36 : op = 36
  · rw [if_pos e36]; exact h36 M _ _  h
  rw [if_neg e36]
  by_cases e37 : op = 37
  · rw [if_pos e37]; exact h37 M _ _ _  h
  rw [if_neg e37]
  by_cases e38 : op = 38
  · rw [if_pos e38]; exact h38 M  h
  rw [if_neg e38]
  by_cases e39 : op = 39
  · rw [if_pos e39]; exact h39 M  h
  rw [if_neg e39]
  by_cases e40 : op = 40
  · rw [if_pos e40]; exact h40 M _  h
  rw [if_neg e40]
  by_cases e41 : op = 41
  · rw [if_pos e41]; exact h41 M _  h
  rw [if_neg e41]
  exact ⟨M, rfl, h⟩
