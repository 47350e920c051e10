/-! together -/
/-- all laws of L below k hold on t -/
def sol (C : Cal) (L k : Nat) (t : Int) : Bool := noB (fun l => L.testBit l && !hb (cW C l) (cD C l) t) k
theorem sol_succ (C : Cal) (L k : Nat) (t : Int) : sol C L (k + 1) t = (sol C L k t && !(L.testBit k && !hb (cW C k) (cD C k) t)) := noB_succ _ _
theorem sol_mono {C : Cal} {L : Nat} {t : Int} {k n : Nat} (h : k ≤ n) (hs : sol C L n t = true) : sol C L k t = true := by
  unfold sol noB at *
  have h1 : fb_ct (fun l => L.testBit l && !hb (cW C l) (cD C l) t) n = 0 := of_decide_eq_true hs
  have h2 := fb_ct_mono (fun l => L.testBit l && !hb (cW C l) (cD C l) t) h
  exact decide_eq_true (by omega)
theorem inner28 {M : PM} {C : Cal} {L l x T : Nat} {k : PM → Int32 → Int32 → Int32 → Int32 → Option PR} (hc : WFC C) (c : CalC M C) (hl : l < cN C) (hx : x < T) (hT : T ≤ 100000) : (∃ m, m < cW C l ∧ hb (cW C l) (cD C l) ((x + T * m : Nat) : Int) = true ∧ (∀ j, j < m → hb (cW C l) (cD C l) ((x + T * j : Nat) : Int) = false) ∧ F_X2_firstDayOfAll_4_28 k FUEL M (zi L) (zi x) (zi T) (zi l) (zi 0) = k M (zi L) (zi ((x + T * m : Nat))) (zi (Nat.lcm T (cW C l))) (zi ((l + 1 : Nat)))) ∨ ((∀ j, j < cW C l → hb (cW C l) (cD C l) ((x + T * j : Nat) : Int) = false) ∧ F_X2_firstDayOfAll_4_28 k FUEL M (zi L) (zi x) (zi T) (zi l) (zi 0) = rI (zi (-1)) M) := by
  have hn := hc.1.1
  have hw := hc.2.1 l hl
  have hbd : ∀ m, m ≤ cW C l → x + T * m < 3000000 := fun m hm => by
    have : T * m ≤ 100000 * 24 := Nat.mul_le_mul hT (by omega)
    omega
  have hh : ∀ m, m ≤ cW C l → F_X2_isHeld_4 M (zi l) (zi ((x + T * m : Nat))) = rI (bb (hb (cW C l) (cD C l) ((x + T * m : Nat) : Int))) M := fun m hm => by
    have := hbd m hm
    exact isHeld_s c.1.1 hn c.1.2.1 c.1.2.2.1 hc.2.1 hl (by omega)
  have a5 : mA M 5 (zi (l : Int)).toNatClampNeg = zi (cW C l) := by rw [zi_natN (by omega)]; exact c.1.2.1 l hl
  have hix : ixOK (zi (l : Int)) 12 = true := zi_ixT (by omega) (by omega)
  have ct := commonTurn_s (M := M) (a := T) (b := cW C l) hT (by omega)
  refine loopI (cW C l) (fun f s => F_X2_firstDayOfAll_4_28 k f M (zi L) (zi ((x + T * s : Nat))) (zi T) (zi l) (zi (s : Nat))) (fun o => (∃ m, m < cW C l ∧ hb (cW C l) (cD C l) ((x + T * m : Nat) : Int) = true ∧ (∀ j, j < m → hb (cW C l) (cD C l) ((x + T * j : Nat) : Int) = false) ∧ o = k M (zi L) (zi ((x + T * m : Nat))) (zi (Nat.lcm T (cW C l))) (zi ((l + 1 : Nat)))) ∨ ((∀ j, j < cW C l → hb (cW C l) (cD C l) ((x + T * j : Nat) : Int) = false) ∧ o = rI (zi (-1)) M)) (fun s => ∀ j, j < s → hb (cW C l) (cD C l) ((x + T * j : Nat) : Int) = false) (fun f hI => ?_) (fun f s hs hI => ?_) 0 FUEL (Nat.zero_le _) (fun j hj => absurd hj (Nat.not_lt_zero j)) (FUEL_gt (by omega))
  · right
    refine ⟨hI, ?_⟩
    have e : hb (cW C l) (cD C l) ((x + T * cW C l : Nat) : Int) = false := by
      have := hI 0 (by omega)
      rw [Nat.mul_zero, Nat.add_zero] at this
      have h2 := hb_per (w := cW C l) (d := cD C l) (T := cW C l) (t := (x : Int)) (m := (T : Int)) (Nat.dvd_refl _)
      rw [this] at h2
      rw [show ((x + T * cW C l : Nat) : Int) = (x : Int) + (cW C l : Int) * (T : Int) by rw [Nat.mul_comm, Int.natCast_add, Int.natCast_mul]]
      exact h2
    have h9 := hh (cW C l) (Nat.le_refl _)
    rw [e] at h9
    rw [F_X2_firstDayOfAll_4_28, if_pos hix, a5, if_pos (by rw [zi_le (by omega) (by omega)]; omega)]
    unfold F_X2_firstDayOfAll_4_60
    rw [h9, cI_s, if_pos (by decide)]
    rfl
  · have h9 := hh s (by omega)
    have hb9 := hbd s (by omega)
    have e0 : F_X2_firstDayOfAll_4_28 k (f + 1) M (zi L) (zi ((x + T * s : Nat))) (zi T) (zi l) (zi (s : Nat)) = (if bb (hb (cW C l) (cD C l) ((x + T * s : Nat) : Int)) = 0 then F_X2_firstDayOfAll_4_28 k f M (zi L) (zi ((x + T * (s + 1) : Nat))) (zi T) (zi l) (zi ((s + 1 : Nat))) else F_X2_firstDayOfAll_4_60 k M (zi L) (zi ((x + T * s : Nat))) (zi T) (zi l)) := by
      rw [F_X2_firstDayOfAll_4_28, if_pos hix, a5, if_neg (by rw [zi_le (by omega) (by omega)]; omega), h9, cI_s, lt_z, lt_z, show (1 : Int32) = zi 1 from rfl, zi_add, zi_add, zc (show (s : Int) + 1 = ((s + 1 : Nat) : Int) by omega), zc (show ((x + T * s : Nat) : Int) + (T : Int) = ((x + T * (s + 1) : Nat) : Int) by rw [Nat.mul_succ]; omega)]
    show ((∃ m, _ ∧ _ ∧ _ ∧ F_X2_firstDayOfAll_4_28 k (f + 1) M (zi L) (zi ((x + T * s : Nat))) (zi T) (zi l) (zi (s : Nat)) = _) ∨ _) ∨ (_ ∧ F_X2_firstDayOfAll_4_28 k (f + 1) M (zi L) (zi ((x + T * s : Nat))) (zi T) (zi l) (zi (s : Nat)) = _)
    cases hq : hb (cW C l) (cD C l) ((x + T * s : Nat) : Int) with
    | false =>
      right
      rw [hq, if_pos (by decide)] at e0
      refine ⟨fun j hj => ?_, e0⟩
      by_cases q : j = s
      · rw [q]; exact hq
      · exact hI j (by omega)
    | true =>
      left
      left
      rw [hq, if_neg (by decide)] at e0
      rw [hq] at h9
      refine ⟨s, hs, hq, hI, ?_⟩
      rw [e0]
      unfold F_X2_firstDayOfAll_4_60 F_X2_firstDayOfAll_4_84
      rw [h9, cI_s, if_neg (by decide), if_pos hix, a5, ct, cI_s, lt_z, show (1 : Int32) = zi 1 from rfl, zi_add, zc (show (l : Int) + 1 = ((l + 1 : Nat) : Int) by omega)]
/-- r is the first day of a turn with g; -1 without -/
def FsT (g : Nat → Bool) (T : Nat) (r : Int) : Prop := (∃ k : Nat, k < T ∧ g k = true ∧ (∀ j, j < k → g j = false) ∧ r = (k : Int)) ∨ (r = -1 ∧ ∀ k : Nat, k < T → g k = false)
theorem FsT_one {g : Nat → Bool} {T : Nat} {r r' : Int} (h : FsT g T r) (h' : FsT g T r') : r = r' := by
  rcases h with ⟨k, k1, k2, k3, k4⟩ | ⟨k1, k2⟩
  · rcases h' with ⟨j, j1, j2, j3, j4⟩ | ⟨j1, j2⟩
    · rcases Nat.lt_trichotomy k j with q | q | q
      · rw [j3 k q] at k2; exact absurd k2 (by decide)
      · rw [k4, j4, q]
      · rw [k3 j q] at j2; exact absurd j2 (by decide)
    · rw [j2 k k1] at k2; exact absurd k2 (by decide)
  · rcases h' with ⟨j, j1, j2, j3, j4⟩ | ⟨j1, j2⟩
    · rw [k2 j j1] at j2; exact absurd j2 (by decide)
    · rw [k1, j1]
theorem sol_per {C : Cal} {L k : Nat} {t : Int} (m : Int) : sol C L k (t + (lcs 1 (fun l => L.testBit l) (cW C) k : Nat) * m) = sol C L k t := by
  unfold sol noB
  rw [fb_ct_cong (q := fun l => L.testBit l && !hb (cW C l) (cD C l) t) (fun l hl => by
    cases hb1 : L.testBit l with
    | false => rw [Bool.false_and, Bool.false_and]
    | true => rw [hb_per (lcs_in (p := fun l => L.testBit l) hl hb1)])]
