/-- more fuel than any loop needs -/
def FUEL : Nat := 4294967296
def lt {α : Type} (x : α) (k : α → Option PR) : Option PR := k x
theorem lt_h {α : Type} {x : α} {k : α → Option PR} {r : PR} (h : lt x k = some r) : k x = some r := h
theorem p_fg {l : Launch} {d : Nat} {Y : MD} {is : List CI} {ls ls' st : List PV} {M : PM} {r : PR} (k : PW l d Y is ls' st M r) (hle : leP ls' ls) : PW l d Y is ls st M r := p_forget hle k
theorem p_ald3 {l : Launch} {d : Nat} {Y : MD} {pc : Nat} {is : List CI} {ls st : List PV} {M : PM} {r : PR} {q z a0 a1 a2 : Nat} {i : Int32} {X0 X1 X2 : Option PR} (hq : gT q = some (4, 3, z)) (r0 : gRef q 0 = some a0) (r1 : gRef q 1 = some a1) (r2 : gRef q 2 = some a2) (h : (if i = 0 then X0 else if i = 1 then X1 else if i = 2 then X2 else none) = some r)
    (k0 : i = 0 → X0 = some r → PW l d Y is ls (vR a0 :: st) M r) (k1 : i = 1 → X1 = some r → PW l d Y is ls (vR a1 :: st) M r) (k2 : i = 2 → X2 = some r → PW l d Y is ls (vR a2 :: st) M r) : PW l d Y ((pc, .aaload, 1) :: is) ls (vI i :: vR q :: st) M r := by
  by_cases c0 : i = 0
  · rw [if_pos c0] at h; exact p_aldR hq (by rw [c0]; decide) (by rw [c0]; exact r0) (k0 c0 h)
  · rw [if_neg c0] at h
    by_cases c1 : i = 1
    · rw [if_pos c1] at h; exact p_aldR hq (by rw [c1]; decide) (by rw [c1]; exact r1) (k1 c1 h)
    · rw [if_neg c1] at h
      by_cases c2 : i = 2
      · rw [if_pos c2] at h; exact p_aldR hq (by rw [c2]; decide) (by rw [c2]; exact r2) (k2 c2 h)
      · rw [if_neg c2] at h; cases h
theorem p_ts3 {l : Launch} {d : Nat} {Y : MD} {pc : Nat} {is : List CI} {ls st : List PV} {M : PM} {r : PR} {x : Int32} {df : Int} {len : Nat} {o0 o1 o2 : Int} {j0 j1 j2 jd : List CI} {X0 X1 X2 Xd : Option PR} (h : (if x = 0 then X0 else if x = 1 then X1 else if x = 2 then X2 else Xd) = some r) (n0 : Nat) (hj0 : Y.code.drop n0 = j0) (ht0 : (pc : Int) + o0 = (hdpc j0 : Int)) (n1 : Nat) (hj1 : Y.code.drop n1 = j1) (ht1 : (pc : Int) + o1 = (hdpc j1 : Int)) (n2 : Nat) (hj2 : Y.code.drop n2 = j2) (ht2 : (pc : Int) + o2 = (hdpc j2 : Int)) (nd : Nat) (hjd : Y.code.drop nd = jd) (htd : (pc : Int) + df = (hdpc jd : Int)) (k0 : x = 0 → X0 = some r → PW l d Y j0 ls st M r) (k1 : x = 1 → X1 = some r → PW l d Y j1 ls st M r) (k2 : x = 2 → X2 = some r → PW l d Y j2 ls st M r) (kd : Xd = some r → PW l d Y jd ls st M r) : PW l d Y ((pc, .tableswitch df 0 2 #[o0, o1, o2], len) :: is) ls (vI x :: st) M r := by
  by_cases c0 : x = 0
  · rw [if_pos c0] at h; exact p_tsIn c0 (by decide) (by decide) rfl n0 hj0 ht0 (k0 c0 h)
  rw [if_neg c0] at h
  by_cases c1 : x = 1
  · rw [if_pos c1] at h; exact p_tsIn c1 (by decide) (by decide) rfl n1 hj1 ht1 (k1 c1 h)
  rw [if_neg c1] at h
  by_cases c2 : x = 2
  · rw [if_pos c2] at h; exact p_tsIn c2 (by decide) (by decide) rfl n2 hj2 ht2 (k2 c2 h)
  rw [if_neg c2] at h
  exact p_tsOut (by
    have h9 := sw_out 3 (x := x) (by decide) (fun k hk => by
      match k, hk with
      | 0, _ => exact c0
      | 1, _ => exact c1
      | 2, _ => exact c2
      | k + 3, hk => exact absurd hk (by omega))
    omega) nd hjd htd (kd h)
theorem p_ts4 {l : Launch} {d : Nat} {Y : MD} {pc : Nat} {is : List CI} {ls st : List PV} {M : PM} {r : PR} {x : Int32} {df : Int} {len : Nat} {o0 o1 o2 o3 : Int} {j0 j1 j2 j3 jd : List CI} {X0 X1 X2 X3 Xd : Option PR} (h : (if x = 0 then X0 else if x = 1 then X1 else if x = 2 then X2 else if x = 3 then X3 else Xd) = some r) (n0 : Nat) (hj0 : Y.code.drop n0 = j0) (ht0 : (pc : Int) + o0 = (hdpc j0 : Int)) (n1 : Nat) (hj1 : Y.code.drop n1 = j1) (ht1 : (pc : Int) + o1 = (hdpc j1 : Int)) (n2 : Nat) (hj2 : Y.code.drop n2 = j2) (ht2 : (pc : Int) + o2 = (hdpc j2 : Int)) (n3 : Nat) (hj3 : Y.code.drop n3 = j3) (ht3 : (pc : Int) + o3 = (hdpc j3 : Int)) (nd : Nat) (hjd : Y.code.drop nd = jd) (htd : (pc : Int) + df = (hdpc jd : Int)) (k0 : x = 0 → X0 = some r → PW l d Y j0 ls st M r) (k1 : x = 1 → X1 = some r → PW l d Y j1 ls st M r) (k2 : x = 2 → X2 = some r → PW l d Y j2 ls st M r) (k3 : x = 3 → X3 = some r → PW l d Y j3 ls st M r) (kd : Xd = some r → PW l d Y jd ls st M r) : PW l d Y ((pc, .tableswitch df 0 3 #[o0, o1, o2, o3], len) :: is) ls (vI x :: st) M r := by
  by_cases c0 : x = 0
  · rw [if_pos c0] at h; exact p_tsIn c0 (by decide) (by decide) rfl n0 hj0 ht0 (k0 c0 h)
  rw [if_neg c0] at h
  by_cases c1 : x = 1
  · rw [if_pos c1] at h; exact p_tsIn c1 (by decide) (by decide) rfl n1 hj1 ht1 (k1 c1 h)
  rw [if_neg c1] at h
  by_cases c2 : x = 2
  · rw [if_pos c2] at h; exact p_tsIn c2 (by decide) (by decide) rfl n2 hj2 ht2 (k2 c2 h)
  rw [if_neg c2] at h
  by_cases c3 : x = 3
  · rw [if_pos c3] at h; exact p_tsIn c3 (by decide) (by decide) rfl n3 hj3 ht3 (k3 c3 h)
  rw [if_neg c3] at h
  exact p_tsOut (by
    have h9 := sw_out 4 (x := x) (by decide) (fun k hk => by
      match k, hk with
      | 0, _ => exact c0
      | 1, _ => exact c1
      | 2, _ => exact c2
      | 3, _ => exact c3
      | k + 4, hk => exact absurd hk (by omega))
    omega) nd hjd htd (kd h)
theorem p_ts5 {l : Launch} {d : Nat} {Y : MD} {pc : Nat} {is : List CI} {ls st : List PV} {M : PM} {r : PR} {x : Int32} {df : Int} {len : Nat} {o0 o1 o2 o3 o4 : Int} {j0 j1 j2 j3 j4 jd : List CI} {X0 X1 X2 X3 X4 Xd : Option PR} (h : (if x = 0 then X0 else if x = 1 then X1 else if x = 2 then X2 else if x = 3 then X3 else if x = 4 then X4 else Xd) = some r) (n0 : Nat) (hj0 : Y.code.drop n0 = j0) (ht0 : (pc : Int) + o0 = (hdpc j0 : Int)) (n1 : Nat) (hj1 : Y.code.drop n1 = j1) (ht1 : (pc : Int) + o1 = (hdpc j1 : Int)) (n2 : Nat) (hj2 : Y.code.drop n2 = j2) (ht2 : (pc : Int) + o2 = (hdpc j2 : Int)) (n3 : Nat) (hj3 : Y.code.drop n3 = j3) (ht3 : (pc : Int) + o3 = (hdpc j3 : Int)) (n4 : Nat) (hj4 : Y.code.drop n4 = j4) (ht4 : (pc : Int) + o4 = (hdpc j4 : Int)) (nd : Nat) (hjd : Y.code.drop nd = jd) (htd : (pc : Int) + df = (hdpc jd : Int)) (k0 : x = 0 → X0 = some r → PW l d Y j0 ls st M r) (k1 : x = 1 → X1 = some r → PW l d Y j1 ls st M r) (k2 : x = 2 → X2 = some r → PW l d Y j2 ls st M r) (k3 : x = 3 → X3 = some r → PW l d Y j3 ls st M r) (k4 : x = 4 → X4 = some r → PW l d Y j4 ls st M r) (kd : Xd = some r → PW l d Y jd ls st M r) : PW l d Y ((pc, .tableswitch df 0 4 #[o0, o1, o2, o3, o4], len) :: is) ls (vI x :: st) M r := by
  by_cases c0 : x = 0
  · rw [if_pos c0] at h; exact p_tsIn c0 (by decide) (by decide) rfl n0 hj0 ht0 (k0 c0 h)
  rw [if_neg c0] at h
  by_cases c1 : x = 1
  · rw [if_pos c1] at h; exact p_tsIn c1 (by decide) (by decide) rfl n1 hj1 ht1 (k1 c1 h)
  rw [if_neg c1] at h
  by_cases c2 : x = 2
  · rw [if_pos c2] at h; exact p_tsIn c2 (by decide) (by decide) rfl n2 hj2 ht2 (k2 c2 h)
  rw [if_neg c2] at h
  by_cases c3 : x = 3
  · rw [if_pos c3] at h; exact p_tsIn c3 (by decide) (by decide) rfl n3 hj3 ht3 (k3 c3 h)
  rw [if_neg c3] at h
  by_cases c4 : x = 4
  · rw [if_pos c4] at h; exact p_tsIn c4 (by decide) (by decide) rfl n4 hj4 ht4 (k4 c4 h)
  rw [if_neg c4] at h
  exact p_tsOut (by
    have h9 := sw_out 5 (x := x) (by decide) (fun k hk => by
      match k, hk with
      | 0, _ => exact c0
      | 1, _ => exact c1
      | 2, _ => exact c2
      | 3, _ => exact c3
      | 4, _ => exact c4
      | k + 5, hk => exact absurd hk (by omega))
    omega) nd hjd htd (kd h)
theorem p_ts7 {l : Launch} {d : Nat} {Y : MD} {pc : Nat} {is : List CI} {ls st : List PV} {M : PM} {r : PR} {x : Int32} {df : Int} {len : Nat} {o0 o1 o2 o3 o4 o5 o6 : Int} {j0 j1 j2 j3 j4 j5 j6 jd : List CI} {X0 X1 X2 X3 X4 X5 X6 Xd : Option PR} (h : (if x = 0 then X0 else if x = 1 then X1 else if x = 2 then X2 else if x = 3 then X3 else if x = 4 then X4 else if x = 5 then X5 else if x = 6 then X6 else Xd) = some r) (n0 : Nat) (hj0 : Y.code.drop n0 = j0) (ht0 : (pc : Int) + o0 = (hdpc j0 : Int)) (n1 : Nat) (hj1 : Y.code.drop n1 = j1) (ht1 : (pc : Int) + o1 = (hdpc j1 : Int)) (n2 : Nat) (hj2 : Y.code.drop n2 = j2) (ht2 : (pc : Int) + o2 = (hdpc j2 : Int)) (n3 : Nat) (hj3 : Y.code.drop n3 = j3) (ht3 : (pc : Int) + o3 = (hdpc j3 : Int)) (n4 : Nat) (hj4 : Y.code.drop n4 = j4) (ht4 : (pc : Int) + o4 = (hdpc j4 : Int)) (n5 : Nat) (hj5 : Y.code.drop n5 = j5) (ht5 : (pc : Int) + o5 = (hdpc j5 : Int)) (n6 : Nat) (hj6 : Y.code.drop n6 = j6) (ht6 : (pc : Int) + o6 = (hdpc j6 : Int)) (nd : Nat) (hjd : Y.code.drop nd = jd) (htd : (pc : Int) + df = (hdpc jd : Int)) (k0 : x = 0 → X0 = some r → PW l d Y j0 ls st M r) (k1 : x = 1 → X1 = some r → PW l d Y j1 ls st M r) (k2 : x = 2 → X2 = some r → PW l d Y j2 ls st M r) (k3 : x = 3 → X3 = some r → PW l d Y j3 ls st M r) (k4 : x = 4 → X4 = some r → PW l d Y j4 ls st M r) (k5 : x = 5 → X5 = some r → PW l d Y j5 ls st M r) (k6 : x = 6 → X6 = some r → PW l d Y j6 ls st M r) (kd : Xd = some r → PW l d Y jd ls st M r) : PW l d Y ((pc, .tableswitch df 0 6 #[o0, o1, o2, o3, o4, o5, o6], len) :: is) ls (vI x :: st) M r := by
  by_cases c0 : x = 0
  · rw [if_pos c0] at h; exact p_tsIn c0 (by decide) (by decide) rfl n0 hj0 ht0 (k0 c0 h)
  rw [if_neg c0] at h
  by_cases c1 : x = 1
  · rw [if_pos c1] at h; exact p_tsIn c1 (by decide) (by decide) rfl n1 hj1 ht1 (k1 c1 h)
  rw [if_neg c1] at h
  by_cases c2 : x = 2
  · rw [if_pos c2] at h; exact p_tsIn c2 (by decide) (by decide) rfl n2 hj2 ht2 (k2 c2 h)
  rw [if_neg c2] at h
  by_cases c3 : x = 3
  · rw [if_pos c3] at h; exact p_tsIn c3 (by decide) (by decide) rfl n3 hj3 ht3 (k3 c3 h)
  rw [if_neg c3] at h
  by_cases c4 : x = 4
  · rw [if_pos c4] at h; exact p_tsIn c4 (by decide) (by decide) rfl n4 hj4 ht4 (k4 c4 h)
  rw [if_neg c4] at h
  by_cases c5 : x = 5
  · rw [if_pos c5] at h; exact p_tsIn c5 (by decide) (by decide) rfl n5 hj5 ht5 (k5 c5 h)
  rw [if_neg c5] at h
  by_cases c6 : x = 6
  · rw [if_pos c6] at h; exact p_tsIn c6 (by decide) (by decide) rfl n6 hj6 ht6 (k6 c6 h)
  rw [if_neg c6] at h
  exact p_tsOut (by
    have h9 := sw_out 7 (x := x) (by decide) (fun k hk => by
      match k, hk with
      | 0, _ => exact c0
      | 1, _ => exact c1
      | 2, _ => exact c2
      | 3, _ => exact c3
      | 4, _ => exact c4
      | 5, _ => exact c5
      | 6, _ => exact c6
      | k + 7, hk => exact absurd hk (by omega))
    omega) nd hjd htd (kd h)
theorem p_lsw2 {l : Launch} {d : Nat} {Y : MD} {pc : Nat} {is : List CI} {ls st : List PV} {M : PM} {r : PR} {x : Int32} {df : Int} {len : Nat} {o0 o1 : Int} {j0 j1 jd : List CI} {X0 X1 Xd : Option PR} (h : (if x = 0 then X0 else if x = 1 then X1 else Xd) = some r) (n0 : Nat) (hj0 : Y.code.drop n0 = j0) (ht0 : (pc : Int) + o0 = (hdpc j0 : Int)) (n1 : Nat) (hj1 : Y.code.drop n1 = j1) (ht1 : (pc : Int) + o1 = (hdpc j1 : Int)) (nd : Nat) (hjd : Y.code.drop nd = jd) (htd : (pc : Int) + df = (hdpc jd : Int)) (k0 : x = 0 → X0 = some r → PW l d Y j0 ls st M r) (k1 : x = 1 → X1 = some r → PW l d Y j1 ls st M r) (kd : Xd = some r → PW l d Y jd ls st M r) : PW l d Y ((pc, .lookupswitch df #[(0, o0), (1, o1)], len) :: is) ls (vI x :: st) M r := by
  by_cases c0 : x = 0
  · rw [if_pos c0] at h; exact p_lsw rfl (by rw [c0]; rfl) n0 hj0 ht0 (k0 c0 h)
  rw [if_neg c0] at h
  by_cases c1 : x = 1
  · rw [if_pos c1] at h; exact p_lsw rfl (by rw [c1]; rfl) n1 hj1 ht1 (k1 c1 h)
  rw [if_neg c1] at h
  refine p_lsw rfl ?_ nd hjd htd (kd h)
  have h0 : ¬ (0 : Int) = x.toInt := fun e => c0 (Int32.toInt_inj.mp (by rw [← e]; rfl))
  have h1 : ¬ (1 : Int) = x.toInt := fun e => c1 (Int32.toInt_inj.mp (by rw [← e]; rfl))
  simp [Op.lookupswitch.offset, h0, h1]
