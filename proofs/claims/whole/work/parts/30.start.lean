/-! THE LAW'S BEGINNING: two objects and the array out are made; then the loop -/
def xad (X : GX) (ad : Nat → Nat → Nat) : GX := match X with
  | (p, e, s, m, args, below, meth, c, Q, sz, D, cy, _) => (p, e, s, m, args, below, meth, c, Q, sz, D, cy, ad)
def a0 (X : GX) : Nat → Nat → Nat := match X with
  | (_, _, _, _, _, _, _, _, _, _, _, _, ad) => ad
theorem n_toG {l : Launch} {R : Room} {Y : MD} {n0 : Nat} {X : GX} {cs : Nat × Nat} {is : List CI} {ls st : List PV} {rs : List (Nat × Nat)} {M : PM} (hX : NOK Y X) (hall : ∀ q k r, gRef q k = some r → (q, k) ∈ rs) (hne : is ≠ []) (k : ∀ ad : Nat → Nat → Nat, AGR n0 (a0 X) ad → GOK Y (xad X ad) → PG l R Y (xad X ad) cs is ls st M) : PN l R Y n0 X cs is ls st gTl.length rs M := by
  obtain ⟨p, e, s, m, args, below, meth, c, Q, sz, D, cy, ad0⟩ := X
  obtain ⟨x1, x2, x3, x4, x5, x6, x7, x8⟩ := hX
  refine ⟨hne, fun ad H locs rl hs hA hH hS hl => ?_⟩
  exact (k ad hA ⟨x1, x2, x3, x4, x5, x6, x7.1.ad (fun q i hq => hA q i (Or.inr hq))⟩).2 H locs rl hs (hH.full hall) hS hl
theorem n_fg {l : Launch} {R : Room} {Y : MD} {n0 : Nat} {X : GX} {cs : Nat × Nat} {is : List CI} {ls ls' st : List PV} {n : Nat} {rs : List (Nat × Nat)} {M : PM} (k : PN l R Y n0 X cs is ls' st n rs M) (hle : leP ls' ls) : PN l R Y n0 X cs is ls st n rs M := by
  obtain ⟨p, e, s, m, args, below, meth, c, Q, sz, D, cy, ad0⟩ := X
  exact ⟨k.1, fun ad H locs rl hs hA hH hS hl => k.2 ad H locs rl hs hA hH hS ⟨hl.1, hl.2.1, (leP_len hle).trans hl.2.2.1, fun i v hi hv => hl.2.2.2 i v (leP_at hle hi hv) hv⟩⟩

theorem rs_all : ∀ q k r, gRef q k = some r → (q, k) ∈ rs_32 := by
  have h : (List.range 140).all (fun q => (List.range 60).all (fun k => (gRef q k).isNone || decide ((q, k) ∈ rs_32))) = true := by decide +kernel
  have hlen : gRl.length ≤ 140 := by decide +kernel
  have hrow : gRl.all (fun r => decide (r.length ≤ 60)) = true := by decide +kernel
  intro q k r hr
  have hr9 := hr
  unfold gRef at hr9
  rw [List.getD_eq_getElem?_getD, List.getD_eq_getElem?_getD] at hr9
  have hq : q < 140 := by
    rcases Nat.lt_or_ge q 140 with h9 | h9
    · exact h9
    · rw [show gRl[q]? = none from List.getElem?_eq_none (by omega)] at hr9
      simp at hr9
  have hk : k < 60 := by
    rcases Nat.lt_or_ge k 60 with h9 | h9
    · exact h9
    · cases hg : gRl[q]? with
      | none => rw [hg] at hr9; simp at hr9
      | some rw0 =>
        rw [hg] at hr9
        have := of_decide_eq_true (List.all_eq_true.mp hrow rw0 (List.mem_of_getElem? hg))
        change (rw0[k]?).getD none = some r at hr9
        rw [List.getElem?_eq_none (by omega)] at hr9
        cases hr9
  have h1 := List.all_eq_true.mp (List.all_eq_true.mp h q (List.mem_range.mpr hq)) k (List.mem_range.mpr hk)
  rw [hr] at h1
  simpa using h1
theorem nk_L_8 : NEWK RL 8 10 17 := ⟨RX10, TX10, tyX10, cls_10, mU_1 27 rfl rfl, mU_1 28 rfl rfl, mU_1 1 rfl rfl, fun j hj => by
  match j, hj with
  | 0, _ => rfl
  | 1, _ => rfl
  | 2, _ => rfl
  | 3, _ => rfl
  | 4, _ => rfl
  | 5, _ => rfl
  | 6, _ => rfl
  | 7, _ => rfl
  | 8, _ => rfl
  | 9, _ => rfl
  | 10, _ => rfl
  | 11, _ => rfl
  | 12, _ => rfl
  | 13, _ => rfl
  | 14, _ => rfl
  | 15, _ => rfl
  | 16, _ => rfl
  | j + 17, hj => exact absurd hj (by omega)⟩
theorem nk_L_125 : NEWK RL 125 11 48 := ⟨RX11, TX11, tyX11, cls_11, mU_7 9 rfl rfl, mU_7 10 rfl rfl, mU_1 13 rfl rfl, fun j hj => by
  match j, hj with
  | 0, _ => rfl
  | 1, _ => rfl
  | 2, _ => rfl
  | 3, _ => rfl
  | 4, _ => rfl
  | 5, _ => rfl
  | 6, _ => rfl
  | 7, _ => rfl
  | 8, _ => rfl
  | 9, _ => rfl
  | 10, _ => rfl
  | 11, _ => rfl
  | 12, _ => rfl
  | 13, _ => rfl
  | 14, _ => rfl
  | 15, _ => rfl
  | 16, _ => rfl
  | 17, _ => rfl
  | 18, _ => rfl
  | 19, _ => rfl
  | 20, _ => rfl
  | 21, _ => rfl
  | 22, _ => rfl
  | 23, _ => rfl
  | 24, _ => rfl
  | 25, _ => rfl
  | 26, _ => rfl
  | 27, _ => rfl
  | 28, _ => rfl
  | 29, _ => rfl
  | 30, _ => rfl
  | 31, _ => rfl
  | 32, _ => rfl
  | 33, _ => rfl
  | 34, _ => rfl
  | 35, _ => rfl
  | 36, _ => rfl
  | 37, _ => rfl
  | 38, _ => rfl
  | 39, _ => rfl
  | 40, _ => rfl
  | 41, _ => rfl
  | 42, _ => rfl
  | 43, _ => rfl
  | 44, _ => rfl
  | 45, _ => rfl
  | 46, _ => rfl
  | 47, _ => rfl
  | j + 48, hj => exact absurd hj (by omega)⟩
theorem cl_L_124 : LNK RL 124 Y_X10_init := mU_1 29 rfl rfl
theorem cl_L_127 : LNK RL 127 Y_X11_init := mU_7 11 rfl rfl
set_option maxRecDepth 100000 in
theorem law_start {l : Launch} {X : GX} (hX : NOK Y_L_law_ X) (k : ∀ ad : Nat → Nat → Nat, AGR 0 (a0 X) ad → GOK Y_L_law_ (xad X ad) → PG l room_1 Y_L_law_ (xad X ad) (600000, 7000000) k_L_law__23 [vR 99999, vR 0, vR 99, vR 129, vI 0, jk, jk, jk] [] Mc_7) : PN l room_1 Y_L_law_ 0 X (0, 0) Y_L_law_.code [vR 99999, jk, jk, jk, jk, jk, jk, jk] [] 0 rs_0 Mc_0 := by
  refine n_new (n := 0) hX nk_L_8 gt_0 ⟨(Nat.le_of_ble_eq_true rfl), (Nat.le_of_ble_eq_true rfl)⟩ ⟨rfl, rfl⟩ ⟨(Nat.le_of_ble_eq_true rfl), (Nat.le_of_ble_eq_true rfl)⟩ ?_
  refine n_dup hX rfl ?_
  refine n_call (d2 := 3) (ca := 98) (sl := 3779) (as := []) hX mok_X10_init rfl rfl in_X10_init (Or.inl cl_L_124) rfl ⟨(Nat.le_of_ble_eq_true rfl), (Nat.le_of_ble_eq_true rfl), (Nat.le_of_ble_eq_true rfl), (Nat.le_of_ble_eq_true rfl)⟩ (Nat.le_of_ble_eq_true rfl) (Nat.le_of_ble_eq_true rfl) ⟨rfl, rfl⟩ rfl ct_X10_init_0 ?_
  refine n_astore_n hX (Nat.le_of_ble_eq_true rfl) rfl ?_
  refine n_new (n := 99) hX nk_L_125 gt_99 ⟨(Nat.le_of_ble_eq_true rfl), (Nat.le_of_ble_eq_true rfl)⟩ ⟨rfl, rfl⟩ ⟨(Nat.le_of_ble_eq_true rfl), (Nat.le_of_ble_eq_true rfl)⟩ ?_
  refine n_dup hX rfl ?_
  refine n_call (d2 := 1) (ca := 540) (sl := 4437) (as := []) hX mok_X11_init rfl rfl in_X11_init (Or.inl cl_L_127) rfl ⟨(Nat.le_of_ble_eq_true rfl), (Nat.le_of_ble_eq_true rfl), (Nat.le_of_ble_eq_true rfl), (Nat.le_of_ble_eq_true rfl)⟩ (Nat.le_of_ble_eq_true rfl) (Nat.le_of_ble_eq_true rfl) ⟨rfl, rfl⟩ rfl ct_X11_init_99 ?_
  refine n_astore_n hX (Nat.le_of_ble_eq_true rfl) rfl ?_
  refine n_iconst hX (v := 1) (by decide) ?_
  refine n_newa (n := 129) (N := 1) hX rfl ac_long (Or.inr (Or.inl ⟨rfl, rfl⟩)) ⟨by decide, by decide, (Nat.le_of_ble_eq_true rfl)⟩ gt_129 ⟨(Nat.le_of_ble_eq_true rfl), (Nat.le_of_ble_eq_true rfl)⟩ ⟨rfl, rfl⟩ ⟨(Nat.le_of_ble_eq_true rfl), (Nat.le_of_ble_eq_true rfl)⟩ ?_
  refine n_astore_n hX (Nat.le_of_ble_eq_true rfl) rfl ?_
  refine n_widen (cs' := (600000, 7000000)) (Nat.le_of_ble_eq_true rfl) (Nat.le_of_ble_eq_true rfl) ?_
  refine n_toG (n0 := 0) hX rs_all (by simp [k_L_law__20]) (fun ad hA hG => ?_)
  refine g_iconst hG (v := 0) rfl ?_
  refine g_istore hG (Nat.le_of_ble_eq_true rfl) rfl ?_
  exact k ad hA hG
