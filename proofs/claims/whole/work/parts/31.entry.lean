/-! WHAT HOLDS AT THE LAW'S ENTRY -/
theorem va_AOA.spec {t : FieldType} {u : State} (h : va_AOA t u) : ∃ comp c k, u.vm.findClass (FieldType.array t).toString = some comp ∧ u.vm.classes[c]? = some k ∧ k.kind = .array comp (.array t) ∧ u.vm.findClass ("[" ++ (FieldType.array t).toString) = some c := by
  unfold va_AOA Cond.before at h
  simp only [Cond.holds, Cond.value, beq_iff_eq] at h
  cases hc : u.vm.findClass (FieldType.array t).toString with
  | none => simp [hc] at h
  | some comp =>
    simp only [hc, Option.bind_some, Option.bind_eq_some_iff, Option.map_eq_some_iff] at h
    obtain ⟨c, hi, k, hk, hb⟩ := h
    obtain ⟨hlt, hp, -⟩ := Array.findIdx?_eq_some_iff_getElem.mp hi
    have hkk : u.vm.classes[c] = k := (Array.getElem?_eq_some_iff.mp hk).2
    rw [hkk] at hp
    cases hkind : k.kind with
    | array component ty =>
      rw [hkind] at hb hp
      simp at hb hp
      exact ⟨comp, c, k, rfl, hk, by rw [hkind, hp, hb.1], hb.2⟩
    | _ => rw [hkind] at hb; simp at hb
theorem vk_S_congr {N : Nat} {len : List Nat} {byt : List (List Int32)} {adK adV adK' adV' : Nat → Nat} {A : Nat → Prop} {U : State} {H : Heap} (h : vk_S N len byt adK adV A U H) (hK : ∀ i, i < N → adK' i = adK i) (hV : ∀ i, i < N → adV' i = adV i) : vk_S N len byt adK' adV' A U H :=
  ⟨fun i hi => by rw [hK i hi, hV i hi]; exact h.1 i hi, fun i j hi hj e => h.2 i j hi hj (by rw [← hK i hi, ← hK j hj]; exact e)⟩
def tmS (i : Nat) : Term := match sOwn[i]? with
  | some q => .string q.1 q.2.1
  | none => .null
theorem NW_of {w : Cond} (h : w ∈ NW) {A : Array Value} {U : State} (hz : w.before A U = true) : va_Nw w U := by
  have h2 := (List.mem_filter.mp h).2
  cases w <;> first | exact va_Nw.of rfl hz | (simp [isNest] at h2)

section Entry
variable {s : State} {b : Nat}
def flN : List Cond := flatC narrow_1
theorem en_ex_0 (hN : ∀ w ∈ flN, w.before #[Value.ref b] s = true) : (Cond.exactly (.string "WeekWheels$Calendar" 94) "java/lang/String").before #[Value.ref b] s = true := hN _ (List.mem_of_getElem? (i := 71) (by decide +kernel))
theorem en_co_0 (hN : ∀ w ∈ flN, w.before #[Value.ref b] s = true) : (Cond.eq (.field (.string "WeekWheels$Calendar" 94) "java/lang/String" "coder" "B") (.int 0)).before #[Value.ref b] s = true := hN _ (List.mem_of_getElem? (i := 72) (by decide +kernel))
theorem en_ar_0 (hN : ∀ w ∈ flN, w.before #[Value.ref b] s = true) : (Cond.arrayOf (.field (.string "WeekWheels$Calendar" 94) "java/lang/String" "value" "[B") .byte).before #[Value.ref b] s = true := hN _ (List.mem_of_getElem? (i := 73) (by decide +kernel))
theorem en_le_0 (hN : ∀ w ∈ flN, w.before #[Value.ref b] s = true) : (Cond.eq (.length (.field (.string "WeekWheels$Calendar" 94) "java/lang/String" "value" "[B")) (.int 3)).before #[Value.ref b] s = true := hN _ (List.mem_of_getElem? (i := 74) (by decide +kernel))
theorem en_el_0_0 (hN : ∀ w ∈ flN, w.before #[Value.ref b] s = true) : (Cond.eq (.elem (.field (.string "WeekWheels$Calendar" 94) "java/lang/String" "value" "[B") (.int 0)) (.int 108)).before #[Value.ref b] s = true := hN _ (List.mem_of_getElem? (i := 75) (by decide +kernel))
theorem en_el_0_1 (hN : ∀ w ∈ flN, w.before #[Value.ref b] s = true) : (Cond.eq (.elem (.field (.string "WeekWheels$Calendar" 94) "java/lang/String" "value" "[B") (.int 1)) (.int 97)).before #[Value.ref b] s = true := hN _ (List.mem_of_getElem? (i := 76) (by decide +kernel))
theorem en_el_0_2 (hN : ∀ w ∈ flN, w.before #[Value.ref b] s = true) : (Cond.eq (.elem (.field (.string "WeekWheels$Calendar" 94) "java/lang/String" "value" "[B") (.int 2)) (.int 119)).before #[Value.ref b] s = true := hN _ (List.mem_of_getElem? (i := 77) (by decide +kernel))
theorem en_ex_1 (hN : ∀ w ∈ flN, w.before #[Value.ref b] s = true) : (Cond.exactly (.string "WeekWheels$Calendar" 104) "java/lang/String").before #[Value.ref b] s = true := hN _ (List.mem_of_getElem? (i := 79) (by decide +kernel))
theorem en_co_1 (hN : ∀ w ∈ flN, w.before #[Value.ref b] s = true) : (Cond.eq (.field (.string "WeekWheels$Calendar" 104) "java/lang/String" "coder" "B") (.int 0)).before #[Value.ref b] s = true := hN _ (List.mem_of_getElem? (i := 80) (by decide +kernel))
theorem en_ar_1 (hN : ∀ w ∈ flN, w.before #[Value.ref b] s = true) : (Cond.arrayOf (.field (.string "WeekWheels$Calendar" 104) "java/lang/String" "value" "[B") .byte).before #[Value.ref b] s = true := hN _ (List.mem_of_getElem? (i := 81) (by decide +kernel))
theorem en_le_1 (hN : ∀ w ∈ flN, w.before #[Value.ref b] s = true) : (Cond.eq (.length (.field (.string "WeekWheels$Calendar" 104) "java/lang/String" "value" "[B")) (.int 5)).before #[Value.ref b] s = true := hN _ (List.mem_of_getElem? (i := 82) (by decide +kernel))
theorem en_el_1_0 (hN : ∀ w ∈ flN, w.before #[Value.ref b] s = true) : (Cond.eq (.elem (.field (.string "WeekWheels$Calendar" 104) "java/lang/String" "value" "[B") (.int 0)) (.int 111)).before #[Value.ref b] s = true := hN _ (List.mem_of_getElem? (i := 83) (by decide +kernel))
theorem en_el_1_1 (hN : ∀ w ∈ flN, w.before #[Value.ref b] s = true) : (Cond.eq (.elem (.field (.string "WeekWheels$Calendar" 104) "java/lang/String" "value" "[B") (.int 1)) (.int 116)).before #[Value.ref b] s = true := hN _ (List.mem_of_getElem? (i := 84) (by decide +kernel))
theorem en_el_1_2 (hN : ∀ w ∈ flN, w.before #[Value.ref b] s = true) : (Cond.eq (.elem (.field (.string "WeekWheels$Calendar" 104) "java/lang/String" "value" "[B") (.int 2)) (.int 104)).before #[Value.ref b] s = true := hN _ (List.mem_of_getElem? (i := 85) (by decide +kernel))
theorem en_el_1_3 (hN : ∀ w ∈ flN, w.before #[Value.ref b] s = true) : (Cond.eq (.elem (.field (.string "WeekWheels$Calendar" 104) "java/lang/String" "value" "[B") (.int 3)) (.int 101)).before #[Value.ref b] s = true := hN _ (List.mem_of_getElem? (i := 86) (by decide +kernel))
theorem en_el_1_4 (hN : ∀ w ∈ flN, w.before #[Value.ref b] s = true) : (Cond.eq (.elem (.field (.string "WeekWheels$Calendar" 104) "java/lang/String" "value" "[B") (.int 4)) (.int 114)).before #[Value.ref b] s = true := hN _ (List.mem_of_getElem? (i := 87) (by decide +kernel))
theorem en_ex_2 (hN : ∀ w ∈ flN, w.before #[Value.ref b] s = true) : (Cond.exactly (.string "WeekWheels$Calendar" 106) "java/lang/String").before #[Value.ref b] s = true := hN _ (List.mem_of_getElem? (i := 90) (by decide +kernel))
theorem en_co_2 (hN : ∀ w ∈ flN, w.before #[Value.ref b] s = true) : (Cond.eq (.field (.string "WeekWheels$Calendar" 106) "java/lang/String" "coder" "B") (.int 0)).before #[Value.ref b] s = true := hN _ (List.mem_of_getElem? (i := 91) (by decide +kernel))
theorem en_ar_2 (hN : ∀ w ∈ flN, w.before #[Value.ref b] s = true) : (Cond.arrayOf (.field (.string "WeekWheels$Calendar" 106) "java/lang/String" "value" "[B") .byte).before #[Value.ref b] s = true := hN _ (List.mem_of_getElem? (i := 92) (by decide +kernel))
theorem en_le_2 (hN : ∀ w ∈ flN, w.before #[Value.ref b] s = true) : (Cond.eq (.length (.field (.string "WeekWheels$Calendar" 106) "java/lang/String" "value" "[B")) (.int 5)).before #[Value.ref b] s = true := hN _ (List.mem_of_getElem? (i := 93) (by decide +kernel))
theorem en_el_2_0 (hN : ∀ w ∈ flN, w.before #[Value.ref b] s = true) : (Cond.eq (.elem (.field (.string "WeekWheels$Calendar" 106) "java/lang/String" "value" "[B") (.int 0)) (.int 104)).before #[Value.ref b] s = true := hN _ (List.mem_of_getElem? (i := 94) (by decide +kernel))
theorem en_el_2_1 (hN : ∀ w ∈ flN, w.before #[Value.ref b] s = true) : (Cond.eq (.elem (.field (.string "WeekWheels$Calendar" 106) "java/lang/String" "value" "[B") (.int 1)) (.int 111)).before #[Value.ref b] s = true := hN _ (List.mem_of_getElem? (i := 95) (by decide +kernel))
theorem en_el_2_2 (hN : ∀ w ∈ flN, w.before #[Value.ref b] s = true) : (Cond.eq (.elem (.field (.string "WeekWheels$Calendar" 106) "java/lang/String" "value" "[B") (.int 2)) (.int 117)).before #[Value.ref b] s = true := hN _ (List.mem_of_getElem? (i := 96) (by decide +kernel))
theorem en_el_2_3 (hN : ∀ w ∈ flN, w.before #[Value.ref b] s = true) : (Cond.eq (.elem (.field (.string "WeekWheels$Calendar" 106) "java/lang/String" "value" "[B") (.int 3)) (.int 115)).before #[Value.ref b] s = true := hN _ (List.mem_of_getElem? (i := 97) (by decide +kernel))
theorem en_el_2_4 (hN : ∀ w ∈ flN, w.before #[Value.ref b] s = true) : (Cond.eq (.elem (.field (.string "WeekWheels$Calendar" 106) "java/lang/String" "value" "[B") (.int 4)) (.int 101)).before #[Value.ref b] s = true := hN _ (List.mem_of_getElem? (i := 98) (by decide +kernel))
theorem en_ex_3 (hN : ∀ w ∈ flN, w.before #[Value.ref b] s = true) : (Cond.exactly (.string "WeekWheels$Calendar" 111) "java/lang/String").before #[Value.ref b] s = true := hN _ (List.mem_of_getElem? (i := 102) (by decide +kernel))
theorem en_co_3 (hN : ∀ w ∈ flN, w.before #[Value.ref b] s = true) : (Cond.eq (.field (.string "WeekWheels$Calendar" 111) "java/lang/String" "coder" "B") (.int 0)).before #[Value.ref b] s = true := hN _ (List.mem_of_getElem? (i := 103) (by decide +kernel))
theorem en_ar_3 (hN : ∀ w ∈ flN, w.before #[Value.ref b] s = true) : (Cond.arrayOf (.field (.string "WeekWheels$Calendar" 111) "java/lang/String" "value" "[B") .byte).before #[Value.ref b] s = true := hN _ (List.mem_of_getElem? (i := 104) (by decide +kernel))
theorem en_le_3 (hN : ∀ w ∈ flN, w.before #[Value.ref b] s = true) : (Cond.eq (.length (.field (.string "WeekWheels$Calendar" 111) "java/lang/String" "value" "[B")) (.int 4)).before #[Value.ref b] s = true := hN _ (List.mem_of_getElem? (i := 105) (by decide +kernel))
theorem en_el_3_0 (hN : ∀ w ∈ flN, w.before #[Value.ref b] s = true) : (Cond.eq (.elem (.field (.string "WeekWheels$Calendar" 111) "java/lang/String" "value" "[B") (.int 0)) (.int 115)).before #[Value.ref b] s = true := hN _ (List.mem_of_getElem? (i := 106) (by decide +kernel))
theorem en_el_3_1 (hN : ∀ w ∈ flN, w.before #[Value.ref b] s = true) : (Cond.eq (.elem (.field (.string "WeekWheels$Calendar" 111) "java/lang/String" "value" "[B") (.int 1)) (.int 108)).before #[Value.ref b] s = true := hN _ (List.mem_of_getElem? (i := 107) (by decide +kernel))
theorem en_el_3_2 (hN : ∀ w ∈ flN, w.before #[Value.ref b] s = true) : (Cond.eq (.elem (.field (.string "WeekWheels$Calendar" 111) "java/lang/String" "value" "[B") (.int 2)) (.int 105)).before #[Value.ref b] s = true := hN _ (List.mem_of_getElem? (i := 108) (by decide +kernel))
theorem en_el_3_3 (hN : ∀ w ∈ flN, w.before #[Value.ref b] s = true) : (Cond.eq (.elem (.field (.string "WeekWheels$Calendar" 111) "java/lang/String" "value" "[B") (.int 3)) (.int 112)).before #[Value.ref b] s = true := hN _ (List.mem_of_getElem? (i := 109) (by decide +kernel))
theorem en_ex_4 (hN : ∀ w ∈ flN, w.before #[Value.ref b] s = true) : (Cond.exactly (.string "WeekWheels$Calendar" 116) "java/lang/String").before #[Value.ref b] s = true := hN _ (List.mem_of_getElem? (i := 114) (by decide +kernel))
theorem en_co_4 (hN : ∀ w ∈ flN, w.before #[Value.ref b] s = true) : (Cond.eq (.field (.string "WeekWheels$Calendar" 116) "java/lang/String" "coder" "B") (.int 0)).before #[Value.ref b] s = true := hN _ (List.mem_of_getElem? (i := 115) (by decide +kernel))
theorem en_ar_4 (hN : ∀ w ∈ flN, w.before #[Value.ref b] s = true) : (Cond.arrayOf (.field (.string "WeekWheels$Calendar" 116) "java/lang/String" "value" "[B") .byte).before #[Value.ref b] s = true := hN _ (List.mem_of_getElem? (i := 116) (by decide +kernel))
theorem en_le_4 (hN : ∀ w ∈ flN, w.before #[Value.ref b] s = true) : (Cond.eq (.length (.field (.string "WeekWheels$Calendar" 116) "java/lang/String" "value" "[B")) (.int 5)).before #[Value.ref b] s = true := hN _ (List.mem_of_getElem? (i := 117) (by decide +kernel))
theorem en_el_4_0 (hN : ∀ w ∈ flN, w.before #[Value.ref b] s = true) : (Cond.eq (.elem (.field (.string "WeekWheels$Calendar" 116) "java/lang/String" "value" "[B") (.int 0)) (.int 115)).before #[Value.ref b] s = true := hN _ (List.mem_of_getElem? (i := 118) (by decide +kernel))
theorem en_el_4_1 (hN : ∀ w ∈ flN, w.before #[Value.ref b] s = true) : (Cond.eq (.elem (.field (.string "WeekWheels$Calendar" 116) "java/lang/String" "value" "[B") (.int 1)) (.int 116)).before #[Value.ref b] s = true := hN _ (List.mem_of_getElem? (i := 119) (by decide +kernel))
theorem en_el_4_2 (hN : ∀ w ∈ flN, w.before #[Value.ref b] s = true) : (Cond.eq (.elem (.field (.string "WeekWheels$Calendar" 116) "java/lang/String" "value" "[B") (.int 2)) (.int 105)).before #[Value.ref b] s = true := hN _ (List.mem_of_getElem? (i := 120) (by decide +kernel))
theorem en_el_4_3 (hN : ∀ w ∈ flN, w.before #[Value.ref b] s = true) : (Cond.eq (.elem (.field (.string "WeekWheels$Calendar" 116) "java/lang/String" "value" "[B") (.int 3)) (.int 108)).before #[Value.ref b] s = true := hN _ (List.mem_of_getElem? (i := 121) (by decide +kernel))
theorem en_el_4_4 (hN : ∀ w ∈ flN, w.before #[Value.ref b] s = true) : (Cond.eq (.elem (.field (.string "WeekWheels$Calendar" 116) "java/lang/String" "value" "[B") (.int 4)) (.int 108)).before #[Value.ref b] s = true := hN _ (List.mem_of_getElem? (i := 122) (by decide +kernel))
theorem en_ex_5 (hN : ∀ w ∈ flN, w.before #[Value.ref b] s = true) : (Cond.exactly (.string "WeekWheels$WishReader" 70) "java/lang/String").before #[Value.ref b] s = true := hN _ (List.mem_of_getElem? (i := 128) (by decide +kernel))
theorem en_co_5 (hN : ∀ w ∈ flN, w.before #[Value.ref b] s = true) : (Cond.eq (.field (.string "WeekWheels$WishReader" 70) "java/lang/String" "coder" "B") (.int 0)).before #[Value.ref b] s = true := hN _ (List.mem_of_getElem? (i := 129) (by decide +kernel))
theorem en_ar_5 (hN : ∀ w ∈ flN, w.before #[Value.ref b] s = true) : (Cond.arrayOf (.field (.string "WeekWheels$WishReader" 70) "java/lang/String" "value" "[B") .byte).before #[Value.ref b] s = true := hN _ (List.mem_of_getElem? (i := 130) (by decide +kernel))
theorem en_le_5 (hN : ∀ w ∈ flN, w.before #[Value.ref b] s = true) : (Cond.eq (.length (.field (.string "WeekWheels$WishReader" 70) "java/lang/String" "value" "[B")) (.int 3)).before #[Value.ref b] s = true := hN _ (List.mem_of_getElem? (i := 131) (by decide +kernel))
theorem en_el_5_0 (hN : ∀ w ∈ flN, w.before #[Value.ref b] s = true) : (Cond.eq (.elem (.field (.string "WeekWheels$WishReader" 70) "java/lang/String" "value" "[B") (.int 0)) (.int 110)).before #[Value.ref b] s = true := hN _ (List.mem_of_getElem? (i := 132) (by decide +kernel))
theorem en_el_5_1 (hN : ∀ w ∈ flN, w.before #[Value.ref b] s = true) : (Cond.eq (.elem (.field (.string "WeekWheels$WishReader" 70) "java/lang/String" "value" "[B") (.int 1)) (.int 111)).before #[Value.ref b] s = true := hN _ (List.mem_of_getElem? (i := 133) (by decide +kernel))
theorem en_el_5_2 (hN : ∀ w ∈ flN, w.before #[Value.ref b] s = true) : (Cond.eq (.elem (.field (.string "WeekWheels$WishReader" 70) "java/lang/String" "value" "[B") (.int 2)) (.int 116)).before #[Value.ref b] s = true := hN _ (List.mem_of_getElem? (i := 134) (by decide +kernel))
theorem en_ex_6 (hN : ∀ w ∈ flN, w.before #[Value.ref b] s = true) : (Cond.exactly (.string "WeekWheels$WishReader" 105) "java/lang/String").before #[Value.ref b] s = true := hN _ (List.mem_of_getElem? (i := 155) (by decide +kernel))
theorem en_co_6 (hN : ∀ w ∈ flN, w.before #[Value.ref b] s = true) : (Cond.eq (.field (.string "WeekWheels$WishReader" 105) "java/lang/String" "coder" "B") (.int 0)).before #[Value.ref b] s = true := hN _ (List.mem_of_getElem? (i := 156) (by decide +kernel))
theorem en_ar_6 (hN : ∀ w ∈ flN, w.before #[Value.ref b] s = true) : (Cond.arrayOf (.field (.string "WeekWheels$WishReader" 105) "java/lang/String" "value" "[B") .byte).before #[Value.ref b] s = true := hN _ (List.mem_of_getElem? (i := 157) (by decide +kernel))
theorem en_le_6 (hN : ∀ w ∈ flN, w.before #[Value.ref b] s = true) : (Cond.eq (.length (.field (.string "WeekWheels$WishReader" 105) "java/lang/String" "value" "[B")) (.int 4)).before #[Value.ref b] s = true := hN _ (List.mem_of_getElem? (i := 158) (by decide +kernel))
theorem en_el_6_0 (hN : ∀ w ∈ flN, w.before #[Value.ref b] s = true) : (Cond.eq (.elem (.field (.string "WeekWheels$WishReader" 105) "java/lang/String" "value" "[B") (.int 0)) (.int 109)).before #[Value.ref b] s = true := hN _ (List.mem_of_getElem? (i := 159) (by decide +kernel))
theorem en_el_6_1 (hN : ∀ w ∈ flN, w.before #[Value.ref b] s = true) : (Cond.eq (.elem (.field (.string "WeekWheels$WishReader" 105) "java/lang/String" "value" "[B") (.int 1)) (.int 97)).before #[Value.ref b] s = true := hN _ (List.mem_of_getElem? (i := 160) (by decide +kernel))
theorem en_el_6_2 (hN : ∀ w ∈ flN, w.before #[Value.ref b] s = true) : (Cond.eq (.elem (.field (.string "WeekWheels$WishReader" 105) "java/lang/String" "value" "[B") (.int 2)) (.int 110)).before #[Value.ref b] s = true := hN _ (List.mem_of_getElem? (i := 161) (by decide +kernel))
theorem en_el_6_3 (hN : ∀ w ∈ flN, w.before #[Value.ref b] s = true) : (Cond.eq (.elem (.field (.string "WeekWheels$WishReader" 105) "java/lang/String" "value" "[B") (.int 3)) (.int 121)).before #[Value.ref b] s = true := hN _ (List.mem_of_getElem? (i := 162) (by decide +kernel))
theorem en_ex_7 (hN : ∀ w ∈ flN, w.before #[Value.ref b] s = true) : (Cond.exactly (.string "WeekWheels$WishReader" 107) "java/lang/String").before #[Value.ref b] s = true := hN _ (List.mem_of_getElem? (i := 171) (by decide +kernel))
theorem en_co_7 (hN : ∀ w ∈ flN, w.before #[Value.ref b] s = true) : (Cond.eq (.field (.string "WeekWheels$WishReader" 107) "java/lang/String" "coder" "B") (.int 0)).before #[Value.ref b] s = true := hN _ (List.mem_of_getElem? (i := 172) (by decide +kernel))
theorem en_ar_7 (hN : ∀ w ∈ flN, w.before #[Value.ref b] s = true) : (Cond.arrayOf (.field (.string "WeekWheels$WishReader" 107) "java/lang/String" "value" "[B") .byte).before #[Value.ref b] s = true := hN _ (List.mem_of_getElem? (i := 173) (by decide +kernel))
theorem en_le_7 (hN : ∀ w ∈ flN, w.before #[Value.ref b] s = true) : (Cond.eq (.length (.field (.string "WeekWheels$WishReader" 107) "java/lang/String" "value" "[B")) (.int 4)).before #[Value.ref b] s = true := hN _ (List.mem_of_getElem? (i := 174) (by decide +kernel))
theorem en_el_7_0 (hN : ∀ w ∈ flN, w.before #[Value.ref b] s = true) : (Cond.eq (.elem (.field (.string "WeekWheels$WishReader" 107) "java/lang/String" "value" "[B") (.int 0)) (.int 116)).before #[Value.ref b] s = true := hN _ (List.mem_of_getElem? (i := 175) (by decide +kernel))
theorem en_el_7_1 (hN : ∀ w ∈ flN, w.before #[Value.ref b] s = true) : (Cond.eq (.elem (.field (.string "WeekWheels$WishReader" 107) "java/lang/String" "value" "[B") (.int 1)) (.int 111)).before #[Value.ref b] s = true := hN _ (List.mem_of_getElem? (i := 176) (by decide +kernel))
theorem en_el_7_2 (hN : ∀ w ∈ flN, w.before #[Value.ref b] s = true) : (Cond.eq (.elem (.field (.string "WeekWheels$WishReader" 107) "java/lang/String" "value" "[B") (.int 2)) (.int 119)).before #[Value.ref b] s = true := hN _ (List.mem_of_getElem? (i := 177) (by decide +kernel))
theorem en_el_7_3 (hN : ∀ w ∈ flN, w.before #[Value.ref b] s = true) : (Cond.eq (.elem (.field (.string "WeekWheels$WishReader" 107) "java/lang/String" "value" "[B") (.int 3)) (.int 110)).before #[Value.ref b] s = true := hN _ (List.mem_of_getElem? (i := 178) (by decide +kernel))
theorem en_ex_8 (hN : ∀ w ∈ flN, w.before #[Value.ref b] s = true) : (Cond.exactly (.string "WeekWheels$WishReader" 112) "java/lang/String").before #[Value.ref b] s = true := hN _ (List.mem_of_getElem? (i := 188) (by decide +kernel))
theorem en_co_8 (hN : ∀ w ∈ flN, w.before #[Value.ref b] s = true) : (Cond.eq (.field (.string "WeekWheels$WishReader" 112) "java/lang/String" "coder" "B") (.int 0)).before #[Value.ref b] s = true := hN _ (List.mem_of_getElem? (i := 189) (by decide +kernel))
theorem en_ar_8 (hN : ∀ w ∈ flN, w.before #[Value.ref b] s = true) : (Cond.arrayOf (.field (.string "WeekWheels$WishReader" 112) "java/lang/String" "value" "[B") .byte).before #[Value.ref b] s = true := hN _ (List.mem_of_getElem? (i := 190) (by decide +kernel))
theorem en_le_8 (hN : ∀ w ∈ flN, w.before #[Value.ref b] s = true) : (Cond.eq (.length (.field (.string "WeekWheels$WishReader" 112) "java/lang/String" "value" "[B")) (.int 3)).before #[Value.ref b] s = true := hN _ (List.mem_of_getElem? (i := 191) (by decide +kernel))
theorem en_el_8_0 (hN : ∀ w ∈ flN, w.before #[Value.ref b] s = true) : (Cond.eq (.elem (.field (.string "WeekWheels$WishReader" 112) "java/lang/String" "value" "[B") (.int 0)) (.int 100)).before #[Value.ref b] s = true := hN _ (List.mem_of_getElem? (i := 192) (by decide +kernel))
theorem en_el_8_1 (hN : ∀ w ∈ flN, w.before #[Value.ref b] s = true) : (Cond.eq (.elem (.field (.string "WeekWheels$WishReader" 112) "java/lang/String" "value" "[B") (.int 1)) (.int 97)).before #[Value.ref b] s = true := hN _ (List.mem_of_getElem? (i := 193) (by decide +kernel))
theorem en_el_8_2 (hN : ∀ w ∈ flN, w.before #[Value.ref b] s = true) : (Cond.eq (.elem (.field (.string "WeekWheels$WishReader" 112) "java/lang/String" "value" "[B") (.int 2)) (.int 121)).before #[Value.ref b] s = true := hN _ (List.mem_of_getElem? (i := 194) (by decide +kernel))
theorem en_ex_9 (hN : ∀ w ∈ flN, w.before #[Value.ref b] s = true) : (Cond.exactly (.string "WeekWheels$WishReader" 68) "java/lang/String").before #[Value.ref b] s = true := hN _ (List.mem_of_getElem? (i := 225) (by decide +kernel))
theorem en_co_9 (hN : ∀ w ∈ flN, w.before #[Value.ref b] s = true) : (Cond.eq (.field (.string "WeekWheels$WishReader" 68) "java/lang/String" "coder" "B") (.int 0)).before #[Value.ref b] s = true := hN _ (List.mem_of_getElem? (i := 226) (by decide +kernel))
theorem en_ar_9 (hN : ∀ w ∈ flN, w.before #[Value.ref b] s = true) : (Cond.arrayOf (.field (.string "WeekWheels$WishReader" 68) "java/lang/String" "value" "[B") .byte).before #[Value.ref b] s = true := hN _ (List.mem_of_getElem? (i := 227) (by decide +kernel))
theorem en_le_9 (hN : ∀ w ∈ flN, w.before #[Value.ref b] s = true) : (Cond.eq (.length (.field (.string "WeekWheels$WishReader" 68) "java/lang/String" "value" "[B")) (.int 3)).before #[Value.ref b] s = true := hN _ (List.mem_of_getElem? (i := 228) (by decide +kernel))
theorem en_el_9_0 (hN : ∀ w ∈ flN, w.before #[Value.ref b] s = true) : (Cond.eq (.elem (.field (.string "WeekWheels$WishReader" 68) "java/lang/String" "value" "[B") (.int 0)) (.int 97)).before #[Value.ref b] s = true := hN _ (List.mem_of_getElem? (i := 229) (by decide +kernel))
theorem en_el_9_1 (hN : ∀ w ∈ flN, w.before #[Value.ref b] s = true) : (Cond.eq (.elem (.field (.string "WeekWheels$WishReader" 68) "java/lang/String" "value" "[B") (.int 1)) (.int 110)).before #[Value.ref b] s = true := hN _ (List.mem_of_getElem? (i := 230) (by decide +kernel))
theorem en_el_9_2 (hN : ∀ w ∈ flN, w.before #[Value.ref b] s = true) : (Cond.eq (.elem (.field (.string "WeekWheels$WishReader" 68) "java/lang/String" "value" "[B") (.int 2)) (.int 100)).before #[Value.ref b] s = true := hN _ (List.mem_of_getElem? (i := 231) (by decide +kernel))
theorem en_ex_10 (hN : ∀ w ∈ flN, w.before #[Value.ref b] s = true) : (Cond.exactly (.string "WeekWheels$WishReader" 55) "java/lang/String").before #[Value.ref b] s = true := hN _ (List.mem_of_getElem? (i := 244) (by decide +kernel))
theorem en_co_10 (hN : ∀ w ∈ flN, w.before #[Value.ref b] s = true) : (Cond.eq (.field (.string "WeekWheels$WishReader" 55) "java/lang/String" "coder" "B") (.int 0)).before #[Value.ref b] s = true := hN _ (List.mem_of_getElem? (i := 245) (by decide +kernel))
theorem en_ar_10 (hN : ∀ w ∈ flN, w.before #[Value.ref b] s = true) : (Cond.arrayOf (.field (.string "WeekWheels$WishReader" 55) "java/lang/String" "value" "[B") .byte).before #[Value.ref b] s = true := hN _ (List.mem_of_getElem? (i := 246) (by decide +kernel))
theorem en_le_10 (hN : ∀ w ∈ flN, w.before #[Value.ref b] s = true) : (Cond.eq (.length (.field (.string "WeekWheels$WishReader" 55) "java/lang/String" "value" "[B")) (.int 2)).before #[Value.ref b] s = true := hN _ (List.mem_of_getElem? (i := 247) (by decide +kernel))
theorem en_el_10_0 (hN : ∀ w ∈ flN, w.before #[Value.ref b] s = true) : (Cond.eq (.elem (.field (.string "WeekWheels$WishReader" 55) "java/lang/String" "value" "[B") (.int 0)) (.int 111)).before #[Value.ref b] s = true := hN _ (List.mem_of_getElem? (i := 248) (by decide +kernel))
theorem en_el_10_1 (hN : ∀ w ∈ flN, w.before #[Value.ref b] s = true) : (Cond.eq (.elem (.field (.string "WeekWheels$WishReader" 55) "java/lang/String" "value" "[B") (.int 1)) (.int 114)).before #[Value.ref b] s = true := hN _ (List.mem_of_getElem? (i := 249) (by decide +kernel))
theorem en_ex_11 (hN : ∀ w ∈ flN, w.before #[Value.ref b] s = true) : (Cond.exactly (.string "WeekWheels" 378) "java/lang/String").before #[Value.ref b] s = true := hN _ (List.mem_of_getElem? (i := 51) (by decide +kernel))
theorem en_ex_12 (hN : ∀ w ∈ flN, w.before #[Value.ref b] s = true) : (Cond.exactly (.string "WeekWheels" 373) "java/lang/String").before #[Value.ref b] s = true := hN _ (List.mem_of_getElem? (i := 263) (by decide +kernel))
theorem en_ex_13 (hN : ∀ w ∈ flN, w.before #[Value.ref b] s = true) : (Cond.exactly (.string "WeekWheels" 366) "java/lang/String").before #[Value.ref b] s = true := hN _ (List.mem_of_getElem? (i := 307) (by decide +kernel))
theorem en_ne_0_1 (hN : ∀ w ∈ flN, w.before #[Value.ref b] s = true) : (Cond.not (Cond.eq (.string "WeekWheels$Calendar" 94) (.string "WeekWheels$Calendar" 104))).before #[Value.ref b] s = true := hN _ (List.mem_of_getElem? (i := 89) (by decide +kernel))
theorem en_ne_0_2 (hN : ∀ w ∈ flN, w.before #[Value.ref b] s = true) : (Cond.not (Cond.eq (.string "WeekWheels$Calendar" 94) (.string "WeekWheels$Calendar" 106))).before #[Value.ref b] s = true := hN _ (List.mem_of_getElem? (i := 100) (by decide +kernel))
theorem en_ne_0_3 (hN : ∀ w ∈ flN, w.before #[Value.ref b] s = true) : (Cond.not (Cond.eq (.string "WeekWheels$Calendar" 94) (.string "WeekWheels$Calendar" 111))).before #[Value.ref b] s = true := hN _ (List.mem_of_getElem? (i := 111) (by decide +kernel))
theorem en_ne_0_4 (hN : ∀ w ∈ flN, w.before #[Value.ref b] s = true) : (Cond.not (Cond.eq (.string "WeekWheels$Calendar" 94) (.string "WeekWheels$Calendar" 116))).before #[Value.ref b] s = true := hN _ (List.mem_of_getElem? (i := 124) (by decide +kernel))
theorem en_ne_0_5 (hN : ∀ w ∈ flN, w.before #[Value.ref b] s = true) : (Cond.not (Cond.eq (.string "WeekWheels$Calendar" 94) (.string "WeekWheels$WishReader" 70))).before #[Value.ref b] s = true := hN _ (List.mem_of_getElem? (i := 136) (by decide +kernel))
theorem en_ne_0_6 (hN : ∀ w ∈ flN, w.before #[Value.ref b] s = true) : (Cond.not (Cond.eq (.string "WeekWheels$Calendar" 94) (.string "WeekWheels$WishReader" 105))).before #[Value.ref b] s = true := hN _ (List.mem_of_getElem? (i := 164) (by decide +kernel))
theorem en_ne_0_7 (hN : ∀ w ∈ flN, w.before #[Value.ref b] s = true) : (Cond.not (Cond.eq (.string "WeekWheels$Calendar" 94) (.string "WeekWheels$WishReader" 107))).before #[Value.ref b] s = true := hN _ (List.mem_of_getElem? (i := 180) (by decide +kernel))
theorem en_ne_0_8 (hN : ∀ w ∈ flN, w.before #[Value.ref b] s = true) : (Cond.not (Cond.eq (.string "WeekWheels$Calendar" 94) (.string "WeekWheels$WishReader" 112))).before #[Value.ref b] s = true := hN _ (List.mem_of_getElem? (i := 196) (by decide +kernel))
theorem en_ne_0_9 (hN : ∀ w ∈ flN, w.before #[Value.ref b] s = true) : (Cond.not (Cond.eq (.string "WeekWheels$Calendar" 94) (.string "WeekWheels$WishReader" 68))).before #[Value.ref b] s = true := hN _ (List.mem_of_getElem? (i := 233) (by decide +kernel))
theorem en_ne_0_10 (hN : ∀ w ∈ flN, w.before #[Value.ref b] s = true) : (Cond.not (Cond.eq (.string "WeekWheels$Calendar" 94) (.string "WeekWheels$WishReader" 55))).before #[Value.ref b] s = true := hN _ (List.mem_of_getElem? (i := 251) (by decide +kernel))
theorem en_ne_1_2 (hN : ∀ w ∈ flN, w.before #[Value.ref b] s = true) : (Cond.not (Cond.eq (.string "WeekWheels$Calendar" 104) (.string "WeekWheels$Calendar" 106))).before #[Value.ref b] s = true := hN _ (List.mem_of_getElem? (i := 101) (by decide +kernel))
theorem en_ne_1_3 (hN : ∀ w ∈ flN, w.before #[Value.ref b] s = true) : (Cond.not (Cond.eq (.string "WeekWheels$Calendar" 104) (.string "WeekWheels$Calendar" 111))).before #[Value.ref b] s = true := hN _ (List.mem_of_getElem? (i := 112) (by decide +kernel))
theorem en_ne_1_4 (hN : ∀ w ∈ flN, w.before #[Value.ref b] s = true) : (Cond.not (Cond.eq (.string "WeekWheels$Calendar" 104) (.string "WeekWheels$Calendar" 116))).before #[Value.ref b] s = true := hN _ (List.mem_of_getElem? (i := 125) (by decide +kernel))
theorem en_ne_1_5 (hN : ∀ w ∈ flN, w.before #[Value.ref b] s = true) : (Cond.not (Cond.eq (.string "WeekWheels$Calendar" 104) (.string "WeekWheels$WishReader" 70))).before #[Value.ref b] s = true := hN _ (List.mem_of_getElem? (i := 137) (by decide +kernel))
theorem en_ne_1_6 (hN : ∀ w ∈ flN, w.before #[Value.ref b] s = true) : (Cond.not (Cond.eq (.string "WeekWheels$Calendar" 104) (.string "WeekWheels$WishReader" 105))).before #[Value.ref b] s = true := hN _ (List.mem_of_getElem? (i := 165) (by decide +kernel))
theorem en_ne_1_7 (hN : ∀ w ∈ flN, w.before #[Value.ref b] s = true) : (Cond.not (Cond.eq (.string "WeekWheels$Calendar" 104) (.string "WeekWheels$WishReader" 107))).before #[Value.ref b] s = true := hN _ (List.mem_of_getElem? (i := 181) (by decide +kernel))
theorem en_ne_1_8 (hN : ∀ w ∈ flN, w.before #[Value.ref b] s = true) : (Cond.not (Cond.eq (.string "WeekWheels$Calendar" 104) (.string "WeekWheels$WishReader" 112))).before #[Value.ref b] s = true := hN _ (List.mem_of_getElem? (i := 197) (by decide +kernel))
theorem en_ne_1_9 (hN : ∀ w ∈ flN, w.before #[Value.ref b] s = true) : (Cond.not (Cond.eq (.string "WeekWheels$Calendar" 104) (.string "WeekWheels$WishReader" 68))).before #[Value.ref b] s = true := hN _ (List.mem_of_getElem? (i := 234) (by decide +kernel))
theorem en_ne_1_10 (hN : ∀ w ∈ flN, w.before #[Value.ref b] s = true) : (Cond.not (Cond.eq (.string "WeekWheels$Calendar" 104) (.string "WeekWheels$WishReader" 55))).before #[Value.ref b] s = true := hN _ (List.mem_of_getElem? (i := 252) (by decide +kernel))
theorem en_ne_2_3 (hN : ∀ w ∈ flN, w.before #[Value.ref b] s = true) : (Cond.not (Cond.eq (.string "WeekWheels$Calendar" 106) (.string "WeekWheels$Calendar" 111))).before #[Value.ref b] s = true := hN _ (List.mem_of_getElem? (i := 113) (by decide +kernel))
theorem en_ne_2_4 (hN : ∀ w ∈ flN, w.before #[Value.ref b] s = true) : (Cond.not (Cond.eq (.string "WeekWheels$Calendar" 106) (.string "WeekWheels$Calendar" 116))).before #[Value.ref b] s = true := hN _ (List.mem_of_getElem? (i := 126) (by decide +kernel))
theorem en_ne_2_5 (hN : ∀ w ∈ flN, w.before #[Value.ref b] s = true) : (Cond.not (Cond.eq (.string "WeekWheels$Calendar" 106) (.string "WeekWheels$WishReader" 70))).before #[Value.ref b] s = true := hN _ (List.mem_of_getElem? (i := 138) (by decide +kernel))
theorem en_ne_2_6 (hN : ∀ w ∈ flN, w.before #[Value.ref b] s = true) : (Cond.not (Cond.eq (.string "WeekWheels$Calendar" 106) (.string "WeekWheels$WishReader" 105))).before #[Value.ref b] s = true := hN _ (List.mem_of_getElem? (i := 166) (by decide +kernel))
theorem en_ne_2_7 (hN : ∀ w ∈ flN, w.before #[Value.ref b] s = true) : (Cond.not (Cond.eq (.string "WeekWheels$Calendar" 106) (.string "WeekWheels$WishReader" 107))).before #[Value.ref b] s = true := hN _ (List.mem_of_getElem? (i := 182) (by decide +kernel))
theorem en_ne_2_8 (hN : ∀ w ∈ flN, w.before #[Value.ref b] s = true) : (Cond.not (Cond.eq (.string "WeekWheels$Calendar" 106) (.string "WeekWheels$WishReader" 112))).before #[Value.ref b] s = true := hN _ (List.mem_of_getElem? (i := 198) (by decide +kernel))
theorem en_ne_2_9 (hN : ∀ w ∈ flN, w.before #[Value.ref b] s = true) : (Cond.not (Cond.eq (.string "WeekWheels$Calendar" 106) (.string "WeekWheels$WishReader" 68))).before #[Value.ref b] s = true := hN _ (List.mem_of_getElem? (i := 235) (by decide +kernel))
theorem en_ne_2_10 (hN : ∀ w ∈ flN, w.before #[Value.ref b] s = true) : (Cond.not (Cond.eq (.string "WeekWheels$Calendar" 106) (.string "WeekWheels$WishReader" 55))).before #[Value.ref b] s = true := hN _ (List.mem_of_getElem? (i := 253) (by decide +kernel))
theorem en_ne_3_4 (hN : ∀ w ∈ flN, w.before #[Value.ref b] s = true) : (Cond.not (Cond.eq (.string "WeekWheels$Calendar" 111) (.string "WeekWheels$Calendar" 116))).before #[Value.ref b] s = true := hN _ (List.mem_of_getElem? (i := 127) (by decide +kernel))
theorem en_ne_3_5 (hN : ∀ w ∈ flN, w.before #[Value.ref b] s = true) : (Cond.not (Cond.eq (.string "WeekWheels$Calendar" 111) (.string "WeekWheels$WishReader" 70))).before #[Value.ref b] s = true := hN _ (List.mem_of_getElem? (i := 139) (by decide +kernel))
theorem en_ne_3_6 (hN : ∀ w ∈ flN, w.before #[Value.ref b] s = true) : (Cond.not (Cond.eq (.string "WeekWheels$Calendar" 111) (.string "WeekWheels$WishReader" 105))).before #[Value.ref b] s = true := hN _ (List.mem_of_getElem? (i := 167) (by decide +kernel))
theorem en_ne_3_7 (hN : ∀ w ∈ flN, w.before #[Value.ref b] s = true) : (Cond.not (Cond.eq (.string "WeekWheels$Calendar" 111) (.string "WeekWheels$WishReader" 107))).before #[Value.ref b] s = true := hN _ (List.mem_of_getElem? (i := 183) (by decide +kernel))
theorem en_ne_3_8 (hN : ∀ w ∈ flN, w.before #[Value.ref b] s = true) : (Cond.not (Cond.eq (.string "WeekWheels$Calendar" 111) (.string "WeekWheels$WishReader" 112))).before #[Value.ref b] s = true := hN _ (List.mem_of_getElem? (i := 199) (by decide +kernel))
theorem en_ne_3_9 (hN : ∀ w ∈ flN, w.before #[Value.ref b] s = true) : (Cond.not (Cond.eq (.string "WeekWheels$Calendar" 111) (.string "WeekWheels$WishReader" 68))).before #[Value.ref b] s = true := hN _ (List.mem_of_getElem? (i := 236) (by decide +kernel))
theorem en_ne_3_10 (hN : ∀ w ∈ flN, w.before #[Value.ref b] s = true) : (Cond.not (Cond.eq (.string "WeekWheels$Calendar" 111) (.string "WeekWheels$WishReader" 55))).before #[Value.ref b] s = true := hN _ (List.mem_of_getElem? (i := 254) (by decide +kernel))
theorem en_ne_4_5 (hN : ∀ w ∈ flN, w.before #[Value.ref b] s = true) : (Cond.not (Cond.eq (.string "WeekWheels$Calendar" 116) (.string "WeekWheels$WishReader" 70))).before #[Value.ref b] s = true := hN _ (List.mem_of_getElem? (i := 140) (by decide +kernel))
theorem en_ne_4_6 (hN : ∀ w ∈ flN, w.before #[Value.ref b] s = true) : (Cond.not (Cond.eq (.string "WeekWheels$Calendar" 116) (.string "WeekWheels$WishReader" 105))).before #[Value.ref b] s = true := hN _ (List.mem_of_getElem? (i := 168) (by decide +kernel))
theorem en_ne_4_7 (hN : ∀ w ∈ flN, w.before #[Value.ref b] s = true) : (Cond.not (Cond.eq (.string "WeekWheels$Calendar" 116) (.string "WeekWheels$WishReader" 107))).before #[Value.ref b] s = true := hN _ (List.mem_of_getElem? (i := 184) (by decide +kernel))
theorem en_ne_4_8 (hN : ∀ w ∈ flN, w.before #[Value.ref b] s = true) : (Cond.not (Cond.eq (.string "WeekWheels$Calendar" 116) (.string "WeekWheels$WishReader" 112))).before #[Value.ref b] s = true := hN _ (List.mem_of_getElem? (i := 200) (by decide +kernel))
theorem en_ne_4_9 (hN : ∀ w ∈ flN, w.before #[Value.ref b] s = true) : (Cond.not (Cond.eq (.string "WeekWheels$Calendar" 116) (.string "WeekWheels$WishReader" 68))).before #[Value.ref b] s = true := hN _ (List.mem_of_getElem? (i := 237) (by decide +kernel))
theorem en_ne_4_10 (hN : ∀ w ∈ flN, w.before #[Value.ref b] s = true) : (Cond.not (Cond.eq (.string "WeekWheels$Calendar" 116) (.string "WeekWheels$WishReader" 55))).before #[Value.ref b] s = true := hN _ (List.mem_of_getElem? (i := 255) (by decide +kernel))
theorem en_ne_5_6 (hN : ∀ w ∈ flN, w.before #[Value.ref b] s = true) : (Cond.not (Cond.eq (.string "WeekWheels$WishReader" 70) (.string "WeekWheels$WishReader" 105))).before #[Value.ref b] s = true := hN _ (List.mem_of_getElem? (i := 169) (by decide +kernel))
theorem en_ne_5_7 (hN : ∀ w ∈ flN, w.before #[Value.ref b] s = true) : (Cond.not (Cond.eq (.string "WeekWheels$WishReader" 70) (.string "WeekWheels$WishReader" 107))).before #[Value.ref b] s = true := hN _ (List.mem_of_getElem? (i := 185) (by decide +kernel))
theorem en_ne_5_8 (hN : ∀ w ∈ flN, w.before #[Value.ref b] s = true) : (Cond.not (Cond.eq (.string "WeekWheels$WishReader" 70) (.string "WeekWheels$WishReader" 112))).before #[Value.ref b] s = true := hN _ (List.mem_of_getElem? (i := 201) (by decide +kernel))
theorem en_ne_5_9 (hN : ∀ w ∈ flN, w.before #[Value.ref b] s = true) : (Cond.not (Cond.eq (.string "WeekWheels$WishReader" 70) (.string "WeekWheels$WishReader" 68))).before #[Value.ref b] s = true := hN _ (List.mem_of_getElem? (i := 238) (by decide +kernel))
theorem en_ne_5_10 (hN : ∀ w ∈ flN, w.before #[Value.ref b] s = true) : (Cond.not (Cond.eq (.string "WeekWheels$WishReader" 70) (.string "WeekWheels$WishReader" 55))).before #[Value.ref b] s = true := hN _ (List.mem_of_getElem? (i := 256) (by decide +kernel))
theorem en_ne_6_7 (hN : ∀ w ∈ flN, w.before #[Value.ref b] s = true) : (Cond.not (Cond.eq (.string "WeekWheels$WishReader" 105) (.string "WeekWheels$WishReader" 107))).before #[Value.ref b] s = true := hN _ (List.mem_of_getElem? (i := 187) (by decide +kernel))
theorem en_ne_6_8 (hN : ∀ w ∈ flN, w.before #[Value.ref b] s = true) : (Cond.not (Cond.eq (.string "WeekWheels$WishReader" 105) (.string "WeekWheels$WishReader" 112))).before #[Value.ref b] s = true := hN _ (List.mem_of_getElem? (i := 203) (by decide +kernel))
theorem en_ne_6_9 (hN : ∀ w ∈ flN, w.before #[Value.ref b] s = true) : (Cond.not (Cond.eq (.string "WeekWheels$WishReader" 105) (.string "WeekWheels$WishReader" 68))).before #[Value.ref b] s = true := hN _ (List.mem_of_getElem? (i := 240) (by decide +kernel))
theorem en_ne_6_10 (hN : ∀ w ∈ flN, w.before #[Value.ref b] s = true) : (Cond.not (Cond.eq (.string "WeekWheels$WishReader" 105) (.string "WeekWheels$WishReader" 55))).before #[Value.ref b] s = true := hN _ (List.mem_of_getElem? (i := 258) (by decide +kernel))
theorem en_ne_7_8 (hN : ∀ w ∈ flN, w.before #[Value.ref b] s = true) : (Cond.not (Cond.eq (.string "WeekWheels$WishReader" 107) (.string "WeekWheels$WishReader" 112))).before #[Value.ref b] s = true := hN _ (List.mem_of_getElem? (i := 204) (by decide +kernel))
theorem en_ne_7_9 (hN : ∀ w ∈ flN, w.before #[Value.ref b] s = true) : (Cond.not (Cond.eq (.string "WeekWheels$WishReader" 107) (.string "WeekWheels$WishReader" 68))).before #[Value.ref b] s = true := hN _ (List.mem_of_getElem? (i := 241) (by decide +kernel))
theorem en_ne_7_10 (hN : ∀ w ∈ flN, w.before #[Value.ref b] s = true) : (Cond.not (Cond.eq (.string "WeekWheels$WishReader" 107) (.string "WeekWheels$WishReader" 55))).before #[Value.ref b] s = true := hN _ (List.mem_of_getElem? (i := 259) (by decide +kernel))
theorem en_ne_8_9 (hN : ∀ w ∈ flN, w.before #[Value.ref b] s = true) : (Cond.not (Cond.eq (.string "WeekWheels$WishReader" 112) (.string "WeekWheels$WishReader" 68))).before #[Value.ref b] s = true := hN _ (List.mem_of_getElem? (i := 242) (by decide +kernel))
theorem en_ne_8_10 (hN : ∀ w ∈ flN, w.before #[Value.ref b] s = true) : (Cond.not (Cond.eq (.string "WeekWheels$WishReader" 112) (.string "WeekWheels$WishReader" 55))).before #[Value.ref b] s = true := hN _ (List.mem_of_getElem? (i := 260) (by decide +kernel))
theorem en_ne_9_10 (hN : ∀ w ∈ flN, w.before #[Value.ref b] s = true) : (Cond.not (Cond.eq (.string "WeekWheels$WishReader" 68) (.string "WeekWheels$WishReader" 55))).before #[Value.ref b] s = true := hN _ (List.mem_of_getElem? (i := 262) (by decide +kernel))
theorem en_eq_0 (hN : ∀ w ∈ flN, w.before #[Value.ref b] s = true) : (Cond.eq (.string "WeekWheels$Calendar" 94) (.string "WeekWheels$WishReader" 88)).before #[Value.ref b] s = true := hN _ (List.mem_of_getElem? (i := 149) (by decide +kernel))
theorem en_eq_1 (hN : ∀ w ∈ flN, w.before #[Value.ref b] s = true) : (Cond.eq (.string "WeekWheels$Calendar" 106) (.string "WeekWheels$WishReader" 114)).before #[Value.ref b] s = true := hN _ (List.mem_of_getElem? (i := 217) (by decide +kernel))
theorem en_s0 (hN : ∀ w ∈ flN, w.before #[Value.ref b] s = true) : (Cond.isRef (.static "java/lang/Throwable" "UNASSIGNED_STACK" "[Ljava/lang/StackTraceElement;")).before #[Value.ref b] s = true := hN _ (List.mem_of_getElem? (i := 2) (by decide +kernel))
theorem en_s1 (hN : ∀ w ∈ flN, w.before #[Value.ref b] s = true) : (Cond.isRef (.static "java/lang/Throwable" "SUPPRESSED_SENTINEL" "Ljava/util/List;")).before #[Value.ref b] s = true := hN _ (List.mem_of_getElem? (i := 3) (by decide +kernel))
theorem en_s2 (hN : ∀ w ∈ flN, w.before #[Value.ref b] s = true) : (Cond.eq (.static "java/lang/String" "COMPACT_STRINGS" "Z") (.int 1)).before #[Value.ref b] s = true := hN _ (List.mem_of_getElem? (i := 4) (by decide +kernel))
theorem en_s3 (hN : ∀ w ∈ flN, w.before #[Value.ref b] s = true) : (Cond.isRef (.static "jdk/internal/util/Preconditions" "SIOOBE_FORMATTER" "Ljava/util/function/BiFunction;")).before #[Value.ref b] s = true := hN _ (List.mem_of_getElem? (i := 5) (by decide +kernel))
theorem en_c0 (hN : ∀ w ∈ flN, w.before #[Value.ref b] s = true) : (Cond.not (.castable "java/lang/IllegalArgumentException" "java/util/NoSuchElementException")).before #[Value.ref b] s = true := hN _ (List.mem_of_getElem? (i := 35) (by decide +kernel))
theorem en_c1 (hN : ∀ w ∈ flN, w.before #[Value.ref b] s = true) : (Cond.not (.castable "java/util/NoSuchElementException" "java/lang/IndexOutOfBoundsException")).before #[Value.ref b] s = true := hN _ (List.mem_of_getElem? (i := 50) (by decide +kernel))
theorem en_c2 (hN : ∀ w ∈ flN, w.before #[Value.ref b] s = true) : (Cond.not (.castable "java/lang/IllegalArgumentException" "java/lang/IndexOutOfBoundsException")).before #[Value.ref b] s = true := hN _ (List.mem_of_getElem? (i := 49) (by decide +kernel))
theorem es_ex (hN : ∀ w ∈ flN, w.before #[Value.ref b] s = true) :  ∀ i : Nat, i < 11 → (Cond.exactly (tmS i) "java/lang/String").before #[Value.ref b] s = true := by
  intro i hi
  match i, hi with
  | 0, _ => exact en_ex_0 hN
  | 1, _ => exact en_ex_1 hN
  | 2, _ => exact en_ex_2 hN
  | 3, _ => exact en_ex_3 hN
  | 4, _ => exact en_ex_4 hN
  | 5, _ => exact en_ex_5 hN
  | 6, _ => exact en_ex_6 hN
  | 7, _ => exact en_ex_7 hN
  | 8, _ => exact en_ex_8 hN
  | 9, _ => exact en_ex_9 hN
  | 10, _ => exact en_ex_10 hN
  | k + 11, hi => exact absurd hi (by omega)
theorem es_co (hN : ∀ w ∈ flN, w.before #[Value.ref b] s = true) :  ∀ i : Nat, i < 11 → (Cond.eq (.field (tmS i) "java/lang/String" "coder" "B") (.int 0)).before #[Value.ref b] s = true := by
  intro i hi
  match i, hi with
  | 0, _ => exact en_co_0 hN
  | 1, _ => exact en_co_1 hN
  | 2, _ => exact en_co_2 hN
  | 3, _ => exact en_co_3 hN
  | 4, _ => exact en_co_4 hN
  | 5, _ => exact en_co_5 hN
  | 6, _ => exact en_co_6 hN
  | 7, _ => exact en_co_7 hN
  | 8, _ => exact en_co_8 hN
  | 9, _ => exact en_co_9 hN
  | 10, _ => exact en_co_10 hN
  | k + 11, hi => exact absurd hi (by omega)
theorem es_ar (hN : ∀ w ∈ flN, w.before #[Value.ref b] s = true) :  ∀ i : Nat, i < 11 → (Cond.arrayOf (.field (tmS i) "java/lang/String" "value" "[B") .byte).before #[Value.ref b] s = true := by
  intro i hi
  match i, hi with
  | 0, _ => exact en_ar_0 hN
  | 1, _ => exact en_ar_1 hN
  | 2, _ => exact en_ar_2 hN
  | 3, _ => exact en_ar_3 hN
  | 4, _ => exact en_ar_4 hN
  | 5, _ => exact en_ar_5 hN
  | 6, _ => exact en_ar_6 hN
  | 7, _ => exact en_ar_7 hN
  | 8, _ => exact en_ar_8 hN
  | 9, _ => exact en_ar_9 hN
  | 10, _ => exact en_ar_10 hN
  | k + 11, hi => exact absurd hi (by omega)
theorem es_le (hN : ∀ w ∈ flN, w.before #[Value.ref b] s = true) :  ∀ i : Nat, i < 11 → (Cond.eq (.length (.field (tmS i) "java/lang/String" "value" "[B")) (.int (Int32.ofNat (sLen.getD i 0)))).before #[Value.ref b] s = true := by
  intro i hi
  match i, hi with
  | 0, _ => exact en_le_0 hN
  | 1, _ => exact en_le_1 hN
  | 2, _ => exact en_le_2 hN
  | 3, _ => exact en_le_3 hN
  | 4, _ => exact en_le_4 hN
  | 5, _ => exact en_le_5 hN
  | 6, _ => exact en_le_6 hN
  | 7, _ => exact en_le_7 hN
  | 8, _ => exact en_le_8 hN
  | 9, _ => exact en_le_9 hN
  | 10, _ => exact en_le_10 hN
  | k + 11, hi => exact absurd hi (by omega)
theorem es_el (hN : ∀ w ∈ flN, w.before #[Value.ref b] s = true) : ∀ i : Nat, i < 11 → ∀ j : Nat, j < sLen.getD i 0 → (Cond.eq (.elem (.field (tmS i) "java/lang/String" "value" "[B") (.int (Int32.ofNat j))) (.int ((sByt.getD i []).getD j 0))).before #[Value.ref b] s = true := by
  intro i hi j hj
  match i, hi with
  | 0, _ =>
    have hj : j < 3 := hj
    match j, hj with
    | 0, _ => exact en_el_0_0 hN
    | 1, _ => exact en_el_0_1 hN
    | 2, _ => exact en_el_0_2 hN
    | j + 3, hj => exact absurd hj (by omega)
  | 1, _ =>
    have hj : j < 5 := hj
    match j, hj with
    | 0, _ => exact en_el_1_0 hN
    | 1, _ => exact en_el_1_1 hN
    | 2, _ => exact en_el_1_2 hN
    | 3, _ => exact en_el_1_3 hN
    | 4, _ => exact en_el_1_4 hN
    | j + 5, hj => exact absurd hj (by omega)
  | 2, _ =>
    have hj : j < 5 := hj
    match j, hj with
    | 0, _ => exact en_el_2_0 hN
    | 1, _ => exact en_el_2_1 hN
    | 2, _ => exact en_el_2_2 hN
    | 3, _ => exact en_el_2_3 hN
    | 4, _ => exact en_el_2_4 hN
    | j + 5, hj => exact absurd hj (by omega)
  | 3, _ =>
    have hj : j < 4 := hj
    match j, hj with
    | 0, _ => exact en_el_3_0 hN
    | 1, _ => exact en_el_3_1 hN
    | 2, _ => exact en_el_3_2 hN
    | 3, _ => exact en_el_3_3 hN
    | j + 4, hj => exact absurd hj (by omega)
  | 4, _ =>
    have hj : j < 5 := hj
    match j, hj with
    | 0, _ => exact en_el_4_0 hN
    | 1, _ => exact en_el_4_1 hN
    | 2, _ => exact en_el_4_2 hN
    | 3, _ => exact en_el_4_3 hN
    | 4, _ => exact en_el_4_4 hN
    | j + 5, hj => exact absurd hj (by omega)
  | 5, _ =>
    have hj : j < 3 := hj
    match j, hj with
    | 0, _ => exact en_el_5_0 hN
    | 1, _ => exact en_el_5_1 hN
    | 2, _ => exact en_el_5_2 hN
    | j + 3, hj => exact absurd hj (by omega)
  | 6, _ =>
    have hj : j < 4 := hj
    match j, hj with
    | 0, _ => exact en_el_6_0 hN
    | 1, _ => exact en_el_6_1 hN
    | 2, _ => exact en_el_6_2 hN
    | 3, _ => exact en_el_6_3 hN
    | j + 4, hj => exact absurd hj (by omega)
  | 7, _ =>
    have hj : j < 4 := hj
    match j, hj with
    | 0, _ => exact en_el_7_0 hN
    | 1, _ => exact en_el_7_1 hN
    | 2, _ => exact en_el_7_2 hN
    | 3, _ => exact en_el_7_3 hN
    | j + 4, hj => exact absurd hj (by omega)
  | 8, _ =>
    have hj : j < 3 := hj
    match j, hj with
    | 0, _ => exact en_el_8_0 hN
    | 1, _ => exact en_el_8_1 hN
    | 2, _ => exact en_el_8_2 hN
    | j + 3, hj => exact absurd hj (by omega)
  | 9, _ =>
    have hj : j < 3 := hj
    match j, hj with
    | 0, _ => exact en_el_9_0 hN
    | 1, _ => exact en_el_9_1 hN
    | 2, _ => exact en_el_9_2 hN
    | j + 3, hj => exact absurd hj (by omega)
  | 10, _ =>
    have hj : j < 2 := hj
    match j, hj with
    | 0, _ => exact en_el_10_0 hN
    | 1, _ => exact en_el_10_1 hN
    | j + 2, hj => exact absurd hj (by omega)
  | k + 11, hi => exact absurd hi (by omega)
theorem es_ne (hN : ∀ w ∈ flN, w.before #[Value.ref b] s = true) : ∀ i j : Nat, i < 11 → j < 11 → i ≠ j → (Cond.not (Cond.eq (tmS i) (tmS j))).before #[Value.ref b] s = true ∨ (Cond.not (Cond.eq (tmS j) (tmS i))).before #[Value.ref b] s = true := by
  intro i j hi hj hne
  match i, hi with
  | 0, _ =>
    match j, hj with
    | 0, _ => exact absurd rfl hne
    | 1, _ => exact Or.inl (en_ne_0_1 hN)
    | 2, _ => exact Or.inl (en_ne_0_2 hN)
    | 3, _ => exact Or.inl (en_ne_0_3 hN)
    | 4, _ => exact Or.inl (en_ne_0_4 hN)
    | 5, _ => exact Or.inl (en_ne_0_5 hN)
    | 6, _ => exact Or.inl (en_ne_0_6 hN)
    | 7, _ => exact Or.inl (en_ne_0_7 hN)
    | 8, _ => exact Or.inl (en_ne_0_8 hN)
    | 9, _ => exact Or.inl (en_ne_0_9 hN)
    | 10, _ => exact Or.inl (en_ne_0_10 hN)
    | k + 11, hj => exact absurd hj (by omega)
  | 1, _ =>
    match j, hj with
    | 0, _ => exact Or.inr (en_ne_0_1 hN)
    | 1, _ => exact absurd rfl hne
    | 2, _ => exact Or.inl (en_ne_1_2 hN)
    | 3, _ => exact Or.inl (en_ne_1_3 hN)
    | 4, _ => exact Or.inl (en_ne_1_4 hN)
    | 5, _ => exact Or.inl (en_ne_1_5 hN)
    | 6, _ => exact Or.inl (en_ne_1_6 hN)
    | 7, _ => exact Or.inl (en_ne_1_7 hN)
    | 8, _ => exact Or.inl (en_ne_1_8 hN)
    | 9, _ => exact Or.inl (en_ne_1_9 hN)
    | 10, _ => exact Or.inl (en_ne_1_10 hN)
    | k + 11, hj => exact absurd hj (by omega)
  | 2, _ =>
    match j, hj with
    | 0, _ => exact Or.inr (en_ne_0_2 hN)
    | 1, _ => exact Or.inr (en_ne_1_2 hN)
    | 2, _ => exact absurd rfl hne
    | 3, _ => exact Or.inl (en_ne_2_3 hN)
    | 4, _ => exact Or.inl (en_ne_2_4 hN)
    | 5, _ => exact Or.inl (en_ne_2_5 hN)
    | 6, _ => exact Or.inl (en_ne_2_6 hN)
    | 7, _ => exact Or.inl (en_ne_2_7 hN)
    | 8, _ => exact Or.inl (en_ne_2_8 hN)
    | 9, _ => exact Or.inl (en_ne_2_9 hN)
    | 10, _ => exact Or.inl (en_ne_2_10 hN)
    | k + 11, hj => exact absurd hj (by omega)
  | 3, _ =>
    match j, hj with
    | 0, _ => exact Or.inr (en_ne_0_3 hN)
    | 1, _ => exact Or.inr (en_ne_1_3 hN)
    | 2, _ => exact Or.inr (en_ne_2_3 hN)
    | 3, _ => exact absurd rfl hne
    | 4, _ => exact Or.inl (en_ne_3_4 hN)
    | 5, _ => exact Or.inl (en_ne_3_5 hN)
    | 6, _ => exact Or.inl (en_ne_3_6 hN)
    | 7, _ => exact Or.inl (en_ne_3_7 hN)
    | 8, _ => exact Or.inl (en_ne_3_8 hN)
    | 9, _ => exact Or.inl (en_ne_3_9 hN)
    | 10, _ => exact Or.inl (en_ne_3_10 hN)
    | k + 11, hj => exact absurd hj (by omega)
  | 4, _ =>
    match j, hj with
    | 0, _ => exact Or.inr (en_ne_0_4 hN)
    | 1, _ => exact Or.inr (en_ne_1_4 hN)
    | 2, _ => exact Or.inr (en_ne_2_4 hN)
    | 3, _ => exact Or.inr (en_ne_3_4 hN)
    | 4, _ => exact absurd rfl hne
    | 5, _ => exact Or.inl (en_ne_4_5 hN)
    | 6, _ => exact Or.inl (en_ne_4_6 hN)
    | 7, _ => exact Or.inl (en_ne_4_7 hN)
    | 8, _ => exact Or.inl (en_ne_4_8 hN)
    | 9, _ => exact Or.inl (en_ne_4_9 hN)
    | 10, _ => exact Or.inl (en_ne_4_10 hN)
    | k + 11, hj => exact absurd hj (by omega)
  | 5, _ =>
    match j, hj with
    | 0, _ => exact Or.inr (en_ne_0_5 hN)
    | 1, _ => exact Or.inr (en_ne_1_5 hN)
    | 2, _ => exact Or.inr (en_ne_2_5 hN)
    | 3, _ => exact Or.inr (en_ne_3_5 hN)
    | 4, _ => exact Or.inr (en_ne_4_5 hN)
    | 5, _ => exact absurd rfl hne
    | 6, _ => exact Or.inl (en_ne_5_6 hN)
    | 7, _ => exact Or.inl (en_ne_5_7 hN)
    | 8, _ => exact Or.inl (en_ne_5_8 hN)
    | 9, _ => exact Or.inl (en_ne_5_9 hN)
    | 10, _ => exact Or.inl (en_ne_5_10 hN)
    | k + 11, hj => exact absurd hj (by omega)
  | 6, _ =>
    match j, hj with
    | 0, _ => exact Or.inr (en_ne_0_6 hN)
    | 1, _ => exact Or.inr (en_ne_1_6 hN)
    | 2, _ => exact Or.inr (en_ne_2_6 hN)
    | 3, _ => exact Or.inr (en_ne_3_6 hN)
    | 4, _ => exact Or.inr (en_ne_4_6 hN)
    | 5, _ => exact Or.inr (en_ne_5_6 hN)
    | 6, _ => exact absurd rfl hne
    | 7, _ => exact Or.inl (en_ne_6_7 hN)
    | 8, _ => exact Or.inl (en_ne_6_8 hN)
    | 9, _ => exact Or.inl (en_ne_6_9 hN)
    | 10, _ => exact Or.inl (en_ne_6_10 hN)
    | k + 11, hj => exact absurd hj (by omega)
  | 7, _ =>
    match j, hj with
    | 0, _ => exact Or.inr (en_ne_0_7 hN)
    | 1, _ => exact Or.inr (en_ne_1_7 hN)
    | 2, _ => exact Or.inr (en_ne_2_7 hN)
    | 3, _ => exact Or.inr (en_ne_3_7 hN)
    | 4, _ => exact Or.inr (en_ne_4_7 hN)
    | 5, _ => exact Or.inr (en_ne_5_7 hN)
    | 6, _ => exact Or.inr (en_ne_6_7 hN)
    | 7, _ => exact absurd rfl hne
    | 8, _ => exact Or.inl (en_ne_7_8 hN)
    | 9, _ => exact Or.inl (en_ne_7_9 hN)
    | 10, _ => exact Or.inl (en_ne_7_10 hN)
    | k + 11, hj => exact absurd hj (by omega)
  | 8, _ =>
    match j, hj with
    | 0, _ => exact Or.inr (en_ne_0_8 hN)
    | 1, _ => exact Or.inr (en_ne_1_8 hN)
    | 2, _ => exact Or.inr (en_ne_2_8 hN)
    | 3, _ => exact Or.inr (en_ne_3_8 hN)
    | 4, _ => exact Or.inr (en_ne_4_8 hN)
    | 5, _ => exact Or.inr (en_ne_5_8 hN)
    | 6, _ => exact Or.inr (en_ne_6_8 hN)
    | 7, _ => exact Or.inr (en_ne_7_8 hN)
    | 8, _ => exact absurd rfl hne
    | 9, _ => exact Or.inl (en_ne_8_9 hN)
    | 10, _ => exact Or.inl (en_ne_8_10 hN)
    | k + 11, hj => exact absurd hj (by omega)
  | 9, _ =>
    match j, hj with
    | 0, _ => exact Or.inr (en_ne_0_9 hN)
    | 1, _ => exact Or.inr (en_ne_1_9 hN)
    | 2, _ => exact Or.inr (en_ne_2_9 hN)
    | 3, _ => exact Or.inr (en_ne_3_9 hN)
    | 4, _ => exact Or.inr (en_ne_4_9 hN)
    | 5, _ => exact Or.inr (en_ne_5_9 hN)
    | 6, _ => exact Or.inr (en_ne_6_9 hN)
    | 7, _ => exact Or.inr (en_ne_7_9 hN)
    | 8, _ => exact Or.inr (en_ne_8_9 hN)
    | 9, _ => exact absurd rfl hne
    | 10, _ => exact Or.inl (en_ne_9_10 hN)
    | k + 11, hj => exact absurd hj (by omega)
  | 10, _ =>
    match j, hj with
    | 0, _ => exact Or.inr (en_ne_0_10 hN)
    | 1, _ => exact Or.inr (en_ne_1_10 hN)
    | 2, _ => exact Or.inr (en_ne_2_10 hN)
    | 3, _ => exact Or.inr (en_ne_3_10 hN)
    | 4, _ => exact Or.inr (en_ne_4_10 hN)
    | 5, _ => exact Or.inr (en_ne_5_10 hN)
    | 6, _ => exact Or.inr (en_ne_6_10 hN)
    | 7, _ => exact Or.inr (en_ne_7_10 hN)
    | 8, _ => exact Or.inr (en_ne_8_10 hN)
    | 9, _ => exact Or.inr (en_ne_9_10 hN)
    | 10, _ => exact absurd rfl hne
    | k + 11, hj => exact absurd hj (by omega)
  | k + 11, hi => exact absurd hi (by omega)
end Entry
