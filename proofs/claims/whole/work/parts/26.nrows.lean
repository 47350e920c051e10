/-! THE CONSTRUCTORS' JUDGEMENT PN: the first n things are there; the addresses are found on the way -/
def AGR (n0 : Nat) (ad0 ad : Nat → Nat → Nat) : Prop := ∀ q i, (q < n0 ∨ 1000 ≤ q) → ad q i = ad0 q i
theorem Kx.ad {sz : Nat} {D : va_G} {cy : Nat → ClassId} {ad ad' : Nat → Nat → Nat} {s : State} (h : Kx sz D cy ad s) (ha : ∀ q i, 1000 ≤ q → ad' q i = ad q i) : Kx sz D cy ad' s := by
  obtain ⟨h1, h2, h3, h4, h5, h6, h7, h8, h9, h10⟩ := h
  refine ⟨h1, h2, h3, fun i q hq => by rw [ha _ _ (by omega)]; exact h4 i q hq, fun i q hq => by rw [ha _ _ (by omega)]; exact h5 i q hq, ?_, h7, h8, h9, by rw [ha _ _ (by omega)]; exact h10⟩
  rw [show (fun i => ad' (100000 + i) 0) = fun i => ad (100000 + i) 0 from funext fun i => ha _ _ (by omega), show (fun i => ad' (100000 + i) 1) = fun i => ad (100000 + i) 1 from funext fun i => ha _ _ (by omega)]
  exact h6
theorem va_AOA.moved {t : FieldType} {u U : State} (hvm : u.vm.Alike U.vm) (h : va_AOA t u) : va_AOA t U := by
  have hs : ∃ comp c k, u.vm.findClass (FieldType.array t).toString = some comp ∧ (u.vm.classes.findIdx? fun (x : Class) => match x.kind with | .array component _ => component == comp | _ => false) = some c ∧ u.vm.classes[c]? = some k ∧ k.kind = .array comp (.array t) ∧ u.vm.findClass ("[" ++ (FieldType.array t).toString) = some c := by
    unfold va_AOA Cond.before at h
    simp only [Cond.holds, Cond.value, beq_iff_eq] at h
    cases hc : u.vm.findClass (FieldType.array t).toString with
    | none => simp [hc] at h
    | some comp =>
      simp only [hc, Option.bind_some, Option.bind_eq_some_iff, Option.map_eq_some_iff] at h
      obtain ⟨c, hi, k, hk, hb⟩ := h
      obtain ⟨hlt, hp, -⟩ := Array.findIdx?_eq_some_iff_getElem.mp hi
      have hkk : u.vm.classes[c] = k := (Array.getElem?_eq_some_iff.mp hk).2
      rw [hkk] at hp
      cases hkind : k.kind with
      | array component ty =>
        rw [hkind] at hb hp
        simp at hb hp
        exact ⟨comp, c, k, rfl, hi, hk, by rw [hkind, hp, hb.1], hb.2⟩
      | _ => rw [hkind] at hb; simp at hb
  obtain ⟨comp, c, k, h1, h2, h3, h4, h5⟩ := hs
  obtain ⟨k', hk', he⟩ := hvm.2.2 _ _ h3
  have hi : (U.vm.classes.findIdx? fun (x : Class) => match x.kind with | .array component _ => component == comp | _ => false) = some c := by
    have e1 := va_idx_bare U.vm comp
    have e2 := va_idx_bare u.vm comp
    rw [show U.vm.bare = u.vm.bare from by first | exact hvm.bare_eq | exact hvm.bare_eq.symm] at e1
    exact (e1.symm.trans e2).trans h2
  have hkind : k'.kind = .array comp (.array t) := by rw [he]; exact h4
  have f1 : U.vm.findClass (FieldType.array t).toString = some comp := by rw [hvm.findClass]; exact h1
  have f2 : U.vm.findClass ("[" ++ (FieldType.array t).toString) = some c := by rw [hvm.findClass]; exact h5
  unfold va_AOA Cond.before Cond.holds
  simp only [Cond.value]
  rw [f1, Option.bind_some]
  refine (congrArg (fun o : Option Nat => (o.bind (fun c => (U.vm.classes[c]?).map fun (k : Class) => match k.kind with | .array _ ty => decide (ty = FieldType.array t) && decide (U.vm.findClass ("[" ++ (FieldType.array t).toString) = some c) | _ => false) == some true)) hi).trans ?_
  simp [hk', hkind, f2]
/-- with the array classes of arrays -/
def KN (sz : Nat) (D : va_G) (cy : Nat → ClassId) (ad : Nat → Nat → Nat) (s : State) : Prop := Kx sz D cy ad s ∧ va_AO "WeekWheels$State" s ∧ va_AOA .int s
theorem KN.on {sz : Nat} {D : va_G} {cy : Nat → ClassId} {ad : Nat → Nat → Nat} {s U : State} (h : KN sz D cy ad s) (hW : s.WarmedH U.vm) (hz : s.heap.size ≤ U.heap.size) (hk : ∀ a : Nat, a < s.heap.size → ¬ sz ≤ a → U.heap[a]? = s.heap[a]?) : KN sz D cy ad U := ⟨h.1.on hW hz hk, va_AO.moved hW.alike h.2.1, va_AOA.moved hW.alike h.2.2⟩
theorem KN.ad {sz : Nat} {D : va_G} {cy : Nat → ClassId} {ad ad' : Nat → Nat → Nat} {s : State} (h : KN sz D cy ad s) (ha : ∀ q i, 1000 ≤ q → ad' q i = ad q i) : KN sz D cy ad' s := ⟨h.1.ad ha, h.2⟩
theorem RA_uniq {s : State} {a b : ClassId} {ty : FieldType} (h : va_RA s a ty) (g : va_RA s b ty) : a = b := by
  cases ty with
  | object C =>
    obtain ⟨k1, c1, a1, a2, a3, a4⟩ := h
    obtain ⟨k2, c2, b1, b2, b3, b4⟩ := g
    exact Option.some.inj (a4.symm.trans b4)
  | _ => exact Option.some.inj (h.symm.trans g)
theorem K_cy {D : va_G} {cy : Nat → ClassId} {s : State} {tys : List (ClassId × FieldType)} {cA : ClassId} {ty : FieldType} (k : Nat) (hK : va_K D vwCl (tysW cy) s) (hN : va_K D vwCl (tysW cy ++ [(cA, ty)]) s) (hk : (tysW cy)[k]? = some (cy k, ty)) : cA = cy k := RA_uniq (hN.2 5 (cA, ty) rfl).2 (hK.2 k _ hk).2
def okV (n : Nat) : PV → Bool
  | .inl (.ref q) => decide (q < n) || decide (1000 ≤ q)
  | .inl _ => true
  | .inr g => decide (g.1 < n)
theorem okV_tr {n a : Nat} {ad : Nat → Nat → Nat} {r : Nat → Nat} (hn : n < 1000) {v : PV} (h : okV n v = true) : tr (adU ad n a r) v = tr ad v := by
  rcases v with v | g
  · cases v with
    | ref q =>
      have h : (decide (q < n) || decide (1000 ≤ q)) = true := h
      simp only [Bool.or_eq_true, decide_eq_true_eq] at h
      show Value.ref (adU ad n a r q 0) = Value.ref (ad q 0)
      rw [adU_ne (h.elim (fun h => Nat.ne_of_lt h) (fun h => Nat.ne_of_gt (Nat.lt_of_lt_of_le hn h)))]
    | _ => rfl
  · have h : decide (g.1 < n) = true := h
    simp only [decide_eq_true_eq] at h
    show Value.ref (adU ad n a r g.1 (g.2 + 1)) = Value.ref (ad g.1 (g.2 + 1))
    rw [adU_ne (show g.1 ≠ n by omega)]
theorem okL_map {n a : Nat} {ad : Nat → Nat → Nat} {r : Nat → Nat} (hn : n < 1000) {st : List PV} (h : st.all (okV n) = true) : st.map (tr (adU ad n a r)) = st.map (tr ad) := List.map_congr_left fun v hv => okV_tr hn (List.all_eq_true.mp h v hv)
theorem okL_lv {n a k : Nat} {ad : Nat → Nat → Nat} {r : Nat → Nat} (hn : n < 1000) {ls : List PV} {rl : Array Slot} (h : ls.all (okV n) = true) (hl : lvOK ad k rl ls) : lvOK (adU ad n a r) k rl ls := ⟨hl.1, hl.2.1, hl.2.2.1, fun i v hi hv => by rw [okV_tr hn (List.all_eq_true.mp h v (List.mem_of_getElem? hi))]; exact hl.2.2.2 i v hi hv⟩
theorem AGR.up {n0 n a : Nat} {ad0 ad : Nat → Nat → Nat} {r : Nat → Nat} (h : AGR n0 ad0 ad) (h0 : n0 ≤ n) (hn : n < 1000) : AGR n0 ad0 (adU ad n a r) := fun q i hq => by rw [adU_ne (by omega)]; exact h q i hq
def NOK (Y : MD) : GX → Prop
  | (p, _, s, m, args, _, meth, c, _, sz, D, cy, ad0) => p.tables.exec = Jvm.exec ∧ c.code = Y.2.1 ∧ c.maxLocals = Y.2.2.1 ∧ s.vm.findClass Y.1.cls = some m.cls ∧ (∀ w ∈ UW, w.before args s = true) ∧ COK Y.2.1 Y.code = true ∧ KN sz D cy ad0 s ∧ (Y.1.name = "<init>" → meth.name = "<init>")
def PN (l : Launch) (R : Room) (Y : MD) (n0 : Nat) : GX → Nat × Nat → List CI → List PV → List PV → Nat → List (Nat × Nat) → PM → Prop
  | (p, e, s, m, args, below, meth, c, Q, sz, D, cy, ad0), cs, is, ls, st, n, rs, M => is ≠ [] ∧ ∀ (ad : Nat → Nat → Nat) (H : Heap) (locs : List Loc) (rl : Array Slot), (∃ k, Y.code.drop k = is) → AGR n0 ad0 ad → WN sz D cy ad n rs M H → va_S (fun q => sz ≤ q) s.heap H locs → lvOK ad Y.2.2.1 rl ls →
    W p l e R s m args below meth c H locs cs.1 cs.2 Q (F0 m (hdpc is) rl (st.map (tr ad)))
section NRows
variable {l : Launch} {R : Room} {Y : MD} {n0 : Nat} {X : GX} {cs : Nat × Nat} {pc : Nat} {is : List CI} {ls st : List PV} {n : Nat} {rs : List (Nat × Nat)} {M : PM}
theorem PN.op {len : Nat} {i : Instr} {st' : List PV} (hX : NOK Y X) (k : PN l R Y n0 X cs is ls st' n rs M)
    (hW : ∀ {p : Program} {e : Env} {s : State} {m : MethodId} {args : Array Value} {below : List Frame} {meth : Method} {c : Code} {H : Heap} {locs : List Loc} {cells slots : Nat} {rl : Array Slot} {Q : State → Prop} {ad : Nat → Nat → Nat}, p.tables.exec = Jvm.exec → c.code = Y.2.1 → (∀ (i : Nat) (v : PV), ls[i]? = some v → v ≠ jk → rl[i]? = some (.val (tr ad v))) → decode Y.2.1 pc = .ok (i, len) →
      W p l e R s m args below meth c H locs cells slots Q (F0 m (pc + len) rl (st'.map (tr ad))) → W p l e R s m args below meth c H locs cells slots Q (F0 m pc rl (st.map (tr ad)))) : PN l R Y n0 X cs ((pc, i, len) :: is) ls st n rs M := by
  obtain ⟨p, e, s, m, args, below, meth, c, Q, sz, D, cy, ad0⟩ := X
  obtain ⟨x1, x2, x3, x4, x5, x6, x7, x8⟩ := hX
  refine ⟨by simp, fun ad H locs rl hs hA hH hS hl => ?_⟩
  have hc := suf_cok hs x6
  have h1 := k.2 ad H locs rl (suf_next hs) hA hH hS hl
  rw [COK.next hc k.1] at h1
  exact hW x1 x2 hl.2.2.2 (COK.here hc) h1
theorem PN.br {len : Nat} {i : Instr} {js : List CI} {st' : List PV} (hX : NOK Y X) (kn : Nat) (hj : Y.code.drop kn = js) (k : PN l R Y n0 X cs js ls st' n rs M)
    (hT : ∀ {p : Program} {e : Env} {s : State} {m : MethodId} {args : Array Value} {below : List Frame} {meth : Method} {c : Code} {H : Heap} {locs : List Loc} {cells slots : Nat} {rl : Array Slot} {Q : State → Prop} {ad : Nat → Nat → Nat}, p.tables.exec = Jvm.exec → c.code = Y.2.1 → decode Y.2.1 pc = .ok (i, len) →
      W p l e R s m args below meth c H locs cells slots Q (F0 m (hdpc js) rl (st'.map (tr ad))) → W p l e R s m args below meth c H locs cells slots Q (F0 m pc rl (st.map (tr ad)))) : PN l R Y n0 X cs ((pc, i, len) :: is) ls st n rs M := by
  obtain ⟨p, e, s, m, args, below, meth, c, Q, sz, D, cy, ad0⟩ := X
  obtain ⟨x1, x2, x3, x4, x5, x6, x7, x8⟩ := hX
  refine ⟨by simp, fun ad H locs rl hs hA hH hS hl => ?_⟩
  have hc := suf_cok hs x6
  exact hT x1 x2 (COK.here hc) (k.2 ad H locs rl ⟨kn, hj⟩ hA hH hS hl)

theorem n_iconst {z : Int} {v : Int32} (hX : NOK Y X) (hv : Int32.ofInt z = v) (k : PN l R Y n0 X cs is ls (vI v :: st) n rs M) : PN l R Y n0 X cs ((pc, .iconst z, 1) :: is) ls (st) n rs M := PN.op hX k (fun h1 h2 hl hd h => lv_iconst h1 h2 hd hv h)
theorem n_bipush {z : Int} {v : Int32} (hX : NOK Y X) (hv : (Int8.ofInt z).toInt32 = v) (k : PN l R Y n0 X cs is ls (vI v :: st) n rs M) : PN l R Y n0 X cs ((pc, .bipush z, 2) :: is) ls (st) n rs M := PN.op hX k (fun h1 h2 hl hd h => lv_bipush h1 h2 hd hv h)
theorem n_sipush {z : Int} {v : Int32} (hX : NOK Y X) (hv : (Int16.ofInt z).toInt32 = v) (k : PN l R Y n0 X cs is ls (vI v :: st) n rs M) : PN l R Y n0 X cs ((pc, .sipush z, 3) :: is) ls (st) n rs M := PN.op hX k (fun h1 h2 hl hd h => lv_sipush h1 h2 hd hv h)
theorem n_iload_n {k0 : Fin 4} {x : Int32} (hX : NOK Y X) (hx : ls[(k0 : Nat)]? = some (vI x)) (k : PN l R Y n0 X cs is ls (vI x :: st) n rs M) : PN l R Y n0 X cs ((pc, .iload_n k0, 1) :: is) ls (st) n rs M := PN.op hX k (fun h1 h2 hl hd h => lv_iload_n h1 h2 hd rfl (hl _ _ hx (by simp [jk])) h)
theorem n_iload {k0 : Nat} {x : Int32} (hX : NOK Y X) (hx : ls[k0]? = some (vI x)) (k : PN l R Y n0 X cs is ls (vI x :: st) n rs M) : PN l R Y n0 X cs ((pc, .iload k0, 2) :: is) ls (st) n rs M := PN.op hX k (fun h1 h2 hl hd h => lv_iload h1 h2 hd (hl _ _ hx (by simp [jk])) h)
theorem n_aload_n {k0 : Fin 4} {q : Nat} (hX : NOK Y X) (hx : ls[(k0 : Nat)]? = some (vR q)) (k : PN l R Y n0 X cs is ls (vR q :: st) n rs M) : PN l R Y n0 X cs ((pc, .aload_n k0, 1) :: is) ls (st) n rs M := PN.op hX k (fun h1 h2 hl hd h => lv_aload_n h1 h2 hd rfl (hl _ _ hx (by simp [jk])) h)
theorem n_aload {k0 q : Nat} (hX : NOK Y X) (hx : ls[k0]? = some (vR q)) (k : PN l R Y n0 X cs is ls (vR q :: st) n rs M) : PN l R Y n0 X cs ((pc, .aload k0, 2) :: is) ls (st) n rs M := PN.op hX k (fun h1 h2 hl hd h => lv_aload h1 h2 hd (hl _ _ hx (by simp [jk])) h)
theorem n_dup {v : PV} (hX : NOK Y X) (hv : cat2 v = false) (k : PN l R Y n0 X cs is ls (v :: v :: st) n rs M) : PN l R Y n0 X cs ((pc, .dup, 1) :: is) ls (v :: st) n rs M := PN.op hX k (fun h1 h2 hl hd h => lv_dup h1 h2 hd (by rw [tr_cat, hv]; rfl) h)
theorem n_goto {js : List CI} {off : Int} (hX : NOK Y X) (kn : Nat) (hj : Y.code.drop kn = js) (ht : (pc : Int) + off = (hdpc js : Int)) (k : PN l R Y n0 X cs js ls st n rs M) : PN l R Y n0 X cs ((pc, .goto off, 3) :: is) ls st n rs M := PN.br hX kn hj k (fun h1 h2 hd h => lv_goto h1 h2 hd ht h)
theorem n_icmp_geT {x y : Int32} {js : List CI} {off : Int} (hX : NOK Y X) (kn : Nat) (hj : Y.code.drop kn = js) (ht : (pc : Int) + off = (hdpc js : Int)) (hc : y ≤ x) (k : PN l R Y n0 X cs js ls st n rs M) : PN l R Y n0 X cs ((pc, .if_icmp .ge off, 3) :: is) ls (vI y :: vI x :: st) n rs M := PN.br hX kn hj k (fun h1 h2 hd h => lv_icmp_ge h1 h2 hd ht (fun _ => h) (fun n => absurd hc n))
theorem n_icmp_geF {x y : Int32} {off : Int} {tg : Nat} (hX : NOK Y X) (ht : (pc : Int) + off = (tg : Int)) (hc : ¬ (y ≤ x)) (k : PN l R Y n0 X cs is ls st n rs M) : PN l R Y n0 X cs ((pc, .if_icmp .ge off, 3) :: is) ls (vI y :: vI x :: st) n rs M := PN.op hX k (fun h1 h2 hl hd h => lv_icmp_ge h1 h2 hd ht (fun y => absurd y hc) (fun _ => h))
theorem n_istore {k0 : Nat} {x : Int32} {ls' : List PV} (hX : NOK Y X) (hn : k0 < Y.2.2.1) (he : stL ls k0 (vI x) = ls') (k : PN l R Y n0 X cs is ls' st n rs M) : PN l R Y n0 X cs ((pc, .istore k0, 2) :: is) ls (vI x :: st) n rs M := by
  subst he
  obtain ⟨p, e, s, m, args, below, meth, c, Q, sz, D, cy, ad0⟩ := X
  obtain ⟨x1, x2, x3, x4, x5, x6, x7, x8⟩ := hX
  refine ⟨by simp, fun ad H locs rl hs hA hH hS hl => ?_⟩
  have hc := suf_cok hs x6
  refine lv_istore x1 x2 (COK.here hc) hl.has hn rfl (fun rl2 h2 => ?_)
  have h1 := k.2 ad H locs rl2 (suf_next hs) hA hH hS (lvOK.st hl.2.2.1 h2)
  rw [COK.next hc k.1] at h1
  exact h1
theorem n_istore_n {k0 : Fin 4} {x : Int32} {ls' : List PV} (hX : NOK Y X) (hn : (k0 : Nat) < Y.2.2.1) (he : stL ls (k0 : Nat) (vI x) = ls') (k : PN l R Y n0 X cs is ls' st n rs M) : PN l R Y n0 X cs ((pc, .istore_n k0, 1) :: is) ls (vI x :: st) n rs M := by
  subst he
  obtain ⟨p, e, s, m, args, below, meth, c, Q, sz, D, cy, ad0⟩ := X
  obtain ⟨x1, x2, x3, x4, x5, x6, x7, x8⟩ := hX
  refine ⟨by simp, fun ad H locs rl hs hA hH hS hl => ?_⟩
  have hc := suf_cok hs x6
  refine lv_istore_n x1 x2 (COK.here hc) rfl hl.has hn rfl (fun rl2 h2 => ?_)
  have h1 := k.2 ad H locs rl2 (suf_next hs) hA hH hS (lvOK.st hl.2.2.1 h2)
  rw [COK.next hc k.1] at h1
  exact h1
theorem n_astore {k0 q : Nat} {ls' : List PV} (hX : NOK Y X) (hn : k0 < Y.2.2.1) (he : stL ls k0 (vR q) = ls') (k : PN l R Y n0 X cs is ls' st n rs M) : PN l R Y n0 X cs ((pc, .astore k0, 2) :: is) ls (vR q :: st) n rs M := by
  subst he
  obtain ⟨p, e, s, m, args, below, meth, c, Q, sz, D, cy, ad0⟩ := X
  obtain ⟨x1, x2, x3, x4, x5, x6, x7, x8⟩ := hX
  refine ⟨by simp, fun ad H locs rl hs hA hH hS hl => ?_⟩
  have hc := suf_cok hs x6
  refine lv_astore x1 x2 (COK.here hc) hl.has hn rfl (fun rl2 h2 => ?_)
  have h1 := k.2 ad H locs rl2 (suf_next hs) hA hH hS (lvOK.st hl.2.2.1 h2)
  rw [COK.next hc k.1] at h1
  exact h1
theorem n_astore_n {k0 : Fin 4} {q : Nat} {ls' : List PV} (hX : NOK Y X) (hn : (k0 : Nat) < Y.2.2.1) (he : stL ls (k0 : Nat) (vR q) = ls') (k : PN l R Y n0 X cs is ls' st n rs M) : PN l R Y n0 X cs ((pc, .astore_n k0, 1) :: is) ls (vR q :: st) n rs M := by
  subst he
  obtain ⟨p, e, s, m, args, below, meth, c, Q, sz, D, cy, ad0⟩ := X
  obtain ⟨x1, x2, x3, x4, x5, x6, x7, x8⟩ := hX
  refine ⟨by simp, fun ad H locs rl hs hA hH hS hl => ?_⟩
  have hc := suf_cok hs x6
  refine lv_astore_n x1 x2 (COK.here hc) rfl hl.has hn rfl (fun rl2 h2 => ?_)
  have h1 := k.2 ad H locs rl2 (suf_next hs) hA hH hS (lvOK.st hl.2.2.1 h2)
  rw [COK.next hc k.1] at h1
  exact h1
theorem n_iinc {k0 : Nat} {z : Int} {x v : Int32} {ls' : List PV} (hX : NOK Y X) (hn : k0 < Y.2.2.1) (hx : ls[k0]? = some (vI x)) (hv : x + Int32.ofInt z = v) (he : stL ls k0 (vI v) = ls') (k : PN l R Y n0 X cs is ls' st n rs M) : PN l R Y n0 X cs ((pc, .iinc k0 z, 3) :: is) ls st n rs M := by
  subst he
  obtain ⟨p, e, s, m, args, below, meth, c, Q, sz, D, cy, ad0⟩ := X
  obtain ⟨x1, x2, x3, x4, x5, x6, x7, x8⟩ := hX
  refine ⟨by simp, fun ad H locs rl hs hA hH hS hl => ?_⟩
  have hc := suf_cok hs x6
  obtain ⟨kk, hkk⟩ := List.getElem?_of_mem (lvA_of (ad := ad) hx (by simp [jk]))
  refine lv_iinc x1 x2 (COK.here hc) hl.has hkk hv hn rfl (fun rl2 h2 => ?_)
  have h1 := k.2 ad H locs rl2 (suf_next hs) hA hH hS (lvOK.st hl.2.2.1 h2)
  rw [COK.next hc k.1] at h1
  exact h1
theorem n_widen {cs' : Nat × Nat} (h1 : cs.1 ≤ cs'.1) (h2 : cs.2 ≤ cs'.2) (k : PN l R Y n0 X cs' is ls st n rs M) : PN l R Y n0 X cs is ls st n rs M := by
  obtain ⟨p, e, s, m, args, below, meth, c, Q, sz, D, cy, ad0⟩ := X
  exact ⟨k.1, fun ad H locs rl hs hA hH hS hl => W.widen h1 h2 (k.2 ad H locs rl hs hA hH hS hl)⟩
/-- a kind of object that can be made -/
def NEWK (own : String) (ix ci N : Nat) : Prop := ∃ (C : String) (T : u_T) (ty : Nat → FieldType), clsOK ci C T N ty ∧ Cond.classLink own ix C ∈ UW ∧ Cond.instantiable C N ∈ UW ∧ Cond.initialized C ∈ UW ∧ ∀ j, j < N → defaultValue (ty j) = if ft ci j = 1 then .long 0 else if ft ci j = 2 then .null else .int 0
theorem n_new {ix ci N z : Nat} (hX : NOK Y X) (F : NEWK Y.1.cls ix ci N) (hg : gT n = some (0, ci, z)) (hn : n0 ≤ n ∧ n < 1000) (hok : st.all (okV n) = true ∧ ls.all (okV n) = true) (hR : cs.1 + 1 ≤ R.cells ∧ cs.2 + N ≤ R.slots) (k : PN l R Y n0 X (cs.1 + 1, cs.2 + N) is ls (vR n :: st) (n + 1) rs M) : PN l R Y n0 X cs ((pc, .new ix, 3) :: is) ls st n rs M := by
  obtain ⟨p, e, s, m, args, below, meth, c, Q, sz, D, cy, ad0⟩ := X
  obtain ⟨x1, x2, x3, x4, x5, x6, x7, x8⟩ := hX
  obtain ⟨C, T, ty, ⟨f1, f2, f3, f4, f5⟩, f6, f7, f8, f9⟩ := F
  refine ⟨by simp, fun ad H locs rl hs hA hH hS hl => ?_⟩
  have hc := suf_cok hs x6
  have hZ := hH.2.2.1 n (Nat.le_refl _)
  refine va_new (fs := fldsN ad rs M n ci) x1 x2 x5 f3 ty f4 x4 (x5 _ f6) (x5 _ f7) (x5 _ f8) x7.1.1 hH.1 hH.2.1 hS (fun q hq => Nat.le_trans x7.1.2.2.1.1 hq) f1 (fun j hj => ?_) hR.1 hR.2 (COK.here hc) (fun a H1 a1 a2 a3 => ?_)
  · rw [f9 j hj]
    unfold vp_V
    rw [List.getD_eq_getElem?_getD, fldsN_at (by rw [f2]; exact hj)]
    unfold fvN
    rw [hZ.2.1, hZ.1, rfN_new hH.2.2.2]
    rfl
  · have hW := WN.push hH a1 a2 (by rw [hg]; rfl) (by
      rw [cEN_obj hg]
      refine congrArg (fun z => Sum.inr (ci, z)) ?_
      exact List.map_congr_left fun k _ => by unfold fvN; rw [rfN_new hH.2.2.2, rfN_new hH.2.2.2])
    have h1 := k.2 _ H1 locs rl (suf_next hs) (hA.up hn.1 hn.2) hW a3 (okL_lv hn.2 hok.2 hl)
    rw [COK.next hc k.1] at h1
    rw [← okL_map (ad := ad) (a := a) (r := fun _ => 0) hn.2 hok.1]
    have e9 : Value.ref a = tr (adU ad n a fun _ => 0) (vR n) := by show _ = Value.ref (if n = n then a else _); rw [if_pos rfl]
    rw [e9]
    exact h1
/-- new int[N], new long[N], new boolean[N] -/
theorem n_newa {at0 : ArrayType} {ty : FieldType} {x : Int32} {N t z : Nat} (hX : NOK Y X) (hty : newarray.typeOf at0 = ty) (hw : Cond.arrayClass ty ∈ UW) (ht : (t = 1 ∧ ty = .int) ∨ (t = 2 ∧ ty = .long) ∨ (t = 3 ∧ ty = .boolean)) (hx : ¬ x < 0 ∧ x.toNatClampNeg = N ∧ N ≤ 10000) (hg : gT n = some (t, N, z)) (hn : n0 ≤ n ∧ n < 1000) (hok : st.all (okV n) = true ∧ ls.all (okV n) = true) (hR : cs.1 + 1 ≤ R.cells ∧ cs.2 + N ≤ R.slots) (k : PN l R Y n0 X (cs.1 + 1, cs.2 + N) is ls (vR n :: st) (n + 1) rs M) : PN l R Y n0 X cs ((pc, .newarray at0, 2) :: is) ls (vI x :: st) n rs M := by
  obtain ⟨p, e, s, m, args, below, meth, c, Q, sz, D, cy, ad0⟩ := X
  obtain ⟨x1, x2, x3, x4, x5, x6, x7, x8⟩ := hX
  refine ⟨by simp, fun ad H locs rl hs hA hH hS hl => ?_⟩
  have hc := suf_cok hs x6
  have hZ := hH.2.2.1 n (Nat.le_refl _)
  have hgo : ∀ (a : Nat) (H1 : Heap) (en : va_E), cEN cy (adU ad n a (fun _ => 0)) rs M n 0 = en → va_P D vwCl (wlN cy ad n rs M ++ [(a, en)]) H1 → va_D (fun q => sz ≤ q) (wlN cy ad n rs M ++ [(a, en)]) → va_S (fun q => sz ≤ q) s.heap H1 locs → W p l e R s m args below meth c H1 locs (cs.1 + 1) (cs.2 + N) Q (F0 m (pc + 2) rl (.ref a :: st.map (tr ad))) := fun a H1 en e1 a1 a2 a3 => by
    have hW := WN.push hH a1 a2 (by rw [hg]; rcases ht with ⟨rfl, -⟩ | ⟨rfl, -⟩ | ⟨rfl, -⟩ <;> rfl) e1
    have h1 := k.2 _ H1 locs rl (suf_next hs) (hA.up hn.1 hn.2) hW a3 (okL_lv hn.2 hok.2 hl)
    rw [COK.next hc k.1] at h1
    rw [← okL_map (ad := ad) (a := a) (r := fun _ => 0) hn.2 hok.1]
    have e9 : Value.ref a = tr (adU ad n a fun _ => 0) (vR n) := by show _ = Value.ref (if n = n then a else _); rw [if_pos rfl]
    rw [e9]
    exact h1
  have hcE : ∀ a, cEN cy (adU ad n a (fun _ => 0)) rs M n 0 = cEN0 cy (adU ad n a (fun _ => 0)) rs M n (some (t, N, z)) := fun a => by rw [← hg]; rfl
  rcases ht with ⟨rfl, rfl⟩ | ⟨rfl, rfl⟩ | ⟨rfl, rfl⟩
  · refine va_newa (a0 := (N, .inl fun _ => 0)) x1 x2 (by rw [hty]; exact x5 _ hw) hty x7.1.1 hH.1 hH.2.1 hS (fun q hq => Nat.le_trans x7.1.2.2.1.1 hq) (fun cA => rfl) hx.1 hx.2.1 (by show N * 4 ≤ _; omega) hR.1 hR.2 (COK.here hc) (fun a cA H1 a0 a1 a2 a3 => ?_)
    have e0 := K_cy (tys := []) 0 x7.1.1 a0 rfl
    subst e0
    exact hgo a H1 _ ((hcE a).trans (by show Sum.inl (cy 0, N, Sum.inl (M.2.2.1 n)) = _; rw [zf hZ.2.2.1])) a1 a2 a3
  · refine va_newa (a0 := (N, .inr (.inl fun _ => 0))) x1 x2 (by rw [hty]; exact x5 _ hw) hty x7.1.1 hH.1 hH.2.1 hS (fun q hq => Nat.le_trans x7.1.2.2.1.1 hq) (fun cA => rfl) hx.1 hx.2.1 (by show N * 8 ≤ _; omega) hR.1 hR.2 (COK.here hc) (fun a cA H1 a0 a1 a2 a3 => ?_)
    have e0 := K_cy (tys := []) 1 x7.1.1 a0 rfl
    subst e0
    exact hgo a H1 _ ((hcE a).trans (by show Sum.inl (cy 1, N, Sum.inr (Sum.inl (M.2.2.2.1 n))) = _; rw [zfJ hZ.2.2.2.1])) a1 a2 a3
  · refine va_newa (a0 := (N, .inl fun _ => 0)) x1 x2 (by rw [hty]; exact x5 _ hw) hty x7.1.1 hH.1 hH.2.1 hS (fun q hq => Nat.le_trans x7.1.2.2.1.1 hq) (fun cA => rfl) hx.1 hx.2.1 (by show N * 1 ≤ _; omega) hR.1 hR.2 (COK.here hc) (fun a cA H1 a0 a1 a2 a3 => ?_)
    have e0 := K_cy (tys := []) 2 x7.1.1 a0 rfl
    subst e0
    exact hgo a H1 _ ((hcE a).trans (by show Sum.inl (cy 2, N, Sum.inl (M.2.2.1 n)) = _; rw [zf hZ.2.2.1])) a1 a2 a3
end NRows

