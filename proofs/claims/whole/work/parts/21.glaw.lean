/-! THE LAW'S LEVEL: the judgement PG: a fixed context X, cells and slots that grow -/
abbrev GX : Type := Program × Env × State × MethodId × Array Value × List Frame × Method × Code × (State → Prop) × Nat × va_G × (Nat → ClassId) × (Nat → Nat → Nat)
def GOK (Y : MD) : GX → Prop
  | (p, _, s, m, args, _, _, c, _, sz, D, cy, ad) => p.tables.exec = Jvm.exec ∧ c.code = Y.2.1 ∧ c.maxLocals = Y.2.2.1 ∧ s.vm.findClass Y.1.cls = some m.cls ∧ (∀ w ∈ UW, w.before args s = true) ∧ COK Y.2.1 Y.code = true ∧ Kx sz D cy ad s
def PG (l : Launch) (R : Room) (Y : MD) : GX → Nat × Nat → List CI → List PV → List PV → PM → Prop
  | (p, e, s, m, args, below, meth, c, Q, sz, D, cy, ad), cs, is, ls, st, M => is ≠ [] ∧ ∀ (H : Heap) (locs : List Loc) (rl : Array Slot), (∃ k, Y.code.drop k = is) → WH sz D cy ad M H → va_S (fun q => sz ≤ q) s.heap H locs → lvOK ad Y.2.2.1 rl ls →
    W p l e R s m args below meth c H locs cs.1 cs.2 Q (F0 m (hdpc is) rl (st.map (tr ad)))
section GRows
variable {l : Launch} {R : Room} {Y : MD} {X : GX} {cs : Nat × Nat} {pc : Nat} {is : List CI} {ls st : List PV} {M : PM}
theorem PG.op {n : Nat} {i : Instr} {st' : List PV} (hX : GOK Y X) (k : PG l R Y X cs is ls st' M)
    (hW : ∀ {p : Program} {e : Env} {s : State} {m : MethodId} {args : Array Value} {below : List Frame} {meth : Method} {c : Code} {H : Heap} {locs : List Loc} {cells slots : Nat} {rl : Array Slot} {Q : State → Prop} {ad : Nat → Nat → Nat}, p.tables.exec = Jvm.exec → c.code = Y.2.1 → s.vm.findClass Y.1.cls = some m.cls → (∀ w ∈ UW, w.before args s = true) → (∀ (i : Nat) (v : PV), ls[i]? = some v → v ≠ jk → rl[i]? = some (.val (tr ad v))) → decode Y.2.1 pc = .ok (i, n) →
      W p l e R s m args below meth c H locs cells slots Q (F0 m (pc + n) rl (st'.map (tr ad))) → W p l e R s m args below meth c H locs cells slots Q (F0 m pc rl (st.map (tr ad)))) : PG l R Y X cs ((pc, i, n) :: is) ls st M := by
  obtain ⟨p, e, s, m, args, below, meth, c, Q, sz, D, cy, ad⟩ := X
  obtain ⟨x1, x2, x3, x4, x5, x6, x7⟩ := hX
  refine ⟨by simp, fun H locs rl hs hH hS hl => ?_⟩
  have hc := suf_cok hs x6
  have h1 := k.2 H locs rl (suf_next hs) hH hS hl
  rw [COK.next hc k.1] at h1
  exact hW x1 x2 x4 x5 hl.2.2.2 (COK.here hc) h1

theorem g_iconst {n : Int} {v : Int32} (hX : GOK Y X) (hv : Int32.ofInt n = v) (k : PG l R Y X cs is ls (vI v :: st) M) : PG l R Y X cs ((pc, .iconst n, 1) :: is) ls (st) M := PG.op hX k (fun h1 h2 h4 h5 hl hd h => lv_iconst h1 h2 hd hv h)
theorem g_bipush {n : Int} {v : Int32} (hX : GOK Y X) (hv : (Int8.ofInt n).toInt32 = v) (k : PG l R Y X cs is ls (vI v :: st) M) : PG l R Y X cs ((pc, .bipush n, 2) :: is) ls (st) M := PG.op hX k (fun h1 h2 h4 h5 hl hd h => lv_bipush h1 h2 hd hv h)
theorem g_lconst {n : Fin 2} {v : Int64} (hX : GOK Y X) (hv : Int64.ofNat (n : Nat) = v) (k : PG l R Y X cs is ls (vJ v :: st) M) : PG l R Y X cs ((pc, .lconst n, 1) :: is) ls (st) M := PG.op hX k (fun h1 h2 h4 h5 hl hd h => lv_lconst h1 h2 hd hv h)
theorem g_ldc2_w {ix : Nat} {v : Int64} (hX : GOK Y X) (hw : Cond.constantLong Y.1.cls ix v ∈ UW) (k : PG l R Y X cs is ls (vJ v :: st) M) : PG l R Y X cs ((pc, .ldc2_w ix, 3) :: is) ls (st) M := PG.op hX k (fun h1 h2 h4 h5 hl hd h => lv_ldc2 h1 h2 h4 (h5 _ hw) hd h)
theorem g_iload_n {n : Fin 4} {x : Int32} (hX : GOK Y X) (hx : ls[(n : Nat)]? = some (vI x)) (k : PG l R Y X cs is ls (vI x :: st) M) : PG l R Y X cs ((pc, .iload_n n, 1) :: is) ls (st) M := PG.op hX k (fun h1 h2 h4 h5 hl hd h => lv_iload_n h1 h2 hd rfl (hl _ _ hx (by simp [jk])) h)
theorem g_iload {n : Nat} {x : Int32} (hX : GOK Y X) (hx : ls[n]? = some (vI x)) (k : PG l R Y X cs is ls (vI x :: st) M) : PG l R Y X cs ((pc, .iload n, 2) :: is) ls (st) M := PG.op hX k (fun h1 h2 h4 h5 hl hd h => lv_iload h1 h2 hd (hl _ _ hx (by simp [jk])) h)
theorem g_lload_n {n : Fin 4} {x : Int64} (hX : GOK Y X) (hx : ls[(n : Nat)]? = some (vJ x)) (k : PG l R Y X cs is ls (vJ x :: st) M) : PG l R Y X cs ((pc, .lload_n n, 1) :: is) ls (st) M := PG.op hX k (fun h1 h2 h4 h5 hl hd h => lv_lload_n h1 h2 hd rfl (hl _ _ hx (by simp [jk])) h)
theorem g_lload {n : Nat} {x : Int64} (hX : GOK Y X) (hx : ls[n]? = some (vJ x)) (k : PG l R Y X cs is ls (vJ x :: st) M) : PG l R Y X cs ((pc, .lload n, 2) :: is) ls (st) M := PG.op hX k (fun h1 h2 h4 h5 hl hd h => lv_lload h1 h2 hd (hl _ _ hx (by simp [jk])) h)
theorem g_aload_n {n : Fin 4} {q : Nat} (hX : GOK Y X) (hx : ls[(n : Nat)]? = some (vR q)) (k : PG l R Y X cs is ls (vR q :: st) M) : PG l R Y X cs ((pc, .aload_n n, 1) :: is) ls (st) M := PG.op hX k (fun h1 h2 h4 h5 hl hd h => lv_aload_n h1 h2 hd rfl (hl _ _ hx (by simp [jk])) h)
theorem g_aload {n q : Nat} (hX : GOK Y X) (hx : ls[n]? = some (vR q)) (k : PG l R Y X cs is ls (vR q :: st) M) : PG l R Y X cs ((pc, .aload n, 2) :: is) ls (st) M := PG.op hX k (fun h1 h2 h4 h5 hl hd h => lv_aload h1 h2 hd (hl _ _ hx (by simp [jk])) h)
theorem g_iadd {x y : Int32} (hX : GOK Y X) (k : PG l R Y X cs is ls (vI (x + y) :: st) M) : PG l R Y X cs ((pc, .iadd, 1) :: is) ls (vI y :: vI x :: st) M := PG.op hX k (fun h1 h2 h4 h5 hl hd h => lv_iadd h1 h2 hd h)
theorem g_isub {x y : Int32} (hX : GOK Y X) (k : PG l R Y X cs is ls (vI (x - y) :: st) M) : PG l R Y X cs ((pc, .isub, 1) :: is) ls (vI y :: vI x :: st) M := PG.op hX k (fun h1 h2 h4 h5 hl hd h => lv_isub h1 h2 hd h)
theorem g_iand {x y : Int32} (hX : GOK Y X) (k : PG l R Y X cs is ls (vI (x &&& y) :: st) M) : PG l R Y X cs ((pc, .iand, 1) :: is) ls (vI y :: vI x :: st) M := PG.op hX k (fun h1 h2 h4 h5 hl hd h => lv_iand h1 h2 hd h)
theorem g_land {x y : Int64} (hX : GOK Y X) (k : PG l R Y X cs is ls (vJ (x &&& y) :: st) M) : PG l R Y X cs ((pc, .land, 1) :: is) ls (vJ y :: vJ x :: st) M := PG.op hX k (fun h1 h2 h4 h5 hl hd h => lv_land h1 h2 hd h)
theorem g_lor {x y : Int64} (hX : GOK Y X) (k : PG l R Y X cs is ls (vJ (x ||| y) :: st) M) : PG l R Y X cs ((pc, .lor, 1) :: is) ls (vJ y :: vJ x :: st) M := PG.op hX k (fun h1 h2 h4 h5 hl hd h => lv_lor h1 h2 hd h)
theorem g_lshl {x : Int64} {y : Int32} (hX : GOK Y X) (k : PG l R Y X cs is ls (vJ (x <<< (y.toInt64 &&& 63)) :: st) M) : PG l R Y X cs ((pc, .lshl, 1) :: is) ls (vI y :: vJ x :: st) M := PG.op hX k (fun h1 h2 h4 h5 hl hd h => lv_lshl h1 h2 hd rfl h)
theorem g_i2l {x : Int32} (hX : GOK Y X) (k : PG l R Y X cs is ls (vJ x.toInt64 :: st) M) : PG l R Y X cs ((pc, .i2l, 1) :: is) ls (vI x :: st) M := PG.op hX k (fun h1 h2 h4 h5 hl hd h => lv_i2l h1 h2 hd rfl h)
theorem g_lcmp {x y : Int64} (hX : GOK Y X) (k : PG l R Y X cs is ls (vI (lg_cmp x y) :: st) M) : PG l R Y X cs ((pc, .lcmp, 1) :: is) ls (vJ y :: vJ x :: st) M := PG.op hX k (fun h1 h2 h4 h5 hl hd h => W.lcmp h1 h2 hd h)
theorem PG.br {n : Nat} {i : Instr} {js : List CI} {st' : List PV} (hX : GOK Y X) (kn : Nat) (hj : Y.code.drop kn = js) (k : PG l R Y X cs js ls st' M)
    (hT : ∀ {p : Program} {e : Env} {s : State} {m : MethodId} {args : Array Value} {below : List Frame} {meth : Method} {c : Code} {H : Heap} {locs : List Loc} {cells slots : Nat} {rl : Array Slot} {Q : State → Prop} {ad : Nat → Nat → Nat}, p.tables.exec = Jvm.exec → c.code = Y.2.1 → decode Y.2.1 pc = .ok (i, n) →
      W p l e R s m args below meth c H locs cells slots Q (F0 m (hdpc js) rl (st'.map (tr ad))) → W p l e R s m args below meth c H locs cells slots Q (F0 m pc rl (st.map (tr ad)))) : PG l R Y X cs ((pc, i, n) :: is) ls st M := by
  obtain ⟨p, e, s, m, args, below, meth, c, Q, sz, D, cy, ad⟩ := X
  obtain ⟨x1, x2, x3, x4, x5, x6, x7⟩ := hX
  refine ⟨by simp, fun H locs rl hs hH hS hl => ?_⟩
  have hc := suf_cok hs x6
  exact hT x1 x2 (COK.here hc) (k.2 H locs rl ⟨kn, hj⟩ hH hS hl)

theorem g_goto {js : List CI} {off : Int} (hX : GOK Y X) (kn : Nat) (hj : Y.code.drop kn = js) (ht : (pc : Int) + off = (hdpc js : Int)) (k : PG l R Y X cs js ls st M) : PG l R Y X cs ((pc, .goto off, 3) :: is) ls st M := PG.br hX kn hj k (fun h1 h2 hd h => lv_goto h1 h2 hd ht h)
theorem g_icmp_eqT {x y : Int32} {js : List CI} {off : Int} (hX : GOK Y X) (kn : Nat) (hj : Y.code.drop kn = js) (ht : (pc : Int) + off = (hdpc js : Int)) (hc : x = y) (k : PG l R Y X cs js ls st M) : PG l R Y X cs ((pc, .if_icmp .eq off, 3) :: is) ls (vI y :: vI x :: st) M := PG.br hX kn hj k (fun h1 h2 hd h => lv_icmp_eq h1 h2 hd ht (fun _ => h) (fun n => absurd hc n))
theorem g_icmp_eqF {x y : Int32} {off : Int} {tg : Nat} (hX : GOK Y X) (ht : (pc : Int) + off = (tg : Int)) (hc : ¬ (x = y)) (k : PG l R Y X cs is ls st M) : PG l R Y X cs ((pc, .if_icmp .eq off, 3) :: is) ls (vI y :: vI x :: st) M := PG.op hX k (fun h1 h2 h4 h5 hl hd h => lv_icmp_eq h1 h2 hd ht (fun y => absurd y hc) (fun _ => h))
theorem g_icmp_neT {x y : Int32} {js : List CI} {off : Int} (hX : GOK Y X) (kn : Nat) (hj : Y.code.drop kn = js) (ht : (pc : Int) + off = (hdpc js : Int)) (hc : ¬ (x = y)) (k : PG l R Y X cs js ls st M) : PG l R Y X cs ((pc, .if_icmp .ne off, 3) :: is) ls (vI y :: vI x :: st) M := PG.br hX kn hj k (fun h1 h2 hd h => lv_icmp_ne h1 h2 hd ht (fun _ => h) (fun n => absurd n hc))
theorem g_icmp_neF {x y : Int32} {off : Int} {tg : Nat} (hX : GOK Y X) (ht : (pc : Int) + off = (tg : Int)) (hc : ¬ (¬ (x = y))) (k : PG l R Y X cs is ls st M) : PG l R Y X cs ((pc, .if_icmp .ne off, 3) :: is) ls (vI y :: vI x :: st) M := PG.op hX k (fun h1 h2 h4 h5 hl hd h => lv_icmp_ne h1 h2 hd ht (fun y => absurd y hc) (fun _ => h))
theorem g_icmp_gtT {x y : Int32} {js : List CI} {off : Int} (hX : GOK Y X) (kn : Nat) (hj : Y.code.drop kn = js) (ht : (pc : Int) + off = (hdpc js : Int)) (hc : y < x) (k : PG l R Y X cs js ls st M) : PG l R Y X cs ((pc, .if_icmp .gt off, 3) :: is) ls (vI y :: vI x :: st) M := PG.br hX kn hj k (fun h1 h2 hd h => lv_icmp_gt h1 h2 hd ht (fun _ => h) (fun n => absurd hc n))
theorem g_icmp_gtF {x y : Int32} {off : Int} {tg : Nat} (hX : GOK Y X) (ht : (pc : Int) + off = (tg : Int)) (hc : ¬ (y < x)) (k : PG l R Y X cs is ls st M) : PG l R Y X cs ((pc, .if_icmp .gt off, 3) :: is) ls (vI y :: vI x :: st) M := PG.op hX k (fun h1 h2 h4 h5 hl hd h => lv_icmp_gt h1 h2 hd ht (fun y => absurd y hc) (fun _ => h))
theorem g_if_eqT {x : Int32} {js : List CI} {off : Int} (hX : GOK Y X) (kn : Nat) (hj : Y.code.drop kn = js) (ht : (pc : Int) + off = (hdpc js : Int)) (hc : x = 0) (k : PG l R Y X cs js ls st M) : PG l R Y X cs ((pc, .ifCond .eq off, 3) :: is) ls (vI x :: st) M := PG.br hX kn hj k (fun h1 h2 hd h => lv_if_eq h1 h2 hd ht (fun _ => h) (fun n => absurd hc n))
theorem g_if_eqF {x : Int32} {off : Int} {tg : Nat} (hX : GOK Y X) (ht : (pc : Int) + off = (tg : Int)) (hc : ¬ (x = 0)) (k : PG l R Y X cs is ls st M) : PG l R Y X cs ((pc, .ifCond .eq off, 3) :: is) ls (vI x :: st) M := PG.op hX k (fun h1 h2 h4 h5 hl hd h => lv_if_eq h1 h2 hd ht (fun y => absurd y hc) (fun _ => h))
theorem g_if_neT {x : Int32} {js : List CI} {off : Int} (hX : GOK Y X) (kn : Nat) (hj : Y.code.drop kn = js) (ht : (pc : Int) + off = (hdpc js : Int)) (hc : ¬ (x = 0)) (k : PG l R Y X cs js ls st M) : PG l R Y X cs ((pc, .ifCond .ne off, 3) :: is) ls (vI x :: st) M := PG.br hX kn hj k (fun h1 h2 hd h => lv_if_ne h1 h2 hd ht (fun _ => h) (fun n => absurd n hc))
theorem g_if_neF {x : Int32} {off : Int} {tg : Nat} (hX : GOK Y X) (ht : (pc : Int) + off = (tg : Int)) (hc : ¬ (¬ (x = 0))) (k : PG l R Y X cs is ls st M) : PG l R Y X cs ((pc, .ifCond .ne off, 3) :: is) ls (vI x :: st) M := PG.op hX k (fun h1 h2 h4 h5 hl hd h => lv_if_ne h1 h2 hd ht (fun y => absurd y hc) (fun _ => h))
theorem g_tsIn {x v : Int32} {dflt lo hi off : Int} {offs : Array Int} {len : Nat} {js : List CI} (hX : GOK Y X) (hx : x = v) (h1 : ¬ v.toInt < lo) (h2 : ¬ hi < v.toInt) (ho : offs[(v.toInt - lo).toNat]? = some off) (kn : Nat) (hj : Y.code.drop kn = js) (ht : (pc : Int) + off = (hdpc js : Int)) (k : PG l R Y X cs js ls st M) : PG l R Y X cs ((pc, .tableswitch dflt lo hi offs, len) :: is) ls (vI x :: st) M := by
  subst hx
  exact PG.br hX kn hj k (fun g1 g2 hd h => lv_tableIn g1 g2 hd h1 h2 ho ht h)
theorem g_tsOut {x : Int32} {dflt lo hi : Int} {offs : Array Int} {len : Nat} {js : List CI} (hX : GOK Y X) (hx : x.toInt < lo ∨ hi < x.toInt) (kn : Nat) (hj : Y.code.drop kn = js) (ht : (pc : Int) + dflt = (hdpc js : Int)) (k : PG l R Y X cs js ls st M) : PG l R Y X cs ((pc, .tableswitch dflt lo hi offs, len) :: is) ls (vI x :: st) M :=
  PG.br hX kn hj k (fun g1 g2 hd h => lv_tableOut g1 g2 hd hx ht h)
theorem g_fg {ls' : List PV} (k : PG l R Y X cs is ls' st M) (hle : leP ls' ls) : PG l R Y X cs is ls st M := by
  obtain ⟨p, e, s, m, args, below, meth, c, Q, sz, D, cy, ad⟩ := X
  exact ⟨k.1, fun H locs rl hs hH hS hl => k.2 H locs rl hs hH hS ⟨hl.1, hl.2.1, (leP_len hle).trans hl.2.2.1, fun i v hi hv => hl.2.2.2 i v (leP_at hle hi hv) hv⟩⟩
theorem g_widen {cs' : Nat × Nat} (h1 : cs.1 ≤ cs'.1) (h2 : cs.2 ≤ cs'.2) (k : PG l R Y X cs' is ls st M) : PG l R Y X cs is ls st M := by
  obtain ⟨p, e, s, m, args, below, meth, c, Q, sz, D, cy, ad⟩ := X
  exact ⟨k.1, fun H locs rl hs hH hS hl => W.widen h1 h2 (k.2 H locs rl hs hH hS hl)⟩
theorem g_istore {n : Nat} {x : Int32} {ls' : List PV} (hX : GOK Y X) (hn : n < Y.2.2.1) (he : stL ls n (vI x) = ls') (k : PG l R Y X cs is ls' st M) : PG l R Y X cs ((pc, .istore n, 2) :: is) ls (vI x :: st) M := by
  subst he
  obtain ⟨p, e, s, m, args, below, meth, c, Q, sz, D, cy, ad⟩ := X
  obtain ⟨x1, x2, x3, x4, x5, x6, x7⟩ := hX
  refine ⟨by simp, fun H locs rl hs hH hS hl => ?_⟩
  have hc := suf_cok hs x6
  refine lv_istore x1 x2 (COK.here hc) hl.has hn rfl (fun rl2 h2 => ?_)
  have h1 := k.2 H locs rl2 (suf_next hs) hH hS (lvOK.st hl.2.2.1 h2)
  rw [COK.next hc k.1] at h1
  exact h1
theorem g_lstore {n : Nat} {x : Int64} {ls' : List PV} (hX : GOK Y X) (hn : n + 1 < Y.2.2.1) (he : stJ ls n (vJ x) = ls') (k : PG l R Y X cs is ls' st M) : PG l R Y X cs ((pc, .lstore n, 2) :: is) ls (vJ x :: st) M := by
  subst he
  obtain ⟨p, e, s, m, args, below, meth, c, Q, sz, D, cy, ad⟩ := X
  obtain ⟨x1, x2, x3, x4, x5, x6, x7⟩ := hX
  refine ⟨by simp, fun H locs rl hs hH hS hl => ?_⟩
  have hc := suf_cok hs x6
  refine lv_lstore x1 x2 (COK.here hc) hl.has hn rfl (fun rl2 h2 => ?_)
  have h1 := k.2 H locs rl2 (suf_next hs) hH hS (lvOK.stj hl.2.2.1 hn h2)
  rw [COK.next hc k.1] at h1
  exact h1
theorem g_iinc {n : Nat} {z : Int} {x v : Int32} {ls' : List PV} (hX : GOK Y X) (hn : n < Y.2.2.1) (hx : ls[n]? = some (vI x)) (hv : x + Int32.ofInt z = v) (he : stL ls n (vI v) = ls') (k : PG l R Y X cs is ls' st M) : PG l R Y X cs ((pc, .iinc n z, 3) :: is) ls st M := by
  subst he
  obtain ⟨p, e, s, m, args, below, meth, c, Q, sz, D, cy, ad⟩ := X
  obtain ⟨x1, x2, x3, x4, x5, x6, x7⟩ := hX
  refine ⟨by simp, fun H locs rl hs hH hS hl => ?_⟩
  have hc := suf_cok hs x6
  obtain ⟨kk, hkk⟩ := List.getElem?_of_mem (lvA_of (ad := ad) hx (by simp [jk]))
  refine lv_iinc x1 x2 (COK.here hc) hl.has hkk hv hn rfl (fun rl2 h2 => ?_)
  have h1 := k.2 H locs rl2 (suf_next hs) hH hS (lvOK.st hl.2.2.1 h2)
  rw [COK.next hc k.1] at h1
  exact h1
theorem g_lald {q n z : Nat} {i : Int32} (hX : GOK Y X) (hq : gT q = some (2, n, z)) (hi : ixOK i n = true) (kk : PG l R Y X cs is ls (vJ (mB M q i.toNatClampNeg) :: st) M) : PG l R Y X cs ((pc, .laload, 1) :: is) ls (vI i :: vR q :: st) M := by
  obtain ⟨p, e, s, m, args, below, meth, c, Q, sz, D, cy, ad⟩ := X
  obtain ⟨x1, x2, x3, x4, x5, x6, x7⟩ := hX
  refine ⟨by simp, fun H locs rl hs hH hS hl => ?_⟩
  have hc := suf_cok hs x6
  have h1 := kk.2 H locs rl (suf_next hs) hH hS hl
  rw [COK.next hc kk.1] at h1
  obtain ⟨j, hj, -⟩ := wl_at (key0 hq) cy ad M
  have hj : (wl cy ad M)[j]? = some (ad q 0, .inl (cy 1, n, .inr (.inl (M.2.2.2.1 q)))) := by rw [hj]; exact congrArg (fun z => some (ad q 0, z)) (cE_long hq)
  exact va_lald x1 x2 x7.1 hH.1 j 1 hj rfl (ixOK_in hi) (COK.here hc) h1
theorem g_last {q n z : Nat} {i : Int32} {x : Int64} (hX : GOK Y X) (hq : gT q = some (2, n, z)) (hi : ixOK i n = true) (kk : PG l R Y X cs is ls st (sB M q i.toNatClampNeg x)) : PG l R Y X cs ((pc, .lastore, 1) :: is) ls (vJ x :: vI i :: vR q :: st) M := by
  obtain ⟨p, e, s, m, args, below, meth, c, Q, sz, D, cy, ad⟩ := X
  obtain ⟨x1, x2, x3, x4, x5, x6, x7⟩ := hX
  refine ⟨by simp, fun H locs rl hs hH hS hl => ?_⟩
  have hc := suf_cok hs x6
  obtain ⟨j, hj, hkj⟩ := wl_at (key0 hq) cy ad M
  have hj : (wl cy ad M)[j]? = some (ad q 0, .inl (cy 1, n, .inr (.inl (M.2.2.2.1 q)))) := by rw [hj]; exact congrArg (fun z => some (ad q 0, z)) (cE_long hq)
  have hset : (wl cy ad M).set j (ad q 0, .inl (cy 1, n, .inr (.inl (vp_updL (M.2.2.2.1 q) i.toNatClampNeg x)))) = wl cy ad (sB M q i.toNatClampNeg x) := wl_set (κ := (q, 0)) (M' := sB M q i.toNatClampNeg x) hH.2 hkj (by show cE cy ad _ q 0 = _; rw [cE_long hq]; show Sum.inl (cy 1, n, Sum.inr (Sum.inl (u1 M.2.2.2.1 q _ q))) = _; rw [u1_eq]; rfl) (fun a b hab => cE_same (fun h0 => ⟨fun _ => rfl, fun _ => rfl, rfl, u1_ne (fun e => hab (by rw [e, h0]))⟩) (fun _ _ => rfl))
  refine va_last x1 x2 x7.1 hH.1 hH.2 hS j 1 hj rfl (ixOK_in hi) (COK.here hc) (fun H1 locs1 a1 a2 a3 => ?_)
  rw [hset] at a1 a2
  have h1 := kk.2 H1 locs1 rl (suf_next hs) ⟨a1, a2⟩ a3 hl
  rw [COK.next hc kk.1] at h1
  exact h1
/-- the script: the thing 99999 -/
def SCR : GX → Nat → (Nat → Int32) → Prop
  | (_, _, s, _, _, _, _, _, _, sz, _, _, ad), L, xs => va_X (ad 99999 0) L xs s s.heap ∧ ad 99999 0 < s.heap.size ∧ ¬ sz ≤ ad 99999 0
theorem g_sld {L : Nat} {xs : Nat → Int32} {i : Int32} (hX : GOK Y X) (hs : SCR X L xs) (hin : vp_in i L) (kk : PG l R Y X cs is ls (vI (xs i.toNatClampNeg) :: st) M) : PG l R Y X cs ((pc, .iaload, 1) :: is) ls (vI i :: vR 99999 :: st) M := by
  obtain ⟨p, e, s, m, args, below, meth, c, Q, sz, D, cy, ad⟩ := X
  obtain ⟨x1, x2, x3, x4, x5, x6, x7⟩ := hX
  obtain ⟨s1, s2, s3⟩ := hs
  refine ⟨by simp, fun H locs rl hs hH hS hl => ?_⟩
  have hc := suf_cok hs x6
  have h1 := kk.2 H locs rl (suf_next hs) hH hS hl
  rw [COK.next hc kk.1] at h1
  exact va_sld x1 x2 s1 s2 s3 hS hin (COK.here hc) h1
theorem g_slen {L : Nat} {xs : Nat → Int32} (hX : GOK Y X) (hs : SCR X L xs) (kk : PG l R Y X cs is ls (vI (Int32.ofNat L) :: st) M) : PG l R Y X cs ((pc, .arraylength, 1) :: is) ls (vR 99999 :: st) M := by
  obtain ⟨p, e, s, m, args, below, meth, c, Q, sz, D, cy, ad⟩ := X
  obtain ⟨x1, x2, x3, x4, x5, x6, x7⟩ := hX
  obtain ⟨s1, s2, s3⟩ := hs
  refine ⟨by simp, fun H locs rl hs hH hS hl => ?_⟩
  have hc := suf_cok hs x6
  have h1 := kk.2 H locs rl (suf_next hs) hH hS hl
  rw [COK.next hc kk.1] at h1
  exact va_slen x1 x2 s1 s2 s3 hS (COK.here hc) h1
theorem UW_good2 {Y2 : MD} {n : Nat} (h : MOK Y2 n) : GoodIn UW (wsY Y2) := fun w hw => by
  rcases List.mem_cons.mp hw with e | e
  · subst e
    exact ⟨h.1, good_of_word (UW_good h.1)⟩
  · exact ⟨e, good_of_word (UW_good e)⟩
/-- behind a call that comes back -/
theorem W.backG {p : Program} {e : Env} {s : State} {m : MethodId} {args : Array Value} {below : List Frame} {meth : Method} {c : Code} {H : Heap} {locs : List Loc} {Q : State → Prop} {rl : Array Slot} {st0 rest : List Value} {a : Array Value} {sz cells slots mc ms : Nat} {D : va_G} {cy : Nat → ClassId} {ad : Nat → Nat → Nat} {v : Option Value} {M1 : PM}
    (hr : va_Run p l e R s m args below meth c H locs cells slots mc ms (F0 m pc rl st0) rest (QcR sz D cy ad (.inl v, M1) a) (fun q => sz ≤ q)) (hS : va_S (fun q => sz ≤ q) s.heap H locs)
    (kk : ∀ (H1 : Heap) (locs1 : List Loc), WH sz D cy ad M1 H1 → va_S (fun q => sz ≤ q) s.heap H1 locs1 → W p l e R s m args below meth c H1 locs1 (cells + mc) (slots + ms) Q (F0 m (pc + 3) rl (v.toList ++ rest))) : W p l e R s m args below meth c H locs cells slots Q (F0 m pc rl st0) := by
  intro T hT X
  obtain ⟨v9, st₀, t, T', L, h0, X', hL, e1, e2, ⟨v2, hv2, hv3, hw, hz, hk⟩, stp⟩ := hr T hT X
  cases hv2
  cases hv3
  rw [h0] at hz hk
  obtain ⟨t2, a1, b1⟩ := kk T'.heap (locs ++ L) (by rw [e1]; exact hw) ⟨Nat.le_trans hS.1 (by rw [e1]; exact hz), fun q h1 h2 => by rw [e1, hk q (Nat.lt_of_lt_of_le h1 hS.1) h2]; exact hS.2.1 q h1 h2, fun q hq => by
      rcases List.mem_append.mp hq with h | h
      · exact hS.2.2 q h
      · exact hL q h⟩ T' rfl X'
  exact ⟨t2, stp t2 a1, b1⟩
/-- what a call of an instance method needs -/
def CALLV (own : String) (ix : Nat) (Y2 : MD) (n q : Nat) (as : List PV) : Prop := MOK Y2 n ∧ as.length = n ∧ (∃ ci z : Nat, gT q = some (0, ci, z) ∧ (vwCl[ci]?).map (fun x => x.1) = some Y2.1.cls) ∧ INST Y2 ∧ LNK own ix Y2
theorem CALLV.good {own : String} {ix n q : Nat} {Y2 : MD} {as : List PV} (h : CALLV own ix Y2 n q as) : GoodIn UW (wsV own ix Y2.1.cls Y2.1 (wsY Y2)) := fun w hw => by
  obtain ⟨hm, hn, -, hin, hlk⟩ := h
  rcases List.mem_append.mp hw with hw | hw
  · simp only [List.mem_cons, List.not_mem_nil, or_false] at hw
    rcases hw with rfl | rfl | rfl | rfl
    · exact ⟨hlk, good_of_word (UW_good hlk)⟩
    · exact ⟨hin.1, good_of_word (UW_good hin.1)⟩
    · exact ⟨hin.2, good_of_word (UW_good hin.2)⟩
    · exact ⟨hm.2.1, good_of_word (UW_good hm.2.1)⟩
  · exact UW_good2 hm w hw
theorem g_call {ix n q d2 : Nat} {Y2 : MD} {as : List PV} {v : Option Value} {M1 : PM} {st0 st1 : List PV} (hX : GOK Y X) (hc : CALLV Y.1.cls ix Y2 n q as) (hR : d2 + 1 ≤ R.frames ∧ 60 + 64 * d2 ≤ R.locals ∧ cs.1 ≤ R.cells ∧ cs.2 ≤ R.slots) (hst : catS st ≤ 8) (hM : PC l d2 Y2 (vR q :: as) M (.inl v, M1)) (hs0 : st0 = (vR q :: as).reverse ++ st) (hv : ∀ ad, v.toList ++ st.map (tr ad) = st1.map (tr ad)) (kk : PG l R Y X cs is ls st1 M1) : PG l R Y X cs ((pc, .invokevirtual ix, 3) :: is) ls st0 M := by
  subst hs0
  have hgood := hc.good
  obtain ⟨p, e, s, m, args, below, meth, c, Q, sz, D, cy, ad⟩ := X
  obtain ⟨x1, x2, x3, x4, x5, x6, x7⟩ := hX
  obtain ⟨hm, hn, ⟨ci, z, hq, hcl⟩, hin, hlk⟩ := hc
  refine ⟨by simp, fun H locs rl hs hH hS hl => ?_⟩
  have hco := suf_cok hs x6
  have hMet := vx_toMet (hM sz D cy ad) (fun E st t h => by have := h.1; cases this)
  have hmx := hm.2.2.2.2.2
  have hr1 : d2 + 1 ≤ R.frames := hR.1
  have hr2 : 60 + 64 * d2 ≤ R.locals := hR.2.1
  have hW8 : 2 * (F0 m pc rl (((vR q :: as).reverse ++ st).map (tr ad))).monitorRoom + ((st.map (tr ad)).map fun v => v.category).sum ≤ 8 := by
    rw [catS_tr]
    show 2 * 0 + catS st ≤ 8
    omega
  have hpre : ∀ U : State, U.heap = H → s.WarmedH U.vm → va_Pc ((vR q :: as).map (tr ad)) (fun U => Kx sz D cy ad U ∧ WH sz D cy ad M U.heap) ((vR q :: as).map (tr ad)).toArray U := fun U hU hWm =>
    ⟨rfl, Kx.on x7 hWm (by rw [hU]; exact hS.1) (fun a h1 h2 => by rw [hU]; exact hS.2.1 a h1 h2), by rw [hU]; exact hH⟩
  have fix : CallFix p m c Y.2.1 Y.2.2.1 s args UW Y.1.cls := ⟨x1, x2, x3, x4, x5⟩
  obtain ⟨x, hx, hx1⟩ := Option.map_eq_some_iff.mp hcl
  obtain ⟨j, hj, -⟩ := wl_at (key0 hq) cy ad M
  have hj : (wl cy ad M)[j]? = some (ad q 0, .inr (ci, flds ad M q ci)) := by rw [hj]; exact congrArg (fun z => some (ad q 0, z)) (cE_obj hq)
  have hrecv := va_recv x7.1 hH.1 hx hj
  rw [hx1] at hrecv
  have hstack : ((vR q :: as).reverse ++ st).map (tr ad) = (as.map (tr ad)).reverse ++ .ref (ad q 0) :: st.map (tr ad) := by
    simp [List.map_append, List.map_reverse, tr]
  refine W.backG (va_runV (mc := 0) (ms := 0) (As := as.map (tr ad)) (b := ad q 0) (rest := st.map (tr ad)) (C := Y2.1.cls) fix hMet (cwV n x5 hgood rfl rfl rfl ⟨rfl, hm.2.2.1, hm.2.2.2.1, hm.2.2.2.2.1⟩ ⟨by show d2 + 1 ≤ R.frames; omega, by show 8 + (Y2.2.2.1 + 11) + 64 * d2 ≤ R.locals; omega⟩) ⟨Kx.blind, hrecv, hpre⟩ rfl (by rw [List.length_map]; exact hn) hl.1 hstack hW8 (COK.here hco) ⟨hR.2.2.1, hR.2.2.2⟩) hS (fun H1 locs1 a1 a2 => ?_)
  have h1 := kk.2 H1 locs1 rl (suf_next hs) a1 a2 hl
  rw [COK.next hco kk.1] at h1
  rw [hv ad]
  exact h1
theorem lvOK.st0 {ad : Nat → Nat → Nat} {n i : Nat} {rl' : Array Slot} {ls : List PV} {v : Value} (hlen : ls.length = n) (h : lv_has rl' n ((i, v) :: (lvA ad ls).filter (fun q => !(q.1 == i) && !(q.1 + 1 == i && q.2.category == 2)))) : lvOK ad n rl' (stL ls i jk) := by
  refine ⟨h.1, h.2.1, by rw [stL_len]; exact hlen, fun j w hj hw => ?_⟩
  rcases stL_at ls i jk j w hj hw with ⟨h1, h2⟩ | ⟨h1, h2, h3⟩
  · exact absurd h2 hw
  · refine h.2.2 (j, tr ad w) (List.mem_cons_of_mem _ (List.mem_filter.mpr ⟨lvA_of h2 hw, ?_⟩))
    simp only [Bool.and_eq_true, Bool.not_eq_true', beq_eq_false_iff_ne, Bool.and_eq_false_imp, beq_iff_eq, tr_cat]
    refine ⟨h1, fun e => ?_⟩
    cases hc : cat2 w with
    | true => exact absurd ⟨e, hc⟩ h3
    | false => simp
/-- a call that throws E, caught by the row x of this method's table; the handler stores it away -/
theorem g_catch {ix n q d2 i9 len9 : Nat} {Y2 : MD} {as : List PV} {E : String} {M1 : PM} {st0 ls' : List PV} {is9 : List CI} {op9 : Instr} (hX : GOK Y X) (hc : CALLV Y.1.cls ix Y2 n q as) (hR : d2 + 1 ≤ R.frames ∧ 60 + 64 * d2 ≤ R.locals ∧ cs.1 + 1 ≤ R.cells ∧ cs.2 + 6 ≤ R.slots) (hst : catS st ≤ 8) (hM : PC l d2 Y2 (vR q :: as) M (.inr E, M1)) (hs0 : st0 = (vR q :: as).reverse ++ st)
    (hh : ∀ {p : Program} {e : Env} {s : State} {m : MethodId} {args : Array Value} {below : List Frame} {meth : Method} {c : Code} {Q : State → Prop} {sz : Nat} {D : va_G} {cy : Nat → ClassId} {ad : Nat → Nat → Nat}, X = (p, e, s, m, args, below, meth, c, Q, sz, D, cy, ad) →
      ∃ (pre : List ExceptionTableEntry) (x : ExceptionTableEntry) (suf : List ExceptionTableEntry) (name : String), c.exceptionTable.toList = pre ++ x :: suf ∧ (∀ z ∈ pre, covers z pc = false ∨ (z.catchType ≠ 0 ∧ ∃ nm : String, (Cond.classLink Y.1.cls z.catchType nm).before args s = true ∧ va_Nc E nm s)) ∧ covers x pc = true ∧ x.catchType ≠ 0 ∧ (Cond.classLink Y.1.cls x.catchType name).before args s = true ∧ (Cond.castable E name).before args s = true ∧ x.handlerPc = hdpc ((0, op9, 0) :: is9) + i9)
    (kn : Nat) (hj : Y.code.drop kn = (i9, op9, len9) :: is9) (h9 : (∃ k : Fin 4, op9 = .astore_n k ∧ len9 = 1 ∧ (k : Nat) < Y.2.2.1 ∧ stL ls (k : Nat) jk = ls') ∨ (∃ k : Nat, op9 = .astore k ∧ len9 = 2 ∧ k < Y.2.2.1 ∧ stL ls k jk = ls')) (kk : PG l R Y X (cs.1 + 1, cs.2 + 6) is9 ls' [] M1) : PG l R Y X cs ((pc, .invokevirtual ix, 3) :: is) ls st0 M := by
  subst hs0
  have hgood := hc.good
  obtain ⟨p, e, s, m, args, below, meth, c, Q, sz, D, cy, ad⟩ := X
  obtain ⟨pre, x9, suf, name, t1, t2, t3, t4, t5, t6, t7⟩ := hh rfl
  obtain ⟨x1, x2, x3, x4, x5, x6, x7⟩ := hX
  obtain ⟨hm, hn, ⟨ci, z, hq, hcl⟩, hin, hlk⟩ := hc
  refine ⟨by simp, fun H locs rl hs hH hS hl => ?_⟩
  have hco := suf_cok hs x6
  have hmx := hm.2.2.2.2.2
  have hr1 : d2 + 1 ≤ R.frames := hR.1
  have hr2 : 60 + 64 * d2 ≤ R.locals := hR.2.1
  have hW8 : 2 * (F0 m pc rl (((vR q :: as).reverse ++ st).map (tr ad))).monitorRoom + ((st.map (tr ad)).map fun v => v.category).sum ≤ 8 := by
    rw [catS_tr]
    show 2 * 0 + catS st ≤ 8
    omega
  have hpre : ∀ U : State, U.heap = H → s.WarmedH U.vm → va_Pc ((vR q :: as).map (tr ad)) (fun U => Kx sz D cy ad U ∧ WH sz D cy ad M U.heap) ((vR q :: as).map (tr ad)).toArray U := fun U hU hWm =>
    ⟨rfl, Kx.on x7 hWm (by rw [hU]; exact hS.1) (fun a h1 h2 => by rw [hU]; exact hS.2.1 a h1 h2), by rw [hU]; exact hH⟩
  have fix : CallFix p m c Y.2.1 Y.2.2.1 s args UW Y.1.cls := ⟨x1, x2, x3, x4, x5⟩
  obtain ⟨x, hx, hx1⟩ := Option.map_eq_some_iff.mp hcl
  obtain ⟨j, hj0, -⟩ := wl_at (key0 hq) cy ad M
  have hj0 : (wl cy ad M)[j]? = some (ad q 0, .inr (ci, flds ad M q ci)) := by rw [hj0]; exact congrArg (fun z => some (ad q 0, z)) (cE_obj hq)
  have hrecv := va_recv x7.1 hH.1 hx hj0
  rw [hx1] at hrecv
  have hstack : ((vR q :: as).reverse ++ st).map (tr ad) = (as.map (tr ad)).reverse ++ .ref (ad q 0) :: st.map (tr ad) := by
    simp [List.map_append, List.map_reverse, tr]
  have hrun := vx_runV (locs := locs) (cells := cs.1) (slots := cs.2) (e := e) (below := below) (meth := meth) (H := H) (g := F0 m pc rl (((vR q :: as).reverse ++ st).map (tr ad))) (As := as.map (tr ad)) (b := ad q 0) (rest := st.map (tr ad)) (C := Y2.1.cls) fix (hM sz D cy ad) (cwV n x5 hgood rfl rfl rfl ⟨rfl, hm.2.2.1, hm.2.2.2.1, hm.2.2.2.2.1⟩ ⟨by show d2 + 1 ≤ R.frames; omega, by show 8 + (Y2.2.2.1 + 11) + 64 * d2 ≤ R.locals; omega⟩) ⟨Kx.blind, hrecv, hpre⟩ rfl (by rw [List.length_map]; exact hn) hl.1 hstack hW8 (COK.here hco) ⟨hR.2.2.1, hR.2.2.2⟩
  intro T hT X
  rcases hrun T hT X with ⟨v, st₀, t, T', L, h0, X', hL, e1, e2, ⟨v2, hv2, -⟩, -⟩ | ⟨q9, st₀, t, T', L, E9, ce, h0, X', hL, e1, e2, ⟨hE, hw, hz, hk⟩, hce9, hcv, hclE, stp⟩
  · cases hv2
  · cases hE
    rw [h0] at hz hk
    have hS2 : va_S (fun q => sz ≤ q) s.heap T'.heap (locs ++ L) := ⟨Nat.le_trans hS.1 (by rw [e1]; exact hz), fun q h1 h2 => by rw [e1, hk q (Nat.lt_of_lt_of_le h1 hS.1) h2]; exact hS.2.1 q h1 h2, fun q hq => by
      rcases List.mem_append.mp hq with h | h
      · exact hS.2.2 q h
      · exact hL q h⟩
    have hcat : W p l e R s m args below meth c T'.heap (locs ++ L) (cs.1 + 1) (cs.2 + 6) Q (F0 m x9.handlerPc rl [.ref q9]) := by
      have hpc : x9.handlerPc = i9 := by rw [t7]; exact Nat.zero_add _
      rw [hpc]
      have hco9 := suf_cok ⟨kn, hj⟩ x6
      have hnx : ∃ k, Y.code.drop k = is9 := suf_next ⟨kn, hj⟩
      have hWH : WH sz D cy ad M1 T'.heap := by rw [e1]; exact hw
      have hend : ∀ (rl2 : Array Slot) (ln : Nat), len9 = ln → lvOK ad Y.2.2.1 rl2 ls' → W p l e R s m args below meth c T'.heap (locs ++ L) (cs.1 + 1) (cs.2 + 6) Q (F0 m (i9 + ln) rl2 []) := fun rl2 ln hln h2 => by
        have h1 := kk.2 T'.heap (locs ++ L) rl2 hnx hWH hS2 h2
        rw [COK.next hco9 kk.1, hln] at h1
        exact h1
      rcases h9 with ⟨k, rfl, rfl, hk1, rfl⟩ | ⟨k, rfl, rfl, hk1, rfl⟩
      · exact lv_astore_n x1 x2 (COK.here hco9) rfl hl.has hk1 rfl (fun rl2 h2 => hend rl2 1 rfl (lvOK.st0 hl.2.2.1 h2))
      · exact lv_astore x1 x2 (COK.here hco9) hl.has hk1 rfl (fun rl2 h2 => hend rl2 2 rfl (lvOK.st0 hl.2.2.1 h2))
    obtain ⟨t2, a1, b1⟩ := vx_catch (pc := pc) (ls := rl) (rest := st.map (tr ad)) x4 pre x9 suf t1 t2 t3 t4 t5 t6 (by rw [e1]; exact hce9) hcv hclE hcat T' rfl X'
    exact ⟨t2, stp.trans a1, b1⟩
end GRows

