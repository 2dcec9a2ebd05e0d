/-! ===== BASE 5: throws, catches, copies, String constants ===== -/
section ThrowsExact
variable {p : Program} {l : Launch} {e : Env} {R : Room} {s : State} {m : MethodId} {args : Array Value} {below : List Frame} {meth : Method} {c : Code} {H : Heap} {locs : List Loc} {cells slots : Nat} {Q : State → Prop}
variable {mc ms : Nat} {free : Addr → Prop} {A0 A1 : Nat → Prop} {H0 : Heap} {a : Array Value} {ls : Array Slot} {st0 rest : List Value}
variable {Qc : Array Value → State → Outcome → State → Prop} {XC : String → State → State → Prop}
theorem tx_throwS {cc : ByteArray} {pc : Nat} (hexec : p.tables.exec = Jvm.exec) (hb : c.code = cc) (hl : l.stackTraces = false) {own cls text : String} {names : List String} {ik is ic mc ms sa : Nat} {A : Nat → Prop}
    (hown : s.vm.findClass own = some m.cls) (hcls : Bundle.fit cls = true) (hnames : ∀ n ∈ names, Bundle.fit n = true)
    (hk : (Cond.classLink own ik cls).before args s = true) (hini : (Cond.initialized cls).before args s = true) (hstr : vk_R own is text sa s) (hat : ∀ w ∈ vx_atS own ic cls names, w.before args s = true)
    (hgood : ∀ w ∈ Cond.classLink own ik cls :: Cond.initialized cls :: vx_atS own ic cls names, vx_ot w = true)
    (hU : vx_Zq Bundle.tN "UNASSIGNED_STACK" Bundle.steD A s s.heap) (hN : vx_Zq Bundle.tN "SUPPRESSED_SENTINEL" Bundle.listD A s s.heap) (hS : va_S A s.heap H locs) (hsize : ls.size = c.maxLocals)
    (d0 : decode cc pc = .ok (.new ik, 3)) (d3 : decode cc (pc + 3) = .ok (.dup, 1)) (d4 : decode cc (pc + 4) = .ok (.ldc is, 2)) (d6 : decode cc (pc + 6) = .ok (.invokespecial ic, 3)) (d9 : decode cc (pc + 9) = .ok (.athrow, 1))
    (hout : ∀ x ∈ c.exceptionTable.toList, covers x (pc + 9) = false)
    (hRframes : names.length + 3 < R.frames) (hRlocals : (rest.map fun v => v.category).sum + (13 * (names.length + 1) + 43) ≤ R.locals) (hRcells : cells + 1 ≤ R.cells) (hRslots : slots + 6 ≤ R.slots) (hlocks : meth.locks = false)
    (hx : ∀ t : State, s.vm.Alike t.vm → t.heap.size = H.size + 1 → (∀ q : Nat, q < H.size → t.heap[q]? = H[q]?) → (∃ ce : Cell, t.heap[H.size]? = some ce ∧ ce.vm = .none ∧ s.vm.findClass cls = some ce.cls) → XC cls s t)
    (hf : ∀ z ∈ locs, free z.base) (hc : cells + 1 ≤ mc) (hs : slots + 6 ≤ ms) :
    W p l e R s m args below meth c H locs cells slots (vx_MQ below Qc XC args s mc ms free) (F0 m pc ls rest) := by
  intro T hT X
  have htr : e.platform.stackTraces = false := (show e.platform.stackTraces = l.stackTraces by rw [X.admits.platform]).trans hl
  have Y := vx_rebase X (R' := { frames := R.frames, locals := R.locals, cells := 1, slots := 6 }) (Nat.le_refl _) (Nat.le_refl _) hRcells hRslots
  obtain ⟨s', hA⟩ : ∃ z, z = (T.setVm s.vm).setFrames (.invoking m args :: below) := ⟨_, rfl⟩
  rw [← hA] at Y
  have hvm : s'.vm = s.vm := by rw [hA]; rfl
  have hhp : s'.heap = H := by rw [hA]; exact hT
  have hW0 : s.WarmedH s'.vm := by rw [hvm]; exact State.WarmedH.refl s
  have hat' : ∀ w ∈ vx_atS own ic cls names, w.before args s' = true := fun w hw => vx_ot_at hW0 hvm.symm (hgood w (List.mem_cons_of_mem _ (List.mem_cons_of_mem _ hw))) (hat w hw)
  have hk' : (Cond.classLink own ik cls).before args s' = true := vx_ot_at hW0 hvm.symm (hgood _ List.mem_cons_self) hk
  have hini' : (Cond.initialized cls).before args s' = true := vx_ot_at hW0 hvm.symm (hgood _ (List.mem_cons_of_mem _ List.mem_cons_self)) hini
  have hU' : vx_Zq Bundle.tN "UNASSIGNED_STACK" Bundle.steD A s' s'.heap := by rw [hhp]; exact vx_Zq.moved hW0.alike (hU.kept hS.2.1)
  have hN' : vx_Zq Bundle.tN "SUPPRESSED_SENTINEL" Bundle.listD A s' s'.heap := by rw [hhp]; exact vx_Zq.moved hW0.alike (hN.kept hS.2.1)
  have h : ∀ w ∈ Bundle.ownAtoms own ic cls names, w.before args s' = true := vx_own hat' (vx_isRefq hU'.1) (vx_isRefq hN'.1) hU'.2.word hN'.2.word
  have hown' : s'.vm.findClass own = some m.cls := by rw [hvm]; exact hown
  have hins : (Cond.instantiable cls 6).before args s' = true := h _ (by simp [Bundle.ownAtoms])
  obtain ⟨vm₁, cX, kX, hfX, hkX, -, -, X₁, st1⟩ := Y.newCold hexec (own := own) (C := cls) (index := ik) (n := 6) hown' hk' hins hini'
    (g := F0 m pc ls rest) rfl (by rw [hb]; exact d0) (Nat.le_refl _) (Nat.le_refl _)
  generalize hT1 : (T.setVm vm₁).pushCell { cls := cX, slots := kX.instanceTypes.map defaultValue, vm := .none } = T1 at X₁ st1
  have hcat : (Value.ref T.heap.size).category = 1 := rfl
  have hcellA : T1.heap[T.heap.size]? = some (freshCell cX kX) := by rw [← hT1]; exact State.heap_pushCell_size _ _
  have d3' : decode c.code (pc + 3) = .ok (.dup, 1) := by rw [hb]; exact d3
  have d4' : decode c.code (pc + 4) = .ok (.ldc is, 2) := by rw [hb]; exact d4
  have hstr' : vk_R own is text sa s' := vk_R.warm hW0 hstr
  obtain ⟨U, hsteps, hrun, hend, hW, hsame, ce, hce, hO⟩ := X₁.ctorThrowS hexec htr (own := own) (cls := cls) (names := names) (ic := ic) hown' hcls hnames h (fun x hx => nomatch hx) hfX hkX hcellA (by rw [hhp, hT]; exact Nat.le_refl _) (msg := .ref sa) rfl
    (g := { method := m, pc := pc + 6, locals := ls, stack := .ref sa :: .ref T.heap.size :: .ref T.heap.size :: rest, locked := none }) rfl hsize rfl rfl (rest := rest) rfl
    (by rw [hb]; exact d6) (by rw [hb]; exact d9) hout hRframes (by simp only [List.map_cons, List.sum_cons, hcat]; omega) hlocks
  obtain ⟨f1, f2⟩ := vx_frame hsame
  rw [hhp] at f1 f2
  have hWs : s.WarmedH U.vm := State.WarmedH.trans hW0 hW
  have hce9 : U.heap[H.size]? = some ce := by rw [← hT]; exact hce
  have hsz9 : U.heap.size = H.size + 1 := by
    have g1 : U.heap.size ≤ s'.heap.size + (0 + 1) := hsame.2.2.1
    rw [hhp] at g1
    have g2 : H.size < U.heap.size := (Array.getElem?_eq_some_iff.mp hce9).1
    omega
  have hcl : s.vm.findClass cls = some ce.cls := by
    have h9 := hO.cls
    rw [hvm] at h9
    exact h9
  have hall : s.sameButNew ({ U with vm := s.vm } : State) locs mc ms := by
    subst hA
    obtain ⟨e1, e2⟩ := hsame
    rw [State.setFrames_setFrames] at e1
    have h2 : (T.setVm s.vm).sameButNew ({ U with vm := s.vm } : State) [] (0 + 1) (0 + 6) := ⟨e1, e2⟩
    have h3 := X.same.trans h2
    rw [List.append_nil] at h3
    exact h3.mono hc hs
  refine ⟨U, ?_, .threw T.heap.size, hrun, hend, Or.inr ⟨T.heap.size, rfl, cls, ce, locs, hx U hWs.alike hsz9 (fun q hq => f2 q hq (fun z hz => nomatch hz)) ⟨ce, hce9, hO.vm, hcl⟩, hce, hO.vm, hcl, hWs, hall, hf⟩⟩
  refine st1 _ ?_
  show Steps p.tables e below (T1.setTop { method := m, pc := pc + 3, locals := ls, stack := .ref T.heap.size :: rest, locked := none }) _
  jvm_step X₁.here [X₁.here.top, hexec, d3', Value.category]
  exact X₁.ldcString hexec (own := own) (text := text) (index := is) (a := sa) hown' hstr'.1 hstr'.2
    (g := { method := m, pc := pc + 4, locals := ls, stack := .ref T.heap.size :: .ref T.heap.size :: rest, locked := none }) rfl d4' _ hsteps
theorem tx_throwSW {cc : ByteArray} {pc : Nat} (hexec : p.tables.exec = Jvm.exec) (hb : c.code = cc) (hl : l.stackTraces = false) {own cls text : String} {names : List String} {ik is ic mc ms sa : Nat} {A : Nat → Prop}
    (hown : s.vm.findClass own = some m.cls) (hcls : Bundle.fit cls = true) (hnames : ∀ n ∈ names, Bundle.fit n = true)
    (hk : (Cond.classLink own ik cls).before args s = true) (hini : (Cond.initialized cls).before args s = true) (hstr : vk_R own is text sa s) (hat : ∀ w ∈ vx_atS own ic cls names, w.before args s = true)
    (hgood : ∀ w ∈ Cond.classLink own ik cls :: Cond.initialized cls :: vx_atS own ic cls names, vx_ot w = true)
    (hU : vx_Zq Bundle.tN "UNASSIGNED_STACK" Bundle.steD A s s.heap) (hN : vx_Zq Bundle.tN "SUPPRESSED_SENTINEL" Bundle.listD A s s.heap) (hS : va_S A s.heap H locs) (hsize : ls.size = c.maxLocals)
    (d0 : decode cc pc = .ok (.new ik, 3)) (d3 : decode cc (pc + 3) = .ok (.dup, 1)) (d4 : decode cc (pc + 4) = .ok (.ldc_w is, 3)) (d7 : decode cc (pc + 7) = .ok (.invokespecial ic, 3)) (d10 : decode cc (pc + 10) = .ok (.athrow, 1))
    (hout : ∀ x ∈ c.exceptionTable.toList, covers x (pc + 10) = false)
    (hRframes : names.length + 3 < R.frames) (hRlocals : (rest.map fun v => v.category).sum + (13 * (names.length + 1) + 43) ≤ R.locals) (hRcells : cells + 1 ≤ R.cells) (hRslots : slots + 6 ≤ R.slots) (hlocks : meth.locks = false)
    (hx : ∀ t : State, s.vm.Alike t.vm → t.heap.size = H.size + 1 → (∀ q : Nat, q < H.size → t.heap[q]? = H[q]?) → (∃ ce : Cell, t.heap[H.size]? = some ce ∧ ce.vm = .none ∧ s.vm.findClass cls = some ce.cls) → XC cls s t)
    (hf : ∀ z ∈ locs, free z.base) (hc : cells + 1 ≤ mc) (hs : slots + 6 ≤ ms) :
    W p l e R s m args below meth c H locs cells slots (vx_MQ below Qc XC args s mc ms free) (F0 m pc ls rest) := by
  intro T hT X
  have htr : e.platform.stackTraces = false := (show e.platform.stackTraces = l.stackTraces by rw [X.admits.platform]).trans hl
  have Y := vx_rebase X (R' := { frames := R.frames, locals := R.locals, cells := 1, slots := 6 }) (Nat.le_refl _) (Nat.le_refl _) hRcells hRslots
  obtain ⟨s', hA⟩ : ∃ z, z = (T.setVm s.vm).setFrames (.invoking m args :: below) := ⟨_, rfl⟩
  rw [← hA] at Y
  have hvm : s'.vm = s.vm := by rw [hA]; rfl
  have hhp : s'.heap = H := by rw [hA]; exact hT
  have hW0 : s.WarmedH s'.vm := by rw [hvm]; exact State.WarmedH.refl s
  have hat' : ∀ w ∈ vx_atS own ic cls names, w.before args s' = true := fun w hw => vx_ot_at hW0 hvm.symm (hgood w (List.mem_cons_of_mem _ (List.mem_cons_of_mem _ hw))) (hat w hw)
  have hk' : (Cond.classLink own ik cls).before args s' = true := vx_ot_at hW0 hvm.symm (hgood _ List.mem_cons_self) hk
  have hini' : (Cond.initialized cls).before args s' = true := vx_ot_at hW0 hvm.symm (hgood _ (List.mem_cons_of_mem _ List.mem_cons_self)) hini
  have hU' : vx_Zq Bundle.tN "UNASSIGNED_STACK" Bundle.steD A s' s'.heap := by rw [hhp]; exact vx_Zq.moved hW0.alike (hU.kept hS.2.1)
  have hN' : vx_Zq Bundle.tN "SUPPRESSED_SENTINEL" Bundle.listD A s' s'.heap := by rw [hhp]; exact vx_Zq.moved hW0.alike (hN.kept hS.2.1)
  have h : ∀ w ∈ Bundle.ownAtoms own ic cls names, w.before args s' = true := vx_own hat' (vx_isRefq hU'.1) (vx_isRefq hN'.1) hU'.2.word hN'.2.word
  have hown' : s'.vm.findClass own = some m.cls := by rw [hvm]; exact hown
  have hins : (Cond.instantiable cls 6).before args s' = true := h _ (by simp [Bundle.ownAtoms])
  obtain ⟨vm₁, cX, kX, hfX, hkX, -, -, X₁, st1⟩ := Y.newCold hexec (own := own) (C := cls) (index := ik) (n := 6) hown' hk' hins hini'
    (g := F0 m pc ls rest) rfl (by rw [hb]; exact d0) (Nat.le_refl _) (Nat.le_refl _)
  generalize hT1 : (T.setVm vm₁).pushCell { cls := cX, slots := kX.instanceTypes.map defaultValue, vm := .none } = T1 at X₁ st1
  have hcat : (Value.ref T.heap.size).category = 1 := rfl
  have hcellA : T1.heap[T.heap.size]? = some (freshCell cX kX) := by rw [← hT1]; exact State.heap_pushCell_size _ _
  have d3' : decode c.code (pc + 3) = .ok (.dup, 1) := by rw [hb]; exact d3
  have d4' : decode c.code (pc + 4) = .ok (.ldc_w is, 3) := by rw [hb]; exact d4
  have hstr' : vk_R own is text sa s' := vk_R.warm hW0 hstr
  obtain ⟨U, hsteps, hrun, hend, hW, hsame, ce, hce, hO⟩ := X₁.ctorThrowS hexec htr (own := own) (cls := cls) (names := names) (ic := ic) hown' hcls hnames h (fun x hx => nomatch hx) hfX hkX hcellA (by rw [hhp, hT]; exact Nat.le_refl _) (msg := .ref sa) rfl
    (g := { method := m, pc := pc + 7, locals := ls, stack := .ref sa :: .ref T.heap.size :: .ref T.heap.size :: rest, locked := none }) rfl hsize rfl rfl (rest := rest) rfl
    (by rw [hb]; exact d7) (by rw [hb]; exact d10) hout hRframes (by simp only [List.map_cons, List.sum_cons, hcat]; omega) hlocks
  obtain ⟨f1, f2⟩ := vx_frame hsame
  rw [hhp] at f1 f2
  have hWs : s.WarmedH U.vm := State.WarmedH.trans hW0 hW
  have hce9 : U.heap[H.size]? = some ce := by rw [← hT]; exact hce
  have hsz9 : U.heap.size = H.size + 1 := by
    have g1 : U.heap.size ≤ s'.heap.size + (0 + 1) := hsame.2.2.1
    rw [hhp] at g1
    have g2 : H.size < U.heap.size := (Array.getElem?_eq_some_iff.mp hce9).1
    omega
  have hcl : s.vm.findClass cls = some ce.cls := by
    have h9 := hO.cls
    rw [hvm] at h9
    exact h9
  have hall : s.sameButNew ({ U with vm := s.vm } : State) locs mc ms := by
    subst hA
    obtain ⟨e1, e2⟩ := hsame
    rw [State.setFrames_setFrames] at e1
    have h2 : (T.setVm s.vm).sameButNew ({ U with vm := s.vm } : State) [] (0 + 1) (0 + 6) := ⟨e1, e2⟩
    have h3 := X.same.trans h2
    rw [List.append_nil] at h3
    exact h3.mono hc hs
  refine ⟨U, ?_, .threw T.heap.size, hrun, hend, Or.inr ⟨T.heap.size, rfl, cls, ce, locs, hx U hWs.alike hsz9 (fun q hq => f2 q hq (fun z hz => nomatch hz)) ⟨ce, hce9, hO.vm, hcl⟩, hce, hO.vm, hcl, hWs, hall, hf⟩⟩
  refine st1 _ ?_
  show Steps p.tables e below (T1.setTop { method := m, pc := pc + 3, locals := ls, stack := .ref T.heap.size :: rest, locked := none }) _
  jvm_step X₁.here [X₁.here.top, hexec, d3', Value.category]
  exact X₁.ldcStringW hexec (own := own) (text := text) (index := is) (a := sa) hown' hstr'.1 hstr'.2
    (g := { method := m, pc := pc + 4, locals := ls, stack := .ref T.heap.size :: .ref T.heap.size :: rest, locked := none }) rfl d4' _ hsteps
end ThrowsExact
def six13 : ByteArray := ⟨#[0x2a, 0x2b, 0xb7, 0x00, 0x0d, 0xb1]⟩
def own13 (own : String) (ic : Nat) (X Y : String) (r : List String) : List Cond :=
  Bundle.throwableAtoms ++ Bundle.throwableSAtoms ++ (Bundle.passSAtoms X Y 13 six13 ++ Bundle.chainSAtoms Y r) ++
  [.methodLink own ic (Bundle.initS X), .instantiable X 6, .castable X X, .selects X Bundle.tFill0 Bundle.tFill0, .selects X Bundle.tFill Bundle.tFill,
   .lays X Bundle.tN "cause" "Ljava/lang/Throwable;", .lays X Bundle.tN "stackTrace" Bundle.steD, .lays X Bundle.tN "suppressedExceptions" Bundle.listD, .lays X Bundle.tN "detailMessage" "Ljava/lang/String;",
   .isRef (.static Bundle.tN "UNASSIGNED_STACK" Bundle.steD), .isRef (.static Bundle.tN "SUPPRESSED_SENTINEL" Bundle.listD),
   .fieldLink Bundle.tN 198 Bundle.tN "backtrace" "Ljava/lang/Object;", .lays Bundle.tN Bundle.tN "backtrace" "Ljava/lang/Object;", .lays X Bundle.tN "backtrace" "Ljava/lang/Object;"]
def at13 (own : String) (ic : Nat) (X Y : String) (r : List String) : List Cond := (own13 own ic X Y r).filter vx_no
theorem chain13 {args : Array Value} {s : State} {pl : Platform} (hpl : pl.magicAccessors = ({} : Platform).magicAccessors) {top : MethodId} (htop : s.methodNamed? (Bundle.initS Bundle.tN) = some top) (Y : String) (r : List String) (X : String) (hX : Bundle.fit X = true) (hn : ∀ n ∈ Y :: r, Bundle.fit n = true)
    (h : ∀ c ∈ Bundle.passSAtoms X Y 13 six13 ++ Bundle.chainSAtoms Y r, c.before args s = true) :
    ∃ (P1 : PassC) (Ps : List PassC), Ps.length = (Y :: r).length ∧ P1.LinksS pl s ∧ (∀ P, P ∈ Ps → P.LinksS pl s) ∧ s.methodNamed? (Bundle.initS X) = some P1.m ∧ P1.sup = firstOf top (Ps.map (·.toPassT)) ∧ PassesOn top (Ps.map (·.toPassT)) := by
  obtain ⟨P, L, hm, hs⟩ := PassC.ofS_atoms (args := args) (s := s) hpl (X := X) (Y := Y) (Bundle.fit_spec hX).1 (Bundle.fit_spec (hn Y List.mem_cons_self)).2 (by decide +kernel) (by decide +kernel) (by decide +kernel) (by decide +kernel)
    (fun c hc => h c (List.mem_append.mpr (Or.inl hc)))
  obtain ⟨P', Ps, hlen, L', hL, hm', hsup, hpass⟩ := Bundle.chainS hpl htop r Y (hn Y List.mem_cons_self) (fun n hn' => hn n (List.mem_cons_of_mem _ hn')) (fun c hc => h c (List.mem_append.mpr (Or.inr hc)))
  refine ⟨P, P' :: Ps, by simp [hlen], L, ?_, hm, Option.some.inj (hs.symm.trans hm'), hsup, hpass⟩
  intro Q hQ
  rcases List.mem_cons.mp hQ with rfl | hQ
  · exact L'
  · exact hL Q hQ
section Made13
variable {p : Program} {l : Launch} {e : Env} {R : Room} {s : State} {m₀ : MethodId} {args : Array Value} {below : List Frame} {meth : Method} {c : Code} {W : State} {locs : List Loc} {cells slots : Nat}
set_option maxHeartbeats 1000000 in
theorem tx_ctorMade13 (X : Stand p l e R s m₀ args below meth c W locs cells slots) (hexec : p.tables.exec = Jvm.exec) (htr : e.platform.stackTraces = false) {own cls : String} {Y0 : String} {r0 : List String} {ic : Nat}
    (hown : s.vm.findClass own = some m₀.cls) (hcls : Bundle.fit cls = true) (hnames : ∀ n ∈ Y0 :: r0, Bundle.fit n = true)
    (h : ∀ a ∈ own13 own ic cls Y0 r0, a.before args s = true)
    (hlocs : ∀ x ∈ locs, ∀ cell, s.heap[x.base]? = some cell → cell.vm.isStatics = false)
    {a : Addr} {cX : ClassId} {kX : Class} (hfoundX : s.vm.findClass cls = some cX) (hkX : s.vm.classes[cX]? = some kX) (hcell : W.heap[a]? = some (freshCell cX kX)) (hnew : s.heap.size ≤ a)
    {msg : Value} (hmsg : msg.isRef = true)
    {g : JFrame} (hg : g.method = m₀) (hsize : g.locals.size = c.maxLocals) {rest : List Value} (hstack : g.stack = msg :: .ref a :: .ref a :: rest)
    (hd6 : decode c.code g.pc = .ok (.invokespecial ic, 3))
    (hRframes : (Y0 :: r0).length + 3 < R.frames) (hRlocals : 2 * g.monitorRoom + ((Value.ref a :: rest).map fun v => v.category).sum + (13 * ((Y0 :: r0).length + 1) + 42) ≤ R.locals) :
    ∃ (V : State) (ce : Cell) (L : List Loc), Stand p l e R s m₀ args below meth c (V.setCell a ce) (locs ++ L) cells slots ∧ (∀ y ∈ L, y.base = a) ∧ a < V.heap.size ∧ ce.cls = cX ∧ ce.vm = .none ∧
      ∀ target, Steps p.tables e below ((V.setCell a ce).setTop { g with stack := .ref a :: rest, pc := g.pc + 3 }) target → Steps p.tables e below (W.setTop g) target := by
  have howns : e.platform.frameOwnsMonitors = true := by rw [X.admits.platform]
  have hfin : e.platform.finalization = false := by rw [X.admits.platform]
  have hpl : e.platform.magicAccessors = ({} : Platform).magicAccessors := by rw [X.admits.platform]
  have a' : ∀ x, x ∈ own13 own ic cls Y0 r0 → x.holds args s none s [] = true := fun x hx => h x hx
  obtain ⟨T, Z0, L, -, Y⟩ := ThrowableC.of_atoms (args := args) howns hfin hpl (fun x hx => h x (by simp [own13, hx]))
  obtain ⟨Z, M, LZ, LM, hnZ⟩ := Init0T.ofS_atoms (args := args) hpl L Y (fun x hx => h x (by simp [own13, hx]))
  obtain ⟨P1, Ps, hlen, L1, hL, hP1m, hlink1, hlink⟩ := chain13 (args := args) hpl hnZ Y0 r0 cls hcls hnames (fun x hx => h x (by unfold own13; exact List.mem_append_left _ (List.mem_append_right _ hx)))
  have hfound : s.vm.findClass cls = some P1.m.cls := findClass_of_methodNamed hP1m
  cases Option.some.inj (hfoundX.symm.trans hfound)
  obtain ⟨c1, kX', hc1, hk, hord, -, -, hn6⟩ := Cond.instantiable_spec (a' (.instantiable cls 6) (by simp [own13]))
  cases Option.some.inj (hc1.symm.trans hfound)
  cases Option.some.inj (hkX.symm.trans hk)
  have hsel0 : selectMethod e.platform s.vm P1.m.cls T.fill0 = .method T.fill0 := by
    obtain ⟨c2, r2, m2, q1, q2, q3, q4, -⟩ := Cond.selects_spec (a' (.selects cls Bundle.tFill0 Bundle.tFill0) (by simp [own13]))
    cases Option.some.inj (q1.symm.trans hfound)
    cases Option.some.inj (q2.symm.trans (State.methodFound?_of_named Y.fill0 (by decide)))
    cases Option.some.inj (q3.symm.trans Y.fill0)
    rw [Launch.admits_selectMethod X.admits]; exact q4
  have hselF : selectMethod e.platform s.vm P1.m.cls T.fill = .method T.fill := by
    obtain ⟨c2, r2, m2, q1, q2, q3, q4, -⟩ := Cond.selects_spec (a' (.selects cls Bundle.tFill Bundle.tFill) (by simp [own13]))
    cases Option.some.inj (q1.symm.trans hfound)
    cases Option.some.inj (q2.symm.trans (State.methodFound?_of_named Y.fill (by decide)))
    cases Option.some.inj (q3.symm.trans Y.fill)
    rw [Launch.admits_selectMethod X.admits]; exact q4
  obtain ⟨cellS0, hcS0, hiss⟩ := Y.statics
  obtain ⟨u0, hu0⟩ := Cond.staticRefV Y.unassigned L.unassignedStatic L.statics hcS0 hiss (a' (.isRef (.static Bundle.tN "UNASSIGNED_STACK" Bundle.steD)) (by simp [own13]))
  obtain ⟨sen, hsen⟩ := Cond.staticRefV Y.sentinel L.sentinelStatic L.statics hcS0 hiss (a' (.isRef (.static Bundle.tN "SUPPRESSED_SENTINEL" Bundle.listD)) (by simp [own13]))
  obtain ⟨ci198, i198, fB, hk198, hg198, ha198, hsB, -, hnB, htB, hffB⟩ := Cond.ownField (t := .object "java/lang/Object") Y.found L.cls (by decide +kernel) (a' (.fieldLink Bundle.tN 198 Bundle.tN "backtrace" "Ljava/lang/Object;") (by simp [own13])) (a' (.lays Bundle.tN Bundle.tN "backtrace" "Ljava/lang/Object;") (by simp [own13])) e.platform hpl
  obtain ⟨cellS, hcS', heS, -, hkeep⟩ := X.same.2.2.2.2.2 T.aS cellS0 hcS0
  have hcellS : W.heap[T.aS]? = some cellS := hcS'
  have hout' : ∀ i, (⟨T.aS, i⟩ : Loc) ∉ locs := fun i hmem => by
    have := hlocs _ hmem cellS0 hcS0
    rw [hiss] at this; cases this
  have hknownS : cellS.vm ≠ .unknown := by
    rw [heS]; intro hu
    rw [show cellS0.vm = .unknown from hu] at hiss
    cases hiss
  have hneS : T.aS ≠ a := Nat.ne_of_lt (Nat.lt_of_lt_of_le (Array.getElem?_eq_some_iff.mp hcS0).1 hnew)
  obtain ⟨iM, hffM⟩ := Y.msg
  obtain ⟨tyC, dC, hdC, hdnC⟩ := Cond.laysAt hfound hk Y.cause (a' (.lays cls Bundle.tN "cause" "Ljava/lang/Throwable;") (by simp [own13]))
  obtain ⟨tyS, dS, hdS, hdnS⟩ := Cond.laysAt hfound hk Y.stack (a' (.lays cls Bundle.tN "stackTrace" Bundle.steD) (by simp [own13]))
  obtain ⟨tyP, dP, hdP, hdnP⟩ := Cond.laysAt hfound hk Y.supp (a' (.lays cls Bundle.tN "suppressedExceptions" Bundle.listD) (by simp [own13]))
  obtain ⟨tyM, dM, hdM, hdnM⟩ := Cond.laysAt hfound hk hffM (a' (.lays cls Bundle.tN "detailMessage" "Ljava/lang/String;") (by simp [own13]))
  obtain ⟨tyB, dB, hdB, hdnB⟩ := Cond.laysAt hfound hk hffB (a' (.lays cls Bundle.tN "backtrace" "Ljava/lang/Object;") (by simp [own13]))
  have bC := Cond.laysApart hdB hdC hdnB hdnC (by rw [hnB, Y.causeName]; decide)
  have bS := Cond.laysApart hdB hdS hdnB hdnS (by rw [hnB, Y.stackName]; decide)
  have bP := Cond.laysApart hdB hdP hdnB hdnP (by rw [hnB, Y.suppName]; decide)
  have hskip : SkipFacts T e.platform s (fun u => u) u0 ((preparedCellV T.toThrowableT (freshCell P1.m.cls kX) a u0 sen).withEntry W.cur) :=
    ⟨{ ci198 := ci198, i198 := i198, fBack := fB }, ⟨hk198, hg198, ha198, hsB⟩, by
      have := fresh_default (c := P1.m.cls) tyB
      rw [htB] at this
      simpa [preparedCellV, Cell.setSlot, Cell.withEntry, Array.getElem?_setIfInBounds, bC, bS, bP, bC.symm, bS.symm, bP.symm, defaultValue] using this, fun _ _ => rfl⟩
  obtain ⟨tm, methC, cdC, kC, vm₁, hnC, -, -, -, -, -, -, -, hW₁, st1⟩ := Steps.initColdS (tb := p.tables) (e := e) (below := below) (s := s) (U := W) X.here hexec X.warmed hpl hown (t := Bundle.initS cls) rfl rfl (Bundle.fit_spec hcls).2
    (a' (.methodLink own ic (Bundle.initS cls)) (by simp [own13])) (h (.instanceMethod (Bundle.initS cls)) (by simp [own13, Bundle.passSAtoms])) (bytes := six13) (maxL := 2) (h (.code (Bundle.initS cls) six13 2 none) (by simp [own13, Bundle.passSAtoms]))
    (f := g) hg (a := a) (msg := msg) (rest := .ref a :: rest) hstack hd6
  cases Option.some.inj (hnC.symm.trans hP1m)
  have X₁ := X.noted hW₁
  obtain ⟨vm₂, X₂, st2⟩ := X₁.ctorMessageOffV hexec (g := { g with stack := .ref a :: rest }) hg hsize T L Z LZ M LM (P1 :: Ps)
    (fun P hP => by rcases List.mem_cons.mp hP with rfl | hP; exact L1; exact hL P hP) ⟨hlink1, hlink⟩ (u0 := u0) (sen := sen) (self := a) hmsg (cell := freshCell P1.m.cls kX) (cellS := cellS)
    hcell (fun _ => by simp) (by simp) rfl rfl hsel0 hselF hcellS hneS hknownS (by rw [hkeep _ (hout' _)]; exact hu0) (by rw [hkeep _ (hout' _)]; exact hsen)
    (Takes.of_laid hk hord tyC (by rw [Y.causeType]; rfl)) (Takes.of_laid hk hord tyS (by rw [Y.stackType]; exact fits_refV_array _ u0)) (Takes.of_laid hk hord tyP (by rw [Y.suppType]; exact fits_refV_object _ sen))
    (Takes.of_laid hk hord tyM (by rw [Y.msgType]; exact fits_refV_object _ ⟨msg, hmsg⟩)) Y.objLocals hskip htr [] hd6
    (by simp only [List.length_cons, hlen]; omega) (by simp only [List.length_cons, hlen]; exact hRlocals)
  have hlt : a < ((W.setVm vm₁).setVm vm₂).heap.size := (Array.getElem?_eq_some_iff.mp hcell).1
  refine ⟨(W.setVm vm₁).setVm vm₂, _, _, X₂, fun y hy => ?_, hlt, rfl, rfl, fun target hwalk => st1 _ (fun acts => ?_)⟩
  · simp only [List.mem_cons, List.not_mem_nil, or_false] at hy
    rcases hy with rfl | rfl | rfl | rfl | rfl <;> rfl
  · rw [doInvoke_state]
    exact st2 _ hwalk
end Made13
section Make13
variable {p : Program} {l : Launch} {e : Env} {R : Room} {s : State} {m : MethodId} {args : Array Value} {below : List Frame} {meth : Method} {c : Code} {H : Heap} {locs : List Loc} {cells slots : Nat} {Q : State → Prop}
variable {ls : Array Slot} {rest : List Value}
theorem tx_back9 {T S : State} {R' : Room} {k n : Nat} (X : Stand p l e R s m args below meth c T locs cells slots) (Y : Stand p l e R' ((T.setVm s.vm).setFrames (.invoking m args :: below)) m args below meth c T [] 0 0) (Z : Stand p l e R' ((T.setVm s.vm).setFrames (.invoking m args :: below)) m args below meth c S [] k n) :
    Stand p l e R s m args below meth c S locs (cells + k) (slots + n) := by
  have hW0 : s.WarmedH ((T.setVm s.vm).setFrames (.invoking m args :: below)).vm := State.WarmedH.refl s
  refine { admits := X.admits, cas := X.cas, clock := X.clock, frames := X.frames, room := X.room, hears := X.hears, method := X.method, code := X.code, here := Z.here, tail := Z.tail, warmed := State.WarmedH.trans hW0 Z.warmed, limits := Z.limits.trans (Y.limits.symm.trans X.limits), bytes := Z.bytes.trans (Y.bytes.symm.trans X.bytes), same := ?_ }
  obtain ⟨e1, e2⟩ := Z.same
  rw [State.setFrames_setFrames] at e1
  have h2 : (T.setVm s.vm).sameButNew (S.setVm s.vm) [] k n := ⟨e1, e2⟩
  have h3 := X.same.trans h2
  rw [List.append_nil] at h3
  exact h3
theorem tx_make13 {cc : ByteArray} {pc : Nat} (hexec : p.tables.exec = Jvm.exec) (hb : c.code = cc) (hl : l.stackTraces = false) {own cls text : String} {Y0 : String} {r0 : List String} {ik is ic sa : Nat} {A : Nat → Prop}
    (hown : s.vm.findClass own = some m.cls) (hcls : Bundle.fit cls = true) (hnames : ∀ n ∈ Y0 :: r0, Bundle.fit n = true)
    (hk : (Cond.classLink own ik cls).before args s = true) (hini : (Cond.initialized cls).before args s = true) (hstr : vk_R own is text sa s) (hat : ∀ w ∈ at13 own ic cls Y0 r0, w.before args s = true)
    (hgood : ∀ w ∈ Cond.classLink own ik cls :: Cond.initialized cls :: at13 own ic cls Y0 r0, vx_ot w = true)
    (hU : vx_Zq Bundle.tN "UNASSIGNED_STACK" Bundle.steD A s s.heap) (hN : vx_Zq Bundle.tN "SUPPRESSED_SENTINEL" Bundle.listD A s s.heap) (hS : va_S A s.heap H locs) (hsize : ls.size = c.maxLocals)
    (d0 : decode cc pc = .ok (.new ik, 3)) (d3 : decode cc (pc + 3) = .ok (.dup, 1)) (d4 : decode cc (pc + 4) = .ok (.ldc is, 2)) (d6 : decode cc (pc + 6) = .ok (.invokespecial ic, 3))
    (hRframes : (Y0 :: r0).length + 3 < R.frames) (hRlocals : (rest.map fun v => v.category).sum + (13 * ((Y0 :: r0).length + 1) + 43) ≤ R.locals) (hRcells : cells + 1 ≤ R.cells) (hRslots : slots + 6 ≤ R.slots)
    (kk : ∀ H1 : Heap, H1.size = H.size + 1 → (∀ q : Nat, q < H.size → H1[q]? = H[q]?) → (∃ ce : Cell, H1[H.size]? = some ce ∧ ce.vm = .none ∧ s.vm.findClass cls = some ce.cls) → W p l e R s m args below meth c H1 locs (cells + 1) (slots + 6) Q (F0 m (pc + 9) ls (.ref H.size :: rest))) :
    W p l e R s m args below meth c H locs cells slots Q (F0 m pc ls rest) := by
  intro T hT X
  subst hT
  have htr : e.platform.stackTraces = false := (show e.platform.stackTraces = l.stackTraces by rw [X.admits.platform]).trans hl
  have Y := vx_rebase X (R' := { frames := R.frames, locals := R.locals, cells := 1, slots := 6 }) (Nat.le_refl _) (Nat.le_refl _) hRcells hRslots
  obtain ⟨s', hA'⟩ : ∃ z, z = (T.setVm s.vm).setFrames (.invoking m args :: below) := ⟨_, rfl⟩
  rw [← hA'] at Y
  have hvm : s'.vm = s.vm := by rw [hA']; rfl
  have hhp : s'.heap = T.heap := by rw [hA']; rfl
  have hW0 : s.WarmedH s'.vm := by rw [hvm]; exact State.WarmedH.refl s
  have hat' : ∀ w ∈ at13 own ic cls Y0 r0, w.before args s' = true := fun w hw => vx_ot_at hW0 hvm.symm (hgood w (List.mem_cons_of_mem _ (List.mem_cons_of_mem _ hw))) (hat w hw)
  have hk' : (Cond.classLink own ik cls).before args s' = true := vx_ot_at hW0 hvm.symm (hgood _ List.mem_cons_self) hk
  have hini' : (Cond.initialized cls).before args s' = true := vx_ot_at hW0 hvm.symm (hgood _ (List.mem_cons_of_mem _ List.mem_cons_self)) hini
  have hU' : vx_Zq Bundle.tN "UNASSIGNED_STACK" Bundle.steD A s' s'.heap := by rw [hhp]; exact vx_Zq.moved hW0.alike (hU.kept hS.2.1)
  have hN' : vx_Zq Bundle.tN "SUPPRESSED_SENTINEL" Bundle.listD A s' s'.heap := by rw [hhp]; exact vx_Zq.moved hW0.alike (hN.kept hS.2.1)
  have h : ∀ w ∈ own13 own ic cls Y0 r0, w.before args s' = true := vx_own hat' (vx_isRefq hU'.1) (vx_isRefq hN'.1) hU'.2.word hN'.2.word
  have hown' : s'.vm.findClass own = some m.cls := by rw [hvm]; exact hown
  have hins : (Cond.instantiable cls 6).before args s' = true := h _ (by simp [own13])
  obtain ⟨vm₁, cX, kX, hfX, hkX, -, -, X₁, st1⟩ := Y.newCold hexec (own := own) (C := cls) (index := ik) (n := 6) hown' hk' hins hini'
    (g := F0 m pc ls rest) rfl (by rw [hb]; exact d0) (Nat.le_refl _) (Nat.le_refl _)
  generalize hT1 : (T.setVm vm₁).pushCell { cls := cX, slots := kX.instanceTypes.map defaultValue, vm := .none } = T1 at X₁ st1
  have hcat : (Value.ref T.heap.size).category = 1 := rfl
  have hcellA : T1.heap[T.heap.size]? = some (freshCell cX kX) := by rw [← hT1]; exact State.heap_pushCell_size _ _
  have d3' : decode c.code (pc + 3) = .ok (.dup, 1) := by rw [hb]; exact d3
  have d4' : decode c.code (pc + 4) = .ok (.ldc is, 2) := by rw [hb]; exact d4
  have hstr' : vk_R own is text sa s' := vk_R.warm hW0 hstr
  obtain ⟨V, ce, L, Z, hL, hlt, hcl9, hvm9, st⟩ := tx_ctorMade13 X₁ hexec htr (own := own) (cls := cls) (Y0 := Y0) (r0 := r0) (ic := ic) hown' hcls hnames h (fun x hx => nomatch hx) hfX hkX hcellA (by rw [hhp]; exact Nat.le_refl _) (msg := .ref sa) rfl
    (g := { method := m, pc := pc + 6, locals := ls, stack := .ref sa :: .ref T.heap.size :: .ref T.heap.size :: rest, locked := none }) rfl hsize (rest := rest) rfl
    (by rw [hb]; exact d6) hRframes (by simp only [List.map_cons, List.sum_cons, hcat]; omega)
  have Z0 := Stand.forget (locs := []) Z (fun y hy => by rw [hL y hy, hhp]; exact Nat.le_refl _)
  obtain ⟨f1, f2⟩ := vx_frame Z0.same
  rw [hhp] at f1 f2
  have hcl8 : s.vm.findClass cls = some ce.cls := by
    rw [hcl9]
    rw [hvm] at hfX
    exact hfX
  have hh : (V.setCell T.heap.size ce).heap[T.heap.size]? = some ce := heapAt_setCell_self (s := V) ce hlt
  subst hA'
  have X5 := tx_back9 X Y Z0
  have X6 : Stand p l e R s m args below meth c (V.setCell T.heap.size ce) locs (cells + 1) (slots + 6) := { X5 with same := X5.same.mono (by omega) (by omega) }
  have hsz9 : (V.setCell T.heap.size ce).heap.size = T.heap.size + 1 := by
    have g1 : (V.setCell T.heap.size ce).heap.size ≤ T.heap.size + (0 + 1) := Z0.same.2.2.1
    have g2 : T.heap.size < (V.setCell T.heap.size ce).heap.size := (Array.getElem?_eq_some_iff.mp hh).1
    omega
  obtain ⟨t, a1, b1⟩ := kk (V.setCell T.heap.size ce).heap hsz9 (fun q hq => f2 q hq (fun z hz => nomatch hz)) ⟨ce, hh, hvm9, hcl8⟩ _ rfl X6
  refine ⟨t, st1 _ ?_, b1⟩
  show Steps p.tables e below (T1.setTop { method := m, pc := pc + 3, locals := ls, stack := .ref T.heap.size :: rest, locked := none }) _
  jvm_step X₁.here [X₁.here.top, hexec, d3', Value.category]
  exact X₁.ldcString hexec (own := own) (text := text) (index := is) (a := sa) hown' hstr'.1 hstr'.2
    (g := { method := m, pc := pc + 4, locals := ls, stack := .ref T.heap.size :: .ref T.heap.size :: rest, locked := none }) rfl d4' _ (st _ a1)
theorem tx_make13W {cc : ByteArray} {pc : Nat} (hexec : p.tables.exec = Jvm.exec) (hb : c.code = cc) (hl : l.stackTraces = false) {own cls text : String} {Y0 : String} {r0 : List String} {ik is ic sa : Nat} {A : Nat → Prop}
    (hown : s.vm.findClass own = some m.cls) (hcls : Bundle.fit cls = true) (hnames : ∀ n ∈ Y0 :: r0, Bundle.fit n = true)
    (hk : (Cond.classLink own ik cls).before args s = true) (hini : (Cond.initialized cls).before args s = true) (hstr : vk_R own is text sa s) (hat : ∀ w ∈ at13 own ic cls Y0 r0, w.before args s = true)
    (hgood : ∀ w ∈ Cond.classLink own ik cls :: Cond.initialized cls :: at13 own ic cls Y0 r0, vx_ot w = true)
    (hU : vx_Zq Bundle.tN "UNASSIGNED_STACK" Bundle.steD A s s.heap) (hN : vx_Zq Bundle.tN "SUPPRESSED_SENTINEL" Bundle.listD A s s.heap) (hS : va_S A s.heap H locs) (hsize : ls.size = c.maxLocals)
    (d0 : decode cc pc = .ok (.new ik, 3)) (d3 : decode cc (pc + 3) = .ok (.dup, 1)) (d4 : decode cc (pc + 4) = .ok (.ldc_w is, 3)) (d6 : decode cc (pc + 7) = .ok (.invokespecial ic, 3))
    (hRframes : (Y0 :: r0).length + 3 < R.frames) (hRlocals : (rest.map fun v => v.category).sum + (13 * ((Y0 :: r0).length + 1) + 43) ≤ R.locals) (hRcells : cells + 1 ≤ R.cells) (hRslots : slots + 6 ≤ R.slots)
    (kk : ∀ H1 : Heap, H1.size = H.size + 1 → (∀ q : Nat, q < H.size → H1[q]? = H[q]?) → (∃ ce : Cell, H1[H.size]? = some ce ∧ ce.vm = .none ∧ s.vm.findClass cls = some ce.cls) → W p l e R s m args below meth c H1 locs (cells + 1) (slots + 6) Q (F0 m (pc + 10) ls (.ref H.size :: rest))) :
    W p l e R s m args below meth c H locs cells slots Q (F0 m pc ls rest) := by
  intro T hT X
  subst hT
  have htr : e.platform.stackTraces = false := (show e.platform.stackTraces = l.stackTraces by rw [X.admits.platform]).trans hl
  have Y := vx_rebase X (R' := { frames := R.frames, locals := R.locals, cells := 1, slots := 6 }) (Nat.le_refl _) (Nat.le_refl _) hRcells hRslots
  obtain ⟨s', hA'⟩ : ∃ z, z = (T.setVm s.vm).setFrames (.invoking m args :: below) := ⟨_, rfl⟩
  rw [← hA'] at Y
  have hvm : s'.vm = s.vm := by rw [hA']; rfl
  have hhp : s'.heap = T.heap := by rw [hA']; rfl
  have hW0 : s.WarmedH s'.vm := by rw [hvm]; exact State.WarmedH.refl s
  have hat' : ∀ w ∈ at13 own ic cls Y0 r0, w.before args s' = true := fun w hw => vx_ot_at hW0 hvm.symm (hgood w (List.mem_cons_of_mem _ (List.mem_cons_of_mem _ hw))) (hat w hw)
  have hk' : (Cond.classLink own ik cls).before args s' = true := vx_ot_at hW0 hvm.symm (hgood _ List.mem_cons_self) hk
  have hini' : (Cond.initialized cls).before args s' = true := vx_ot_at hW0 hvm.symm (hgood _ (List.mem_cons_of_mem _ List.mem_cons_self)) hini
  have hU' : vx_Zq Bundle.tN "UNASSIGNED_STACK" Bundle.steD A s' s'.heap := by rw [hhp]; exact vx_Zq.moved hW0.alike (hU.kept hS.2.1)
  have hN' : vx_Zq Bundle.tN "SUPPRESSED_SENTINEL" Bundle.listD A s' s'.heap := by rw [hhp]; exact vx_Zq.moved hW0.alike (hN.kept hS.2.1)
  have h : ∀ w ∈ own13 own ic cls Y0 r0, w.before args s' = true := vx_own hat' (vx_isRefq hU'.1) (vx_isRefq hN'.1) hU'.2.word hN'.2.word
  have hown' : s'.vm.findClass own = some m.cls := by rw [hvm]; exact hown
  have hins : (Cond.instantiable cls 6).before args s' = true := h _ (by simp [own13])
  obtain ⟨vm₁, cX, kX, hfX, hkX, -, -, X₁, st1⟩ := Y.newCold hexec (own := own) (C := cls) (index := ik) (n := 6) hown' hk' hins hini'
    (g := F0 m pc ls rest) rfl (by rw [hb]; exact d0) (Nat.le_refl _) (Nat.le_refl _)
  generalize hT1 : (T.setVm vm₁).pushCell { cls := cX, slots := kX.instanceTypes.map defaultValue, vm := .none } = T1 at X₁ st1
  have hcat : (Value.ref T.heap.size).category = 1 := rfl
  have hcellA : T1.heap[T.heap.size]? = some (freshCell cX kX) := by rw [← hT1]; exact State.heap_pushCell_size _ _
  have d3' : decode c.code (pc + 3) = .ok (.dup, 1) := by rw [hb]; exact d3
  have d4' : decode c.code (pc + 4) = .ok (.ldc_w is, 3) := by rw [hb]; exact d4
  have hstr' : vk_R own is text sa s' := vk_R.warm hW0 hstr
  obtain ⟨V, ce, L, Z, hL, hlt, hcl9, hvm9, st⟩ := tx_ctorMade13 X₁ hexec htr (own := own) (cls := cls) (Y0 := Y0) (r0 := r0) (ic := ic) hown' hcls hnames h (fun x hx => nomatch hx) hfX hkX hcellA (by rw [hhp]; exact Nat.le_refl _) (msg := .ref sa) rfl
    (g := { method := m, pc := pc + 7, locals := ls, stack := .ref sa :: .ref T.heap.size :: .ref T.heap.size :: rest, locked := none }) rfl hsize (rest := rest) rfl
    (by rw [hb]; exact d6) hRframes (by simp only [List.map_cons, List.sum_cons, hcat]; omega)
  have Z0 := Stand.forget (locs := []) Z (fun y hy => by rw [hL y hy, hhp]; exact Nat.le_refl _)
  obtain ⟨f1, f2⟩ := vx_frame Z0.same
  rw [hhp] at f1 f2
  have hcl8 : s.vm.findClass cls = some ce.cls := by
    rw [hcl9]
    rw [hvm] at hfX
    exact hfX
  have hh : (V.setCell T.heap.size ce).heap[T.heap.size]? = some ce := heapAt_setCell_self (s := V) ce hlt
  subst hA'
  have X5 := tx_back9 X Y Z0
  have X6 : Stand p l e R s m args below meth c (V.setCell T.heap.size ce) locs (cells + 1) (slots + 6) := { X5 with same := X5.same.mono (by omega) (by omega) }
  have hsz9 : (V.setCell T.heap.size ce).heap.size = T.heap.size + 1 := by
    have g1 : (V.setCell T.heap.size ce).heap.size ≤ T.heap.size + (0 + 1) := Z0.same.2.2.1
    have g2 : T.heap.size < (V.setCell T.heap.size ce).heap.size := (Array.getElem?_eq_some_iff.mp hh).1
    omega
  obtain ⟨t, a1, b1⟩ := kk (V.setCell T.heap.size ce).heap hsz9 (fun q hq => f2 q hq (fun z hz => nomatch hz)) ⟨ce, hh, hvm9, hcl8⟩ _ rfl X6
  refine ⟨t, st1 _ ?_, b1⟩
  show Steps p.tables e below (T1.setTop { method := m, pc := pc + 3, locals := ls, stack := .ref T.heap.size :: rest, locked := none }) _
  jvm_step X₁.here [X₁.here.top, hexec, d3', Value.category]
  exact X₁.ldcStringW hexec (own := own) (text := text) (index := is) (a := sa) hown' hstr'.1 hstr'.2
    (g := { method := m, pc := pc + 4, locals := ls, stack := .ref T.heap.size :: .ref T.heap.size :: rest, locked := none }) rfl d4' _ (st _ a1)
theorem tx_athrow {cc : ByteArray} {pc : Nat} (hexec : p.tables.exec = Jvm.exec) (hb : c.code = cc) {q : Addr} (hdg : decode cc pc = .ok (.athrow, 1)) (k : vx_W p l e R s m args below meth c H locs cells slots Q (F0 m pc ls rest) q) : W p l e R s m args below meth c H locs cells slots Q (F0 m pc ls (.ref q :: rest)) := by
  intro T hT X
  obtain ⟨t, st, hq⟩ := k T hT X
  refine ⟨t, ?_, hq⟩
  have hdg' : decode c.code pc = .ok (.athrow, 1) := by rw [hb]; exact hdg
  jvm_step X.here [X.here.top, hexec, hdg', athrow.wp_sem]
  exact st
end Make13
def isCD : Cond → Bool
  | .castable _ _ => true | .declares _ => true | _ => false
theorem mvW {w : Gw} (hw : Wok w) {s : State} (hW : w.1.WarmedH s.vm) {t : Cond} (ht : t ∈ lw_tbl) (hg : (goodWord t || isCD t) = true) (args : Array Value) : t.before args s = true := by
  have h0 := hw.2.2.2.2.1 t ht
  by_cases g : goodWord t = true
  · exact word_at hW (good_of_word g) h0
  · have g2 : isCD t = true := by simpa [g] using hg
    cases t <;> first | (cases g2; done) | exact va_Nw.use rfl (va_Nw.warmC hW (va_Nw.of rfl h0)) | exact va_Nw.use rfl (va_Nw.warmD hW (va_Nw.of rfl h0))
abbrev thN : List String := ["java/lang/RuntimeException", "java/lang/Exception"]
set_option maxRecDepth 100000 in
theorem thr_NSE : ∀ t ∈ at13 RX11 155 eNSE "java/lang/RuntimeException" ["java/lang/Exception"], t ∈ lw_tbl ∧ (goodWord t || isCD t) = true := by decide +kernel
set_option maxRecDepth 100000 in
theorem thr_IAE : ∀ t ∈ vx_atS RX11 79 eIAE thN, t ∈ lw_tbl ∧ (goodWord t || isCD t) = true := by decide +kernel
theorem thr_ot {t : Cond} (h : (goodWord t || isCD t) = true) : vx_ot t = true := by
  unfold vx_ot
  by_cases g : goodWord t = true
  · simp [g]
  · have g2 : isCD t = true := by simpa [g] using h
    cases t <;> first | (cases g2; done) | rfl
section Rules
variable {w : Gw} {md : Gd} {d pc : Nat} {ls : List (Option Gv)} {st : List Gv} {M : Gm} {o : Go} {M' : Gm}
theorem HR.pushE {H H1 : Heap} (hR : HR w M H) {s : State} (hK : va_K w.2.2.2.1 clW (tysW w) s) {cx : Nat} {E : String} (hcx : clW[cx]? = some (E, TXE, 0)) (h31 : cx < 31) {ce : Cell} (hz : H1.size = H.size + 1) (ho : ∀ q, q < H.size → H1[q]? = H[q]?) (h1 : H1[H.size]? = some ce) (h2 : ce.vm = .none) (h3 : s.vm.findClass E = some ce.cls) : HR w (nwM M (cx, 0)) H1 := by
  refine HR.push hR ?_ hz ho
  unfold ceW
  have he : el w (nwM M (cx, 0)) M.2.2.length = .inr (cx, fl w (nwM M (cx, 0)) M.2.2.length cx) := by
    unfold el; rw [kd_nw]; show (if cx < 32 then _ else _) = _; rw [if_pos (by omega)]
  rw [he]
  refine ⟨_, hcx, ?_⟩
  rw [HR.rho_len hR]
  exact ⟨ce, h1, Option.some.inj (h3.symm.trans (hK.1 cx _ hcx).2.1), h2, fun k hk => absurd hk (Nat.not_lt_zero k)⟩
theorem wp_throwS {cx ik is ic sid : Nat} {E tx : String} (hcx : cx = 14 ∧ E = eIAE ∧ ic = 79) (hcls : (mdY md).cls = RX11) (hH : mdH md = []) (d0 : decode (mdC md) pc = .ok (.new ik, 3)) (d3 : decode (mdC md) (pc + 3) = .ok (.dup, 1)) (d4 : decode (mdC md) (pc + 4) = .ok (.ldc is, 2)) (d6 : decode (mdC md) (pc + 6) = .ok (.invokespecial ic, 3)) (d9 : decode (mdC md) (pc + 9) = .ok (.athrow, 1))
    (hk : Cond.classLink RX11 ik E ∈ gtbl) (hini : Cond.initialized E ∈ gtbl) (hs : (RX11, is, tx, sid) ∈ strT) (hr : st.length ≤ 8) (hd5 : 6 ≤ d) : Wp w md d pc ls st M (.inr E) (nwM M (cx, 0)) :=
  ⟨⟨by rw [len_nw]; omega, by rw [slK_nw]; omega⟩, fun hw p e s m args below meth c k0 z0 H locs la C h1 h2 hR hS hl hv => by
    have hsl : slE (cx, 0) = 6 := by obtain ⟨rfl, -, -⟩ := hcx; rfl
    have hcl : clW[cx]? = some (E, TXE, 0) := by obtain ⟨rfl, rfl, -⟩ := hcx; rfl
    have hat : ∀ t ∈ vx_atS RX11 ic E thN, t ∈ lw_tbl ∧ (goodWord t || isCD t) = true := by obtain ⟨-, rfl, rfl⟩ := hcx; exact thr_IAE
    have hown : s.vm.findClass RX11 = some m.cls := by rw [← hcls]; exact C.2.1
    have hz : vk_R RX11 is tx (rho w sid) s := vk_R.warm C.2.2.2.1 (hw.2.2.2.2.2.1 _ hs)
    have hold : ∀ a : Nat, a < w.1.heap.size → ¬ Fr w a → s.heap[a]? = w.1.heap[a]? := fun a h _ => C.2.2.2.2.2.1.2 a h
    refine tx_throwS (own := RX11) (cls := E) (text := tx) (names := thN) (A := Fr w) C.1.1 C.1.2.1 hw.2.1 hown (by obtain ⟨-, rfl, -⟩ := hcx; decide +kernel) (by decide +kernel) (C.2.2.1 _ hk) (C.2.2.1 _ hini) hz (fun t ht => mvW hw C.2.2.2.1 (hat t ht).1 (hat t ht).2 args)
      (fun t ht => by
        rcases List.mem_cons.mp ht with rfl | ht
        · rfl
        · rcases List.mem_cons.mp ht with rfl | ht
          · rfl
          · exact thr_ot (hat t ht).2)
      (vx_Zq.moved C.2.2.2.1.alike (hw.2.2.1.kept hold)) (vx_Zq.moved C.2.2.2.1.alike (hw.2.2.2.1.kept hold)) hS (hv.1.trans C.1.2.2.1.symm) d0 d3 d4 d6 d9
      (by rw [C.2.2.2.2.2.2, hH]; exact fun x hx => nomatch hx) (by show 2 + 3 < d; omega) (by rw [cat8]; show _ + (13 * (2 + 1) + 43) ≤ 32 * d; omega) (by show _ ≤ (nwM M (cx, 0)).2.2.length - k0; rw [len_nw]; omega) (by show _ ≤ slK (nwM M (cx, 0)).2.2 - z0; rw [slK_nw, hsl]; omega) C.1.2.2.2.2.1
      (fun t _ g1 g2 g3 => by
        obtain ⟨ce, q1, q2, q3⟩ := g3
        exact ⟨rfl, HR.pushE hR C.2.2.2.2.1 hcl (by obtain ⟨rfl, -, -⟩ := hcx; omega) g1 g2 q1 q2 q3⟩) hS.2.2 (by rw [len_nw]; omega) (by rw [slK_nw, hsl]; omega)⟩
theorem wp_throwSW {cx ik is ic sid : Nat} {E tx : String} (hcx : cx = 14 ∧ E = eIAE ∧ ic = 79) (hcls : (mdY md).cls = RX11) (hH : mdH md = []) (d0 : decode (mdC md) pc = .ok (.new ik, 3)) (d3 : decode (mdC md) (pc + 3) = .ok (.dup, 1)) (d4 : decode (mdC md) (pc + 4) = .ok (.ldc_w is, 3)) (d6 : decode (mdC md) (pc + 7) = .ok (.invokespecial ic, 3)) (d9 : decode (mdC md) (pc + 10) = .ok (.athrow, 1))
    (hk : Cond.classLink RX11 ik E ∈ gtbl) (hini : Cond.initialized E ∈ gtbl) (hs : (RX11, is, tx, sid) ∈ strT) (hr : st.length ≤ 8) (hd5 : 6 ≤ d) : Wp w md d pc ls st M (.inr E) (nwM M (cx, 0)) :=
  ⟨⟨by rw [len_nw]; omega, by rw [slK_nw]; omega⟩, fun hw p e s m args below meth c k0 z0 H locs la C h1 h2 hR hS hl hv => by
    have hsl : slE (cx, 0) = 6 := by obtain ⟨rfl, -, -⟩ := hcx; rfl
    have hcl : clW[cx]? = some (E, TXE, 0) := by obtain ⟨rfl, rfl, -⟩ := hcx; rfl
    have hat : ∀ t ∈ vx_atS RX11 ic E thN, t ∈ lw_tbl ∧ (goodWord t || isCD t) = true := by obtain ⟨-, rfl, rfl⟩ := hcx; exact thr_IAE
    have hown : s.vm.findClass RX11 = some m.cls := by rw [← hcls]; exact C.2.1
    have hz : vk_R RX11 is tx (rho w sid) s := vk_R.warm C.2.2.2.1 (hw.2.2.2.2.2.1 _ hs)
    have hold : ∀ a : Nat, a < w.1.heap.size → ¬ Fr w a → s.heap[a]? = w.1.heap[a]? := fun a h _ => C.2.2.2.2.2.1.2 a h
    refine tx_throwSW (own := RX11) (cls := E) (text := tx) (names := thN) (A := Fr w) C.1.1 C.1.2.1 hw.2.1 hown (by obtain ⟨-, rfl, -⟩ := hcx; decide +kernel) (by decide +kernel) (C.2.2.1 _ hk) (C.2.2.1 _ hini) hz (fun t ht => mvW hw C.2.2.2.1 (hat t ht).1 (hat t ht).2 args)
      (fun t ht => by
        rcases List.mem_cons.mp ht with rfl | ht
        · rfl
        · rcases List.mem_cons.mp ht with rfl | ht
          · rfl
          · exact thr_ot (hat t ht).2)
      (vx_Zq.moved C.2.2.2.1.alike (hw.2.2.1.kept hold)) (vx_Zq.moved C.2.2.2.1.alike (hw.2.2.2.1.kept hold)) hS (hv.1.trans C.1.2.2.1.symm) d0 d3 d4 d6 d9
      (by rw [C.2.2.2.2.2.2, hH]; exact fun x hx => nomatch hx) (by show 2 + 3 < d; omega) (by rw [cat8]; show _ + (13 * (2 + 1) + 43) ≤ 32 * d; omega) (by show _ ≤ (nwM M (cx, 0)).2.2.length - k0; rw [len_nw]; omega) (by show _ ≤ slK (nwM M (cx, 0)).2.2 - z0; rw [slK_nw, hsl]; omega) C.1.2.2.2.2.1
      (fun t _ g1 g2 g3 => by
        obtain ⟨ce, q1, q2, q3⟩ := g3
        exact ⟨rfl, HR.pushE hR C.2.2.2.2.1 hcl (by obtain ⟨rfl, -, -⟩ := hcx; omega) g1 g2 q1 q2 q3⟩) hS.2.2 (by rw [len_nw]; omega) (by rw [slK_nw, hsl]; omega)⟩
/-- behind a call that threw: the thrown object goes on to the caller -/
theorem thrown_on {p : Program} {e : Env} {s : State} {m : MethodId} {args : Array Value} {below : List Frame} {meth : Method} {c : Code} {k0 z0 : Nat} {H : Heap} {locs : List Loc} {la : Array Slot} {M1 : Gm} {E : String} {rest st0 : List Value}
    (C : CxOk w md p s m args meth c k0) (h1 : k0 ≤ M.2.2.length) (h2 : z0 ≤ slK M.2.2) (hS : va_S (Fr w) s.heap H locs) (hm : mono M M1) {Q : State → Prop} {R : Room}
    (hr : vx_Run p w.2.1 e R s m args below meth c H locs (M.2.2.length - k0) (slK M.2.2 - z0) (M1.2.2.length - M.2.2.length) (slK M1.2.2 - slK M.2.2) (F0 m pc la st0) rest (QcN #[]) (XcW w E M1) (Fr w))
    (kk : ∀ (H1 : Heap) (locs1 : List Loc) (ce : Cell) (q : Addr), HR w M1 H1 → va_S (Fr w) s.heap H1 locs1 → H1[q]? = some ce → ce.vm = .none → s.vm.findClass E = some ce.cls → vx_W p w.2.1 e R s m args below meth c H1 locs1 (M1.2.2.length - k0) (slK M1.2.2 - z0) Q (F0 m pc la rest) q) :
    W p w.2.1 e R s m args below meth c H locs (M.2.2.length - k0) (slK M.2.2 - z0) Q (F0 m pc la st0) := by
  intro T hT X
  rcases hr T hT X with ⟨v', st₀, t, T', L, e0, X', hL, e1, e2, hf, goes⟩ | ⟨q, st₀, t, T', L, E', ce, e0, X', hL, e1, e2, ⟨rfl, hR1⟩, hce, hcv, hcl, st9⟩
  · cases hf
  · obtain ⟨n1, n2⟩ := hm
    rw [show M.2.2.length - k0 + (M1.2.2.length - M.2.2.length) = M1.2.2.length - k0 by omega, show slK M.2.2 - z0 + (slK M1.2.2 - slK M.2.2) = slK M1.2.2 - z0 by omega] at X'
    have hR1' : HR w M1 T'.heap := by rw [e1]; exact hR1
    have hS1 : va_S (Fr w) s.heap T'.heap (locs ++ L) := by
      refine ⟨?_, fun q g1 g2 => ?_, fun q hq => ?_⟩
      · rw [C.2.2.2.2.2.1.1, hR1'.2.1]; omega
      · have : q < w.1.heap.size := Nat.lt_of_not_le g2
        rw [hR1'.2.2.1 q this, C.2.2.2.2.2.1.2 q this]
      · rcases List.mem_append.mp hq with g | g
        · exact hS.2.2 q g
        · exact hL q g
    obtain ⟨t2, a1, b1⟩ := kk T'.heap (locs ++ L) ce q hR1' hS1 (by rw [e1]; exact hce) hcv hcl T' rfl X'
    exact ⟨t2, st9.trans a1, b1⟩
theorem out_of {p : Program} {e : Env} {s : State} {m : MethodId} {args : Array Value} {below : List Frame} {meth : Method} {c : Code} {k0 z0 : Nat} {H : Heap} {locs : List Loc} {la : Array Slot} {E : String} {rest : List Value} {R : Room}
    (C : CxOk w md p s m args meth c k0) (hH : mdH md = []) (hS : va_S (Fr w) s.heap H locs) (hR : HR w M H) {ce : Cell} {q : Addr} (q1 : H[q]? = some ce) (q2 : ce.vm = .none) (q3 : s.vm.findClass E = some ce.cls) :
    vx_W p w.2.1 e R s m args below meth c H locs (M.2.2.length - k0) (slK M.2.2 - z0) (TgW w (.inr E) M below args s (M.2.2.length - k0) (slK M.2.2 - z0)) (F0 m pc la rest) q :=
  vx_out (by rw [C.2.2.2.2.2.2, hH]; exact fun x hx => nomatch hx) C.1.2.2.2.2.1 q1 q2 q3 (fun t ht _ => ⟨rfl, by rw [ht]; exact hR⟩) hS.2.2 (Nat.le_refl _) (Nat.le_refl _)
theorem wp_throwN {ik is sid : Nat} {tx : String} (hcls : (mdY md).cls = RX11) (hH : mdH md = []) (d0 : decode (mdC md) pc = .ok (.new ik, 3)) (d3 : decode (mdC md) (pc + 3) = .ok (.dup, 1)) (d4 : decode (mdC md) (pc + 4) = .ok (.ldc is, 2)) (d6 : decode (mdC md) (pc + 6) = .ok (.invokespecial 155, 3)) (d9 : decode (mdC md) (pc + 9) = .ok (.athrow, 1))
    (hk : Cond.classLink RX11 ik eNSE ∈ gtbl) (hini : Cond.initialized eNSE ∈ gtbl) (hs : (RX11, is, tx, sid) ∈ strT) (hr : st.length ≤ 8) (hd5 : 6 ≤ d) : Wp w md d pc ls st M (.inr eNSE) (nwM M (13, 0)) :=
  ⟨⟨by rw [len_nw]; omega, by rw [slK_nw]; omega⟩, fun hw p e s m args below meth c k0 z0 H locs la C h1 h2 hR hS hl hv => by
    have hown : s.vm.findClass RX11 = some m.cls := by rw [← hcls]; exact C.2.1
    have hz : vk_R RX11 is tx (rho w sid) s := vk_R.warm C.2.2.2.1 (hw.2.2.2.2.2.1 _ hs)
    have hold : ∀ a : Nat, a < w.1.heap.size → ¬ Fr w a → s.heap[a]? = w.1.heap[a]? := fun a h _ => C.2.2.2.2.2.1.2 a h
    have hsl : slE (13, 0) = 6 := rfl
    refine tx_make13 (own := RX11) (cls := eNSE) (text := tx) (Y0 := "java/lang/RuntimeException") (r0 := ["java/lang/Exception"]) (A := Fr w) C.1.1 C.1.2.1 hw.2.1 hown (by decide +kernel) (by decide +kernel) (C.2.2.1 _ hk) (C.2.2.1 _ hini) hz (fun t ht => mvW hw C.2.2.2.1 (thr_NSE t ht).1 (thr_NSE t ht).2 args)
      (fun t ht => by
        rcases List.mem_cons.mp ht with rfl | ht
        · rfl
        · rcases List.mem_cons.mp ht with rfl | ht
          · rfl
          · exact thr_ot (thr_NSE t ht).2)
      (vx_Zq.moved C.2.2.2.1.alike (hw.2.2.1.kept hold)) (vx_Zq.moved C.2.2.2.1.alike (hw.2.2.2.1.kept hold)) hS (hv.1.trans C.1.2.2.1.symm) d0 d3 d4 d6
      (by show 2 + 3 < d; omega) (by rw [cat8]; show _ + (13 * (2 + 1) + 43) ≤ 32 * d; omega) (by show _ ≤ (nwM M (13, 0)).2.2.length - k0; rw [len_nw]; omega) (by show _ ≤ slK (nwM M (13, 0)).2.2 - z0; rw [slK_nw, hsl]; omega)
      (fun H1 g1 g2 g3 => ?_)
    obtain ⟨ce, q1, q2, q3⟩ := g3
    have hR1 : HR w (nwM M (13, 0)) H1 := HR.pushE hR C.2.2.2.2.1 (cx := 13) (E := eNSE) rfl (by omega) g1 g2 q1 q2 q3
    have e1 : M.2.2.length - k0 + 1 = (nwM M (13, 0)).2.2.length - k0 := by rw [len_nw]; omega
    have e2 : slK M.2.2 - z0 + 6 = slK (nwM M (13, 0)).2.2 - z0 := by rw [slK_nw, hsl]; omega
    rw [e1, e2]
    exact tx_athrow C.1.1 C.1.2.1 d9 (out_of C hH (va_S_push hS g1 g2) hR1 q1 q2 q3)⟩
theorem wp_throwNW {ik is sid : Nat} {tx : String} (hcls : (mdY md).cls = RX11) (hH : mdH md = []) (d0 : decode (mdC md) pc = .ok (.new ik, 3)) (d3 : decode (mdC md) (pc + 3) = .ok (.dup, 1)) (d4 : decode (mdC md) (pc + 4) = .ok (.ldc_w is, 3)) (d6 : decode (mdC md) (pc + 7) = .ok (.invokespecial 155, 3)) (d9 : decode (mdC md) (pc + 10) = .ok (.athrow, 1))
    (hk : Cond.classLink RX11 ik eNSE ∈ gtbl) (hini : Cond.initialized eNSE ∈ gtbl) (hs : (RX11, is, tx, sid) ∈ strT) (hr : st.length ≤ 8) (hd5 : 6 ≤ d) : Wp w md d pc ls st M (.inr eNSE) (nwM M (13, 0)) :=
  ⟨⟨by rw [len_nw]; omega, by rw [slK_nw]; omega⟩, fun hw p e s m args below meth c k0 z0 H locs la C h1 h2 hR hS hl hv => by
    have hown : s.vm.findClass RX11 = some m.cls := by rw [← hcls]; exact C.2.1
    have hz : vk_R RX11 is tx (rho w sid) s := vk_R.warm C.2.2.2.1 (hw.2.2.2.2.2.1 _ hs)
    have hold : ∀ a : Nat, a < w.1.heap.size → ¬ Fr w a → s.heap[a]? = w.1.heap[a]? := fun a h _ => C.2.2.2.2.2.1.2 a h
    have hsl : slE (13, 0) = 6 := rfl
    refine tx_make13W (own := RX11) (cls := eNSE) (text := tx) (Y0 := "java/lang/RuntimeException") (r0 := ["java/lang/Exception"]) (A := Fr w) C.1.1 C.1.2.1 hw.2.1 hown (by decide +kernel) (by decide +kernel) (C.2.2.1 _ hk) (C.2.2.1 _ hini) hz (fun t ht => mvW hw C.2.2.2.1 (thr_NSE t ht).1 (thr_NSE t ht).2 args)
      (fun t ht => by
        rcases List.mem_cons.mp ht with rfl | ht
        · rfl
        · rcases List.mem_cons.mp ht with rfl | ht
          · rfl
          · exact thr_ot (thr_NSE t ht).2)
      (vx_Zq.moved C.2.2.2.1.alike (hw.2.2.1.kept hold)) (vx_Zq.moved C.2.2.2.1.alike (hw.2.2.2.1.kept hold)) hS (hv.1.trans C.1.2.2.1.symm) d0 d3 d4 d6
      (by show 2 + 3 < d; omega) (by rw [cat8]; show _ + (13 * (2 + 1) + 43) ≤ 32 * d; omega) (by show _ ≤ (nwM M (13, 0)).2.2.length - k0; rw [len_nw]; omega) (by show _ ≤ slK (nwM M (13, 0)).2.2 - z0; rw [slK_nw, hsl]; omega)
      (fun H1 g1 g2 g3 => ?_)
    obtain ⟨ce, q1, q2, q3⟩ := g3
    have hR1 : HR w (nwM M (13, 0)) H1 := HR.pushE hR C.2.2.2.2.1 (cx := 13) (E := eNSE) rfl (by omega) g1 g2 q1 q2 q3
    have e1 : M.2.2.length - k0 + 1 = (nwM M (13, 0)).2.2.length - k0 := by rw [len_nw]; omega
    have e2 : slK M.2.2 - z0 + 6 = slK (nwM M (13, 0)).2.2 - z0 := by rw [slK_nw, hsl]; omega
    rw [e1, e2]
    exact tx_athrow C.1.1 C.1.2.1 d9 (out_of C hH (va_S_push hS g1 g2) hR1 q1 q2 q3)⟩
theorem wp_callVx {md' : Gd} {i a : Nat} {As rest : List Gv} {M1 : Gm} {E : String} (hd : decode (mdC md) pc = .ok (.invokevirtual i, 3)) (hE : Ev w md' d (.inr a :: As) M (.inr E) M1) (hmd : MdOk md') (hn : MdN md' As.length) (hV : MdV md') (hlink : Cond.methodLink (mdY md).cls i (mdY md') ∈ gtbl) (hst : st = As.reverse ++ .inr a :: rest) (hr : rest.length ≤ 8) (hH : mdH md = []) : Wp w md (d + 1) pc ls st M (.inr E) M1 :=
  ⟨hE.1, fun hw p e s m args below meth c k0 z0 H locs la C h1 h2 hR hS hl hv => by
    subst hst
    obtain ⟨n1, n2⟩ := hE.1
    obtain ⟨c1, r1, hO, hr1, hrc⟩ := hV.2.2
    have hrcv := hE.2.1
    unfold rcvW at hrcv
    rw [hO] at hrcv
    obtain ⟨a2, r2, ha2, hka, hc13⟩ := hrcv
    cases ha2
    have hkd : kd M a = (c1, 0) := by unfold kd; rw [List.getD_eq_getElem?_getD, hka]; rfl
    obtain ⟨g3, -, g4⟩ := ce_obj hR hkd (by omega)
    have e9 : (As.reverse ++ Sum.inr a :: rest).map (rv w) = (As.map (rv w)).reverse ++ .ref (rho w a) :: rest.map (rv w) := by
      rw [List.map_append, List.map_cons, List.map_reverse, rv_pos w g3]
    have eA : ((.inr a :: As : List Gv).map (rv w)) = .ref (rho w a) :: As.map (rv w) := by rw [List.map_cons, rv_pos w g3]
    exact thrown_on C h1 h2 hS hE.1 (vx_runV (As := As.map (rv w)) (rest := rest.map (rv w)) (b := rho w a) (C := (mdY md').cls) (n := As.length) ⟨C.1.1, C.1.2.1, C.1.2.2.1, C.2.1, C.2.2.1⟩ (hE.2.2 hw) ⟨cB C hmd hn hlink, C.2.2.1 _ hV.1, C.2.2.1 _ hV.2.1⟩
      ⟨blindP, by rw [← hrc]; exact va_recv (q0 := 0) C.2.2.2.2.1 (va_P1 g4) hr1 rfl, fun U hU hW => ⟨by rw [eA], State.WarmedH.trans C.2.2.2.1 hW, by rw [hU]; exact hR⟩⟩ rfl (by simp) hv.1 e9 (by rw [show (F0 m pc la ((As.reverse ++ Sum.inr a :: rest).map (rv w))).monitorRoom = 0 from rfl, Nat.mul_zero, Nat.zero_add]; exact len8 hr) hd ⟨by show _ ≤ M1.2.2.length - k0; omega, by show _ ≤ slK M1.2.2 - z0; omega⟩) (fun H1 locs1 ce q hR1 hS1 q1 q2 q3 => out_of C hH hS1 hR1 q1 q2 q3)⟩
theorem wp_callSx {md' : Gd} {i : Nat} {As rest : List Gv} {M1 : Gm} {E : String} (hd : decode (mdC md) pc = .ok (.invokestatic i, 3)) (hE : Ev w md' d As M (.inr E) M1) (hmd : MdOk md') (hn : MdN md' As.length) (hsta : Cond.static (mdY md') ∈ gtbl) (hlink : Cond.methodLink (mdY md).cls i (mdY md') ∈ gtbl) (hst : st = As.reverse ++ rest) (hr : rest.length ≤ 8) (hH : mdH md = []) : Wp w md (d + 1) pc ls st M (.inr E) M1 :=
  ⟨hE.1, fun hw p e s m args below meth c k0 z0 H locs la C h1 h2 hR hS hl hv => by
    subst hst
    obtain ⟨n1, n2⟩ := hE.1
    have e9 : (As.reverse ++ rest).map (rv w) = (As.map (rv w)).reverse ++ rest.map (rv w) := by rw [List.map_append, List.map_reverse]
    exact thrown_on C h1 h2 hS hE.1 (vx_runS (As := As.map (rv w)) (rest := rest.map (rv w)) (n := As.length) ⟨C.1.1, C.1.2.1, C.1.2.2.1, C.2.1, C.2.2.1⟩ (hE.2.2 hw) ⟨cB C hmd hn hlink, C.2.2.1 _ hsta⟩
      ⟨blindP, fun U hU hW => ⟨rfl, State.WarmedH.trans C.2.2.2.1 hW, by rw [hU]; exact hR⟩⟩ rfl (by simp) hv.1 e9 (by rw [show (F0 m pc la ((As.reverse ++ rest).map (rv w))).monitorRoom = 0 from rfl, Nat.mul_zero, Nat.zero_add]; exact len8 hr) hd ⟨by show _ ≤ M1.2.2.length - k0; omega, by show _ ≤ slK M1.2.2 - z0; omega⟩) (fun H1 locs1 ce q hR1 hS1 q1 q2 q3 => out_of C hH hS1 hR1 q1 q2 q3)⟩
/-- caught here, and put into a local that nobody reads; 'pre' are the rows of the table ahead, which take another class -/
theorem wp_callVc {md' : Gd} {i a : Nat} {As rest : List Gv} {M1 : Gm} {E : String} (hd : decode (mdC md) pc = .ok (.invokevirtual i, 3)) (hE : Ev w md' d (.inr a :: As) M (.inr E) M1) (hmd : MdOk md') (hn : MdN md' As.length) (hV : MdV md') (hlink : Cond.methodLink (mdY md).cls i (mdY md') ∈ gtbl) (hst : st = As.reverse ++ .inr a :: rest) (hr : rest.length ≤ 8) (pre : List (Nat × Nat × Nat × Nat)) (x : Nat × Nat × Nat × Nat) (suf : List (Nat × Nat × Nat × Nat)) (hH : mdH md = pre ++ x :: suf) (hcov : x.1 ≤ pc ∧ pc < x.2.1) (h0 : x.2.2.2 ≠ 0) (hcl : Cond.classLink (mdY md).cls x.2.2.2 E ∈ gtbl) (hca : Cond.castable E E ∈ lw_tbl)
    (hpre : Wok w → ∀ z ∈ pre, z.2.2.2 ≠ 0 ∧ ∃ nm, Cond.classLink (mdY md).cls z.2.2.2 nm ∈ gtbl ∧ (Cond.not (.castable E nm)).before #[Value.ref (rho w 1)] w.1 = true) {j ln : Nat} (hst2 : (∃ (j4 : Fin 4), decode (mdC md) x.2.2.1 = .ok (.astore_n j4, ln) ∧ (j4 : Nat) = j ∧ ln = 1) ∨ (decode (mdC md) x.2.2.1 = .ok (.astore j, ln) ∧ ln = 2)) (hj : j < ls.length)
    (kk : Wp w md (d + 1) (x.2.2.1 + ln) (ls.set j none) [] M1 o M') : Wp w md (d + 1) pc ls st M o M' :=
  ⟨hE.1.tr kk.1, fun hw p e s m args below meth c k0 z0 H locs la C h1 h2 hR hS hl hv => by
    subst hst
    obtain ⟨n1, n2⟩ := hE.1
    obtain ⟨c1, r1, hO, hr1, hrc⟩ := hV.2.2
    have hrcv := hE.2.1
    unfold rcvW at hrcv
    rw [hO] at hrcv
    obtain ⟨a2, r2, ha2, hka, hc13⟩ := hrcv
    cases ha2
    have hkd : kd M a = (c1, 0) := by unfold kd; rw [List.getD_eq_getElem?_getD, hka]; rfl
    obtain ⟨g3, -, g4⟩ := ce_obj hR hkd (by omega)
    have e9 : (As.reverse ++ Sum.inr a :: rest).map (rv w) = (As.map (rv w)).reverse ++ .ref (rho w a) :: rest.map (rv w) := by
      rw [List.map_append, List.map_cons, List.map_reverse, rv_pos w g3]
    have eA : ((.inr a :: As : List Gv).map (rv w)) = .ref (rho w a) :: As.map (rv w) := by rw [List.map_cons, rv_pos w g3]
    obtain ⟨n3, n4⟩ := kk.1
    refine thrown_on C h1 h2 hS hE.1 (vx_runV (As := As.map (rv w)) (rest := rest.map (rv w)) (b := rho w a) (C := (mdY md').cls) (n := As.length) ⟨C.1.1, C.1.2.1, C.1.2.2.1, C.2.1, C.2.2.1⟩ (hE.2.2 hw) ⟨cB C hmd hn hlink, C.2.2.1 _ hV.1, C.2.2.1 _ hV.2.1⟩
      ⟨blindP, by rw [← hrc]; exact va_recv (q0 := 0) C.2.2.2.2.1 (va_P1 g4) hr1 rfl, fun U hU hW => ⟨by rw [eA], State.WarmedH.trans C.2.2.2.1 hW, by rw [hU]; exact hR⟩⟩ rfl (by simp) hv.1 e9 (by rw [show (F0 m pc la ((As.reverse ++ Sum.inr a :: rest).map (rv w))).monitorRoom = 0 from rfl, Nat.mul_zero, Nat.zero_add]; exact len8 hr) hd ⟨by show _ ≤ M'.2.2.length - k0; omega, by show _ ≤ slK M'.2.2 - z0; omega⟩) (fun H1 locs1 ce q hR1 hS1 q1 q2 q3 => ?_)
    have hcast := mvW hw C.2.2.2.1 hca (by simp [isCD]) args
    refine vx_catch (own := (mdY md).cls) (name := E) (E := E) C.2.1 (tableOf pre) ⟨x.1, x.2.1, x.2.2.1, x.2.2.2⟩ (tableOf suf) (by rw [C.2.2.2.2.2.2, hH]; simp [tableOf]) (fun z hz => ?_) (by simp [covers]; omega) h0 (C.2.2.1 _ hcl) hcast q1 q2 q3 ?_
    · obtain ⟨y, hy, rfl⟩ := List.mem_map.mp hz
      obtain ⟨z1, nm, z2, z3⟩ := hpre hw y hy
      exact Or.inr ⟨z1, nm, C.2.2.1 _ z2, va_Nc.moved C.2.2.2.1.alike (va_Nc.of z3)⟩
    · have fin : ∀ la' : Array Slot, lv_has la' (mdL md) (lvl w 0 (ls.set j none)) → W p w.2.1 e (rmW (d + 1) (M'.2.2.length - k0) (slK M'.2.2 - z0)) s m args below meth c H1 locs1 (M1.2.2.length - k0) (slK M1.2.2 - z0) (TgW w o M' below args s (M'.2.2.length - k0) (slK M'.2.2 - z0)) (F0 m (x.2.2.1 + ln) la' []) :=
        fun la' hv' => kk.2 hw p e s m args below meth c k0 z0 H1 locs1 la' C (by omega) (by omega) hR1 hS1 (by rw [List.length_set]; exact hl) hv'
      rcases hst2 with ⟨j4, hdd, hjj, rfl⟩ | ⟨hdd, rfl⟩
      · subst hjj
        exact lv_astore_n C.1.1 C.1.2.1 hdd rfl hv (hl ▸ hj) rfl (fun la' hv' => fin la' (lvl_unset hv'))
      · exact lv_astore C.1.1 C.1.2.1 hdd hv (hl ▸ hj) rfl (fun la' hv' => fin la' (lvl_unset hv'))⟩
theorem wp_copy {i a b : Nat} {sp dp n : Int32} {M1 : Gm} {rest : List Gv} (hd : decode (mdC md) pc = .ok (.invokestatic i, 3)) (h : cpI M a sp b dp n = some M1) (hlink : Cond.methodLink (mdY md).cls i arraycopyName ∈ gtbl) (hnat : Cond.native arraycopyName ∈ gtbl) (hsta : Cond.static arraycopyName ∈ gtbl) (hini : Cond.initialized "java/lang/System" ∈ gtbl) (hr : rest.length ≤ 8) (kk : Wp w md (d + 1) (pc + 3) ls rest M1 o M') : Wp w md (d + 1) pc ls (.inl n :: .inl dp :: .inr b :: .inl sp :: .inr a :: rest) M o M' :=
  ⟨by have e : M1.2.2 = M.2.2 := by (obtain ⟨-, g2⟩ := if_some h; subst g2; rfl)
      have := kk.1; unfold mono at this ⊢; rw [e] at this; exact this, fun hw p e s m args below meth c k0 z0 H locs la C h1 h2 hR hS hl hv => by
    obtain ⟨⟨⟨ga, gb⟩, ⟨f1, f2, f3⟩, f4, f5⟩, g0⟩ := if_some h
    subst g0
    obtain ⟨a3, a5, a4⟩ := ce_arr (t := 0) hR ga
    obtain ⟨b3, b5, b4⟩ := ce_arr (t := 0) hR gb
    rw [elA_i w M a _ (by omega)] at a4
    rw [elA_i w M b _ (by omega)] at b4
    have hge : w.1.heap.size ≤ rho w b := by rw [rho_ge w b3]; omega
    show W _ _ _ _ _ _ _ _ _ _ _ _ _ _ _ (F0 m pc la (.int n :: .int dp :: rv w (.inr b) :: .int sp :: rv w (.inr a) :: rest.map (rv w)))
    rw [rv_pos w a3, rv_pos w b3]
    have nn : ∀ z : Int32, ¬ z < 0 → z.toInt = (z.toNatClampNeg : Int) := by
      intro z hz
      have hz0 : (0 : Int) ≤ z.toInt := by
        have := Int32.not_lt.mp hz
        simpa using Int32.le_iff_toInt_le.mp this
      show z.toInt = ((z.toInt.toNat : Nat) : Int)
      omega
    intro T hT X
    have hK := C.2.2.2.2.1
    obtain ⟨-, k1, hk1, cm1, hkk1⟩ := (hK.2 0 _ (tysW_at w (by omega))).1 (kd M a).2 (fun j => .int (M.1 a j))
    obtain ⟨-, k2, hk2, cm2, hkk2⟩ := (hK.2 0 _ (tysW_at w (by omega))).1 (kd M b).2 (fun j => .int (M.1 b j))
    obtain ⟨vm', X', step⟩ := X.arraycopy C.1.1 C.2.1 (C.2.2.1 _ hlink) (C.2.2.1 _ hnat) (C.2.2.1 _ hsta) (C.2.2.1 _ hini) (src := rho w a) (dst := rho w b) (cs := vp_cell (w.2.2.2.2 0) ((kd M a).2, .inl (M.1 a))) (cd := vp_cell (w.2.2.2.2 0) ((kd M b).2, .inl (M.1 b))) (srcPos := sp) (destPos := dp) (n := n) (by rw [hT]; exact a4) (by rw [hT]; exact b4)
      (fun _ h => by cases h) (fun _ h => by cases h) (fun h => by cases h) (fun h => by cases h) hk1 hk2 hkk1 hkk2 (by simp [refKind, tyA]) f1 f2 f3
      (by rw [nn sp f1, nn n f3]; show ¬ _ > ((arrV _ (kd M a).2 (fun j => .int (M.1 a j))).slots.size : Int); rw [arrV_size]; omega)
      (by rw [nn dp f2, nn n f3]; show ¬ _ > ((arrV _ (kd M b).2 (fun j => .int (M.1 b j))).slots.size : Int); rw [arrV_size]; omega)
      (fun vm₁ _ j hj => by
        have e : (vp_cell (w.2.2.2.2 0) ((kd M a).2, .inl (M.1 a))).slots.getD (sp.toNatClampNeg + j) .null = .int (M.1 a (sp.toNatClampNeg + j)) := by
          show (arrV _ (kd M a).2 (fun j => .int (M.1 a j))).slots.getD _ _ = _
          rw [Array.getD_eq_getD_getElem?, arrV_read _ _ (by omega)]
          rfl
        refine ⟨?_, ?_⟩
        · rw [e]; rfl
        · rw [e]
          exact trivial)
      (g := F0 m pc la (.int n :: .int dp :: .ref (rho w b) :: .int sp :: .ref (rho w a) :: rest.map (rv w))) rfl (by rw [C.1.2.2.1]; exact hv.1) (rest := rest.map (rv w)) rfl (by rw [C.1.2.1]; exact hd) (by show 1 ≤ d + 1; omega) (by show 2 * 0 + _ + _ ≤ 32 * (d + 1); rw [cat8]; simp only [nativeFrameWords]; simp; omega)
    have e1 : copied (vp_cell (w.2.2.2.2 0) ((kd M a).2, .inl (M.1 a))) (vp_cell (w.2.2.2.2 0) ((kd M b).2, .inl (M.1 b))) sp dp n = vp_cell (w.2.2.2.2 0) ((kd M b).2, .inl (va_cpy (M.1 a) (M.1 b) sp.toNatClampNeg dp.toNatClampNeg n.toNatClampNeg)) := va_copied (fun z => .int z) _ _ (M.1 a) (M.1 b) f4
    rw [e1] at X' step
    have hl9 : rho w b < H.size := (Array.getElem?_eq_some_iff.mp b4).1
    generalize hce : vp_cell (w.2.2.2.2 0) ((kd M b).2, .inl (va_cpy (M.1 a) (M.1 b) sp.toNatClampNeg dp.toNatClampNeg n.toNatClampNeg)) = ce at X' step
    have hheap : ((T.setVm vm').setCell (rho w b) ce).heap = H.setIfInBounds (rho w b) ce := by rw [← hT]; rfl
    have oq : ∀ q : Nat, q ≠ rho w b → (H.setIfInBounds (rho w b) ce)[q]? = H[q]? := fun q hq => by simp [Array.getElem?_setIfInBounds, Ne.symm hq]
    have hR1 : HR w (cpM M a b sp.toNatClampNeg dp.toNatClampNeg n.toNatClampNeg) (H.setIfInBounds (rho w b) ce) := by
      refine HR.set hR b3 rfl (fun q hq => ?_) (fun _ _ => rfl) ?_ (by simp) oq
      · funext j; show (if q = b then _ else M.1 q j) = _; rw [if_neg hq]
      · unfold ceW
        rw [el_arr (t := 0) (n := (kd M b).2) (by exact b5), elA_i w _ b _ (by omega)]
        show (H.setIfInBounds (rho w b) ce)[rho w b]? = some (vp_cell _ _)
        rw [← hce]
        have : (cpM M a b sp.toNatClampNeg dp.toNatClampNeg n.toNatClampNeg).1 b = va_cpy (M.1 a) (M.1 b) sp.toNatClampNeg dp.toNatClampNeg n.toNatClampNeg := by
          funext j; show (if b = b then _ else _) = _; rw [if_pos rfl]
        rw [this]
        simp [Array.getElem?_setIfInBounds, hl9]
    obtain ⟨t, a1, b1⟩ := kk.2 hw p e s m args below meth c k0 z0 _ _ la C h1 h2 hR1 ⟨by simp; exact hS.1, fun q g1 g2 => by
        rw [oq q (fun e => g2 (by rw [e]; exact hge))]
        exact hS.2.1 q g1 g2, fun q hq => by
        rcases List.mem_append.mp hq with h | h
        · exact hS.2.2 q h
        · obtain ⟨z, -, hz⟩ := List.mem_map.mp h
          rw [← hz]
          exact hge⟩ hl hv _ hheap X'
    exact ⟨t, step t a1, b1⟩⟩
end Rules
