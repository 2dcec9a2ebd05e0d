/-! ===== BASE 2: a frame that ends, a method that ends, and a rule an instruction ===== -/
def gtbl : List Cond := lw_tbl.filter goodWord
theorem gt_mem {t : Cond} (i : Nat) (h : lw_tbl[i]? = some t) (hg : goodWord t = true) : t ∈ gtbl := List.mem_filter.mpr ⟨List.mem_of_getElem? h, hg⟩
theorem gt_good {t : Cond} (h : t ∈ gtbl) : (t.onTables && t.keeps) = true ∨ ∃ ty, t = .arrayClass ty := good_of_word (List.mem_filter.mp h).2
def tysW (w : Gw) : List (ClassId × FieldType) := (List.range 11).map fun j => (w.2.2.2.2 j, tyA j)
abbrev mdY (md : Gd) : MethodName := md.1
abbrev mdC (md : Gd) : ByteArray := md.2.1
abbrev mdL (md : Gd) : Nat := md.2.2.1
abbrev mdR (md : Gd) : Option FieldType := md.2.2.2.1
abbrev mdO (md : Gd) : Option Nat := md.2.2.2.2.1
abbrev mdH (md : Gd) : List (Nat × Nat × Nat × Nat) := md.2.2.2.2.2
/-- what is given of the world -/
def Wok (w : Gw) : Prop := va_K w.2.2.2.1 clW (tysW w) w.1 ∧ w.2.1.stackTraces = false ∧ vx_Zq Bundle.tN "UNASSIGNED_STACK" Bundle.steD (Fr w) w.1 w.1.heap ∧ vx_Zq Bundle.tN "SUPPRESSED_SENTINEL" Bundle.listD (Fr w) w.1 w.1.heap ∧ (∀ t ∈ lw_tbl, t.before #[Value.ref (rho w 1)] w.1 = true) ∧ WokS w
def CxOk (w : Gw) (md : Gd) (p : Program) (s : State) (m : MethodId) (args : Array Value) (meth : Method) (c : Code) (k0 : Nat) : Prop :=
  (p.tables.exec = Jvm.exec ∧ c.code = mdC md ∧ c.maxLocals = mdL md ∧ meth.sig.returnType = mdR md ∧ meth.locks = false ∧ meth.name = (mdY md).name) ∧ s.vm.findClass (mdY md).cls = some m.cls ∧ (∀ t ∈ gtbl, t.before args s = true) ∧ w.1.WarmedH s.vm ∧ va_K w.2.2.2.1 clW (tysW w) s ∧ (s.heap.size = w.1.heap.size + (k0 - 64) ∧ ∀ q, q < w.1.heap.size → s.heap[q]? = w.1.heap[q]?) ∧ c.exceptionTable.toList = tableOf (mdH md)
def rmW (d cells slots : Nat) : Room := { frames := d, cells := cells, slots := slots, locals := 32 * d }
def QcW (w : Gw) (v : Option Gv) (M' : Gm) : Array Value → State → Outcome → State → Prop := fun _ _ oc t => oc = .returned (v.map (rv w)) ∧ HR w M' t.heap
def QcN : Array Value → State → Outcome → State → Prop := fun _ _ _ _ => False
def XcW (w : Gw) (E : String) (M' : Gm) : String → State → State → Prop := fun E' _ t => E' = E ∧ HR w M' t.heap
def TgW (w : Gw) (o : Go) (M' : Gm) (below : List Frame) (args : Array Value) (s : State) (mc ms : Nat) : State → Prop := match o with
  | .inl v => MQ below (QcW w v M') args s mc ms (Fr w)
  | .inr E => vx_MQ below QcN (XcW w E M') args s mc ms (Fr w)
def lvl (w : Gw) : Nat → List (Option Gv) → List (Nat × Value)
  | _, [] => []
  | i, none :: r => lvl w (i + 1) r
  | i, some v :: r => (i, rv w v) :: lvl w (i + 1) r
def mono (M M' : Gm) : Prop := M.2.2.length ≤ M'.2.2.length ∧ slK M.2.2 ≤ slK M'.2.2
theorem mono.rf {M : Gm} : mono M M := ⟨Nat.le_refl _, Nat.le_refl _⟩
theorem mono.tr {A B D : Gm} (h : mono A B) (k : mono B D) : mono A D := ⟨Nat.le_trans h.1 k.1, Nat.le_trans h.2 k.2⟩
/-- from this place, with these locals, this stack and this memory, the method comes to the end o in the memory M' -/
def Wp (w : Gw) (md : Gd) (d pc : Nat) (ls : List (Option Gv)) (st : List Gv) (M : Gm) (o : Go) (M' : Gm) : Prop :=
  mono M M' ∧ (Wok w → ∀ (p : Program) (e : Env) (s : State) (m : MethodId) (args : Array Value) (below : List Frame) (meth : Method) (c : Code) (k0 z0 : Nat) (H : Heap) (locs : List Loc) (la : Array Slot),
    CxOk w md p s m args meth c k0 → k0 ≤ M.2.2.length → z0 ≤ slK M.2.2 → HR w M H → va_S (Fr w) s.heap H locs → ls.length = mdL md → lv_has la (mdL md) (lvl w 0 ls) →
    W p w.2.1 e (rmW d (M'.2.2.length - k0) (slK M'.2.2 - z0)) s m args below meth c H locs (M.2.2.length - k0) (slK M.2.2 - z0) (TgW w o M' below args s (M'.2.2.length - k0) (slK M'.2.2 - z0)) (F0 m pc la (st.map (rv w))))
def PcW (w : Gw) (as : List Gv) (M : Gm) : Array Value → State → Prop := fun v U => v = (as.map (rv w)).toArray ∧ w.1.WarmedH U.vm ∧ HR w M U.heap
def wsY (md : Gd) : List Cond := Cond.code (mdY md) (mdC md) (mdL md) (mdR md) :: gtbl
def rcvW (md : Gd) (as : List Gv) (M : Gm) : Prop := match mdO md with
  | none => True
  | some c => ∃ (a : Nat) (r : List Gv), as = .inr a :: r ∧ M.2.2[a]? = some (c, 0) ∧ c < 13
/-- the method, from these arguments and this memory, comes to the end o in the memory M' -/
def Ev (w : Gw) (md : Gd) (d : Nat) (as : List Gv) (M : Gm) (o : Go) (M' : Gm) : Prop :=
  mono M M' ∧ rcvW md as M ∧ (Wok w → match o with
    | .inl v => Met w.2.1 (mdY md) (wsY md) (rmW d (M'.2.2.length - M.2.2.length) (slK M'.2.2 - slK M.2.2)) (PcW w as M) (QcW w v M') (M'.2.2.length - M.2.2.length) (slK M'.2.2 - slK M.2.2) (Fr w)
    | .inr E => vx_Met w.2.1 (mdY md) (wsY md) (rmW d (M'.2.2.length - M.2.2.length) (slK M'.2.2 - slK M.2.2)) (PcW w as M) QcN (XcW w E M') (M'.2.2.length - M.2.2.length) (slK M'.2.2 - slK M.2.2) (Fr w))
/-- a method's own words -/
def MdOk (md : Gd) : Prop := Cond.code (mdY md) (mdC md) (mdL md) (mdR md) ∈ gtbl ∧ Cond.initialized (mdY md).cls ∈ gtbl ∧ plainFor (mdY md) = true ∧ ((mdY md).cls ≠ "java/lang/invoke/MethodHandle" ∧ (mdY md).cls ≠ "java/lang/invoke/VarHandle") ∧ mdL md ≤ 13 ∧ mdH md = []
def MdN (md : Gd) (n : Nat) : Prop := (parseMethodDescriptor (mdY md).desc).map (fun d => d.parameters.length) = some n
def MdV (md : Gd) : Prop := Cond.instanceMethod (mdY md) ∈ gtbl ∧ Cond.selects (mdY md).cls (mdY md) (mdY md) ∈ gtbl ∧ ∃ c r, mdO md = some c ∧ clW[c]? = some r ∧ r.1 = (mdY md).cls
theorem goodIn_Y {md : Gd} (h : MdOk md) : GoodIn gtbl (wsY md) := fun t ht => by
  rcases List.mem_cons.mp ht with rfl | ht
  · exact ⟨h.1, gt_good h.1⟩
  · exact ⟨ht, gt_good ht⟩
/-! locals -/
theorem lvl_mem (w : Gw) : ∀ (ls : List (Option Gv)) (i k : Nat) (v : Gv), ls[k]? = some (some v) → (i + k, rv w v) ∈ lvl w i ls
  | [], _, _, _, h => by simp at h
  | none :: r, i, 0, v, h => by simp at h
  | some u :: r, i, 0, v, h => by
    simp at h; subst h
    exact List.mem_cons_self
  | none :: r, i, k + 1, v, h => by
    have := lvl_mem w r (i + 1) k v (by simpa using h)
    rw [show i + 1 + k = i + (k + 1) by omega] at this
    exact this
  | some u :: r, i, k + 1, v, h => by
    have := lvl_mem w r (i + 1) k v (by simpa using h)
    rw [show i + 1 + k = i + (k + 1) by omega] at this
    exact List.mem_cons_of_mem _ this
theorem lvl_of (w : Gw) : ∀ (ls : List (Option Gv)) (i : Nat) (q : Nat × Value), q ∈ lvl w i ls → ∃ k v, ls[k]? = some (some v) ∧ q = (i + k, rv w v)
  | [], _, _, h => by simp [lvl] at h
  | none :: r, i, q, h => by
    obtain ⟨k, v, h1, h2⟩ := lvl_of w r (i + 1) q h
    exact ⟨k + 1, v, by simpa using h1, by rw [h2]; congr 1; omega⟩
  | some u :: r, i, q, h => by
    rcases List.mem_cons.mp h with h | h
    · exact ⟨0, u, rfl, h⟩
    · obtain ⟨k, v, h1, h2⟩ := lvl_of w r (i + 1) q h
      exact ⟨k + 1, v, by simpa using h1, by rw [h2]; congr 1; omega⟩
theorem lvl_get {w : Gw} {la : Array Slot} {n : Nat} {ls : List (Option Gv)} (h : lv_has la n (lvl w 0 ls)) {k : Nat} {v : Gv} (hk : ls[k]? = some (some v)) : la[k]? = some (.val (rv w v)) := by
  have := h.2.2 _ (lvl_mem w ls 0 k v hk)
  rwa [Nat.zero_add] at this
theorem lvl_set {w : Gw} {la : Array Slot} {n : Nat} {ls : List (Option Gv)} {k : Nat} {v : Gv} (h : lv_has la n ((k, rv w v) :: (lvl w 0 ls).filter (fun q => !(q.1 == k) && !(q.1 + 1 == k && q.2.category == 2)))) (hk : k < ls.length) : lv_has la n (lvl w 0 (ls.set k (some v))) := by
  refine ⟨h.1, h.2.1, fun q hq => ?_⟩
  obtain ⟨j, u, h1, rfl⟩ := lvl_of w _ 0 q hq
  rw [Nat.zero_add]
  by_cases e : j = k
  · subst e
    rw [List.getElem?_set_self hk] at h1
    cases h1
    exact h.2.2 (j, rv w v) List.mem_cons_self
  · rw [List.getElem?_set_ne (fun q => e q.symm)] at h1
    refine h.2.2 (j, rv w u) (List.mem_cons_of_mem _ (List.mem_filter.mpr ⟨?_, ?_⟩))
    · have := lvl_mem w ls 0 j u h1
      rwa [Nat.zero_add] at this
    · have := rv_cat w u
      simp [e, this]
theorem lvl_unset {w : Gw} {la : Array Slot} {n : Nat} {ls : List (Option Gv)} {k : Nat} {v : Value} (h : lv_has la n ((k, v) :: (lvl w 0 ls).filter (fun q => !(q.1 == k) && !(q.1 + 1 == k && q.2.category == 2)))) : lv_has la n (lvl w 0 (ls.set k none)) := by
  refine ⟨h.1, h.2.1, fun q hq => ?_⟩
  obtain ⟨j, u, h1, rfl⟩ := lvl_of w _ 0 q hq
  rw [Nat.zero_add]
  by_cases e : j = k
  · subst e
    by_cases hk : j < ls.length
    · rw [List.getElem?_set_self hk] at h1; cases h1
    · rw [List.getElem?_eq_none (by simp; omega)] at h1; cases h1
  · rw [List.getElem?_set_ne (fun q => e q.symm)] at h1
    refine h.2.2 (j, rv w u) (List.mem_cons_of_mem _ (List.mem_filter.mpr ⟨?_, ?_⟩))
    · have := lvl_mem w ls 0 j u h1
      rwa [Nat.zero_add] at this
    · have := rv_cat w u
      simp [e, this]
/-- fewer locals are told -/
def lsLe (a b : List (Option Gv)) : Prop := a.length = b.length ∧ ∀ (k : Nat) (v : Gv), a[k]? = some (some v) → b[k]? = some (some v)
section Rules
variable {w : Gw} {md : Gd} {d pc : Nat} {ls : List (Option Gv)} {st : List Gv} {M : Gm} {o : Go} {M' : Gm}
theorem wp_ls {ls' : List (Option Gv)} (h : lsLe ls' ls) (k : Wp w md d pc ls' st M o M') : Wp w md d pc ls st M o M' :=
  ⟨k.1, fun hw p e s m args below meth c k0 z0 H locs la C h1 h2 hR hS hl hv => k.2 hw p e s m args below meth c k0 z0 H locs la C h1 h2 hR hS (h.1.trans hl) ⟨hv.1, hv.2.1, fun q hq => by
    obtain ⟨j, u, g1, rfl⟩ := lvl_of w _ 0 q hq
    rw [Nat.zero_add]
    exact lvl_get hv (h.2 j u g1)⟩⟩
theorem wp_iconst {n : Int} {v : Int32} (hd : decode (mdC md) pc = .ok (.iconst n, 1)) (hv0 : Int32.ofInt n = v) (k : Wp w md d (pc + 1) ls (.inl v :: st) M o M') : Wp w md d pc ls (st) M o M' :=
  ⟨k.1, fun hw p e s m args below meth c k0 z0 H locs la C h1 h2 hR hS hl hv => lv_iconst C.1.1 C.1.2.1 hd hv0 (k.2 hw p e s m args below meth c k0 z0 H locs la C h1 h2 hR hS hl hv)⟩
theorem wp_bipush {n : Int} {v : Int32} (hd : decode (mdC md) pc = .ok (.bipush n, 2)) (hv0 : (Int8.ofInt n).toInt32 = v) (k : Wp w md d (pc + 2) ls (.inl v :: st) M o M') : Wp w md d pc ls (st) M o M' :=
  ⟨k.1, fun hw p e s m args below meth c k0 z0 H locs la C h1 h2 hR hS hl hv => lv_bipush C.1.1 C.1.2.1 hd hv0 (k.2 hw p e s m args below meth c k0 z0 H locs la C h1 h2 hR hS hl hv)⟩
theorem wp_sipush {n : Int} {v : Int32} (hd : decode (mdC md) pc = .ok (.sipush n, 3)) (hv0 : (Int16.ofInt n).toInt32 = v) (k : Wp w md d (pc + 3) ls (.inl v :: st) M o M') : Wp w md d pc ls (st) M o M' :=
  ⟨k.1, fun hw p e s m args below meth c k0 z0 H locs la C h1 h2 hR hS hl hv => lv_sipush C.1.1 C.1.2.1 hd hv0 (k.2 hw p e s m args below meth c k0 z0 H locs la C h1 h2 hR hS hl hv)⟩
theorem wp_ldc {i : Nat} {v : Int32} (hd : decode (mdC md) pc = .ok (.ldc i, 2)) (hc : Cond.constant (mdY md).cls i v ∈ gtbl) (k : Wp w md d (pc + 2) ls (.inl v :: st) M o M') : Wp w md d pc ls (st) M o M' :=
  ⟨k.1, fun hw p e s m args below meth c k0 z0 H locs la C h1 h2 hR hS hl hv => lv_ldc C.1.1 C.1.2.1 C.2.1 (C.2.2.1 _ hc) hd (k.2 hw p e s m args below meth c k0 z0 H locs la C h1 h2 hR hS hl hv)⟩
theorem wp_iload {i : Nat} {x : Int32} (hd : decode (mdC md) pc = .ok (.iload i, 2)) (hi : ls[i]? = some (some (.inl x))) (k : Wp w md d (pc + 2) ls (.inl x :: st) M o M') : Wp w md d pc ls (st) M o M' :=
  ⟨k.1, fun hw p e s m args below meth c k0 z0 H locs la C h1 h2 hR hS hl hv => lv_iload C.1.1 C.1.2.1 hd (lvl_get hv hi) (k.2 hw p e s m args below meth c k0 z0 H locs la C h1 h2 hR hS hl hv)⟩
theorem wp_iload_n {i : Fin 4} {x : Int32} (hd : decode (mdC md) pc = .ok (.iload_n i, 1)) (hi : ls[(i : Nat)]? = some (some (.inl x))) (k : Wp w md d (pc + 1) ls (.inl x :: st) M o M') : Wp w md d pc ls (st) M o M' :=
  ⟨k.1, fun hw p e s m args below meth c k0 z0 H locs la C h1 h2 hR hS hl hv => lv_iload_n C.1.1 C.1.2.1 hd rfl (lvl_get hv hi) (k.2 hw p e s m args below meth c k0 z0 H locs la C h1 h2 hR hS hl hv)⟩
theorem wp_aload {i : Nat} {a : Nat} (hd : decode (mdC md) pc = .ok (.aload i, 2)) (hi : ls[i]? = some (some (.inr a))) (k : Wp w md d (pc + 2) ls (.inr a :: st) M o M') : Wp w md d pc ls st M o M' :=
  ⟨k.1, fun hw p e s m args below meth c k0 z0 H locs la C h1 h2 hR hS hl hv => by
    have g := lvl_get hv hi
    have kk := k.2 hw p e s m args below meth c k0 z0 H locs la C h1 h2 hR hS hl hv
    cases a with
    | zero => exact lv_aloadN C.1.1 C.1.2.1 hd g kk
    | succ a => exact lv_aload C.1.1 C.1.2.1 hd g kk⟩
theorem wp_aload_n {i : Fin 4} {a : Nat} (hd : decode (mdC md) pc = .ok (.aload_n i, 1)) (hi : ls[(i : Nat)]? = some (some (.inr a))) (k : Wp w md d (pc + 1) ls (.inr a :: st) M o M') : Wp w md d pc ls st M o M' :=
  ⟨k.1, fun hw p e s m args below meth c k0 z0 H locs la C h1 h2 hR hS hl hv => by
    have g := lvl_get hv hi
    have kk := k.2 hw p e s m args below meth c k0 z0 H locs la C h1 h2 hR hS hl hv
    cases a with
    | zero => exact lv_aload_nN C.1.1 C.1.2.1 hd rfl g kk
    | succ a => exact lv_aload_n C.1.1 C.1.2.1 hd rfl g kk⟩
theorem wp_istore {i : Nat} {x : Int32} (hd : decode (mdC md) pc = .ok (.istore i, 2)) (hn : i < ls.length) (k : Wp w md d (pc + 2) (ls.set i (some (.inl x))) st M o M') : Wp w md d pc ls (.inl x :: st) M o M' :=
  ⟨k.1, fun hw p e s m args below meth c k0 z0 H locs la C h1 h2 hR hS hl hv => lv_istore C.1.1 C.1.2.1 hd hv (hl ▸ hn) rfl (fun la' hv' => k.2 hw p e s m args below meth c k0 z0 H locs la' C h1 h2 hR hS (by rw [List.length_set]; exact hl) (lvl_set hv' hn))⟩
theorem wp_istore_n {i : Fin 4} {x : Int32} (hd : decode (mdC md) pc = .ok (.istore_n i, 1)) (hn : (i : Nat) < ls.length) (k : Wp w md d (pc + 1) (ls.set (i : Nat) (some (.inl x))) st M o M') : Wp w md d pc ls (.inl x :: st) M o M' :=
  ⟨k.1, fun hw p e s m args below meth c k0 z0 H locs la C h1 h2 hR hS hl hv => lv_istore_n C.1.1 C.1.2.1 hd rfl hv (hl ▸ hn) rfl (fun la' hv' => k.2 hw p e s m args below meth c k0 z0 H locs la' C h1 h2 hR hS (by rw [List.length_set]; exact hl) (lvl_set hv' hn))⟩
theorem wp_astore {i : Nat} {a : Nat} (hd : decode (mdC md) pc = .ok (.astore i, 2)) (hn : i < ls.length) (k : Wp w md d (pc + 2) (ls.set i (some (.inr a))) st M o M') : Wp w md d pc ls (.inr a :: st) M o M' :=
  ⟨k.1, fun hw p e s m args below meth c k0 z0 H locs la C h1 h2 hR hS hl hv => by
    cases a with
    | zero => exact lv_astoreN C.1.1 C.1.2.1 hd hv (hl ▸ hn) rfl (fun la' hv' => k.2 hw p e s m args below meth c k0 z0 H locs la' C h1 h2 hR hS (by rw [List.length_set]; exact hl) (lvl_set hv' hn))
    | succ a => exact lv_astore C.1.1 C.1.2.1 hd hv (hl ▸ hn) rfl (fun la' hv' => k.2 hw p e s m args below meth c k0 z0 H locs la' C h1 h2 hR hS (by rw [List.length_set]; exact hl) (lvl_set hv' hn))⟩
theorem wp_astore_n {i : Fin 4} {a : Nat} (hd : decode (mdC md) pc = .ok (.astore_n i, 1)) (hn : (i : Nat) < ls.length) (k : Wp w md d (pc + 1) (ls.set (i : Nat) (some (.inr a))) st M o M') : Wp w md d pc ls (.inr a :: st) M o M' :=
  ⟨k.1, fun hw p e s m args below meth c k0 z0 H locs la C h1 h2 hR hS hl hv => by
    cases a with
    | zero => exact lv_astore_nN C.1.1 C.1.2.1 hd rfl hv (hl ▸ hn) rfl (fun la' hv' => k.2 hw p e s m args below meth c k0 z0 H locs la' C h1 h2 hR hS (by rw [List.length_set]; exact hl) (lvl_set hv' hn))
    | succ a => exact lv_astore_n C.1.1 C.1.2.1 hd rfl hv (hl ▸ hn) rfl (fun la' hv' => k.2 hw p e s m args below meth c k0 z0 H locs la' C h1 h2 hR hS (by rw [List.length_set]; exact hl) (lvl_set hv' hn))⟩
theorem wp_iinc {i : Nat} {n : Int} {x v : Int32} (hd : decode (mdC md) pc = .ok (.iinc i n, 3)) (hi : ls[i]? = some (some (.inl x))) (hx : x + Int32.ofInt n = v) (k : Wp w md d (pc + 3) (ls.set i (some (.inl v))) st M o M') : Wp w md d pc ls st M o M' :=
  ⟨k.1, fun hw p e s m args below meth c k0 z0 H locs la C h1 h2 hR hS hl hv => by
    have hn : i < ls.length := (List.getElem?_eq_some_iff.mp hi).1
    have hm := lvl_mem w ls 0 i (.inl x) hi
    rw [Nat.zero_add] at hm
    obtain ⟨j, hj⟩ := List.getElem?_of_mem hm
    exact lv_iinc C.1.1 C.1.2.1 hd hv hj hx (hl ▸ hn) rfl (fun la' hv' => k.2 hw p e s m args below meth c k0 z0 H locs la' C h1 h2 hR hS (by rw [List.length_set]; exact hl) (lvl_set hv' hn))⟩
theorem wp_iadd {x y : Int32} (hd : decode (mdC md) pc = .ok (.iadd, 1))  (k : Wp w md d (pc + 1) ls (.inl (x + y) :: st) M o M') : Wp w md d pc ls (.inl y :: .inl x :: st) M o M' :=
  ⟨k.1, fun hw p e s m args below meth c k0 z0 H locs la C h1 h2 hR hS hl hv => lv_iadd C.1.1 C.1.2.1 hd (k.2 hw p e s m args below meth c k0 z0 H locs la C h1 h2 hR hS hl hv)⟩
theorem wp_isub {x y : Int32} (hd : decode (mdC md) pc = .ok (.isub, 1))  (k : Wp w md d (pc + 1) ls (.inl (x - y) :: st) M o M') : Wp w md d pc ls (.inl y :: .inl x :: st) M o M' :=
  ⟨k.1, fun hw p e s m args below meth c k0 z0 H locs la C h1 h2 hR hS hl hv => lv_isub C.1.1 C.1.2.1 hd (k.2 hw p e s m args below meth c k0 z0 H locs la C h1 h2 hR hS hl hv)⟩
theorem wp_imul {x y : Int32} (hd : decode (mdC md) pc = .ok (.imul, 1))  (k : Wp w md d (pc + 1) ls (.inl (x * y) :: st) M o M') : Wp w md d pc ls (.inl y :: .inl x :: st) M o M' :=
  ⟨k.1, fun hw p e s m args below meth c k0 z0 H locs la C h1 h2 hR hS hl hv => lv_imul C.1.1 C.1.2.1 hd (k.2 hw p e s m args below meth c k0 z0 H locs la C h1 h2 hR hS hl hv)⟩
theorem wp_iand {x y : Int32} (hd : decode (mdC md) pc = .ok (.iand, 1))  (k : Wp w md d (pc + 1) ls (.inl (x &&& y) :: st) M o M') : Wp w md d pc ls (.inl y :: .inl x :: st) M o M' :=
  ⟨k.1, fun hw p e s m args below meth c k0 z0 H locs la C h1 h2 hR hS hl hv => lv_iand C.1.1 C.1.2.1 hd (k.2 hw p e s m args below meth c k0 z0 H locs la C h1 h2 hR hS hl hv)⟩
theorem wp_ior {x y : Int32} (hd : decode (mdC md) pc = .ok (.ior, 1))  (k : Wp w md d (pc + 1) ls (.inl (x ||| y) :: st) M o M') : Wp w md d pc ls (.inl y :: .inl x :: st) M o M' :=
  ⟨k.1, fun hw p e s m args below meth c k0 z0 H locs la C h1 h2 hR hS hl hv => lv_ior C.1.1 C.1.2.1 hd (k.2 hw p e s m args below meth c k0 z0 H locs la C h1 h2 hR hS hl hv)⟩
theorem wp_ixor {x y : Int32} (hd : decode (mdC md) pc = .ok (.ixor, 1))  (k : Wp w md d (pc + 1) ls (.inl (x ^^^ y) :: st) M o M') : Wp w md d pc ls (.inl y :: .inl x :: st) M o M' :=
  ⟨k.1, fun hw p e s m args below meth c k0 z0 H locs la C h1 h2 hR hS hl hv => lv_ixor C.1.1 C.1.2.1 hd (k.2 hw p e s m args below meth c k0 z0 H locs la C h1 h2 hR hS hl hv)⟩
theorem wp_ishl {x y : Int32} (hd : decode (mdC md) pc = .ok (.ishl, 1))  (k : Wp w md d (pc + 1) ls (.inl (x <<< (y &&& 31)) :: st) M o M') : Wp w md d pc ls (.inl y :: .inl x :: st) M o M' :=
  ⟨k.1, fun hw p e s m args below meth c k0 z0 H locs la C h1 h2 hR hS hl hv => lv_ishl C.1.1 C.1.2.1 hd (k.2 hw p e s m args below meth c k0 z0 H locs la C h1 h2 hR hS hl hv)⟩
theorem wp_ishr {x y : Int32} (hd : decode (mdC md) pc = .ok (.ishr, 1))  (k : Wp w md d (pc + 1) ls (.inl (x >>> (y &&& 31)) :: st) M o M') : Wp w md d pc ls (.inl y :: .inl x :: st) M o M' :=
  ⟨k.1, fun hw p e s m args below meth c k0 z0 H locs la C h1 h2 hR hS hl hv => lv_ishr C.1.1 C.1.2.1 hd (k.2 hw p e s m args below meth c k0 z0 H locs la C h1 h2 hR hS hl hv)⟩
theorem wp_iushr {x y : Int32} (hd : decode (mdC md) pc = .ok (.iushr, 1))  (k : Wp w md d (pc + 1) ls (.inl (ushI x y) :: st) M o M') : Wp w md d pc ls (.inl y :: .inl x :: st) M o M' :=
  ⟨k.1, fun hw p e s m args below meth c k0 z0 H locs la C h1 h2 hR hS hl hv => lv_iushr C.1.1 C.1.2.1 hd rfl (k.2 hw p e s m args below meth c k0 z0 H locs la C h1 h2 hR hS hl hv)⟩
theorem wp_ineg {x : Int32} (hd : decode (mdC md) pc = .ok (.ineg, 1))  (k : Wp w md d (pc + 1) ls (.inl (-x) :: st) M o M') : Wp w md d pc ls (.inl x :: st) M o M' :=
  ⟨k.1, fun hw p e s m args below meth c k0 z0 H locs la C h1 h2 hR hS hl hv => lv_ineg C.1.1 C.1.2.1 hd (k.2 hw p e s m args below meth c k0 z0 H locs la C h1 h2 hR hS hl hv)⟩
theorem wp_i2b {x : Int32} (hd : decode (mdC md) pc = .ok (.i2b, 1))  (k : Wp w md d (pc + 1) ls (.inl (x.toInt8.toInt32) :: st) M o M') : Wp w md d pc ls (.inl x :: st) M o M' :=
  ⟨k.1, fun hw p e s m args below meth c k0 z0 H locs la C h1 h2 hR hS hl hv => lv_i2b C.1.1 C.1.2.1 hd rfl (k.2 hw p e s m args below meth c k0 z0 H locs la C h1 h2 hR hS hl hv)⟩
theorem wp_i2c {x : Int32} (hd : decode (mdC md) pc = .ok (.i2c, 1))  (k : Wp w md d (pc + 1) ls (.inl (x.toUInt32 % 65536).toInt32 :: st) M o M') : Wp w md d pc ls (.inl x :: st) M o M' :=
  ⟨k.1, fun hw p e s m args below meth c k0 z0 H locs la C h1 h2 hR hS hl hv => lv_i2c C.1.1 C.1.2.1 hd rfl (k.2 hw p e s m args below meth c k0 z0 H locs la C h1 h2 hR hS hl hv)⟩
theorem wp_idiv {x y z : Int32} (hd : decode (mdC md) pc = .ok (.idiv, 1)) (h : dvI x y = some z) (k : Wp w md d (pc + 1) ls (.inl z :: st) M o M') : Wp w md d pc ls (.inl y :: .inl x :: st) M o M' :=
  ⟨k.1, fun hw p e s m args below meth c k0 z0 H locs la C h1 h2 hR hS hl hv => by
    obtain ⟨g1, g2⟩ := dvI_of h
    subst g2
    exact lv_idiv C.1.1 C.1.2.1 hd g1 (k.2 hw p e s m args below meth c k0 z0 H locs la C h1 h2 hR hS hl hv)⟩
theorem wp_irem {x y z : Int32} (hd : decode (mdC md) pc = .ok (.irem, 1)) (h : rmI x y = some z) (k : Wp w md d (pc + 1) ls (.inl z :: st) M o M') : Wp w md d pc ls (.inl y :: .inl x :: st) M o M' :=
  ⟨k.1, fun hw p e s m args below meth c k0 z0 H locs la C h1 h2 hR hS hl hv => by
    obtain ⟨g1, g2⟩ := rmI_of h
    subst g2
    exact lv_irem C.1.1 C.1.2.1 hd g1 (k.2 hw p e s m args below meth c k0 z0 H locs la C h1 h2 hR hS hl hv)⟩
theorem wp_dup {v : Gv} (hd : decode (mdC md) pc = .ok (.dup, 1))  (k : Wp w md d (pc + 1) ls (v :: v :: st) M o M') : Wp w md d pc ls (v :: st) M o M' :=
  ⟨k.1, fun hw p e s m args below meth c k0 z0 H locs la C h1 h2 hR hS hl hv => lv_dup C.1.1 C.1.2.1 hd (rv_cat w v) (k.2 hw p e s m args below meth c k0 z0 H locs la C h1 h2 hR hS hl hv)⟩
theorem wp_pop {v : Gv} (hd : decode (mdC md) pc = .ok (.pop, 1))  (k : Wp w md d (pc + 1) ls (st) M o M') : Wp w md d pc ls (v :: st) M o M' :=
  ⟨k.1, fun hw p e s m args below meth c k0 z0 H locs la C h1 h2 hR hS hl hv => lv_pop C.1.1 C.1.2.1 hd (rv_cat w v) (k.2 hw p e s m args below meth c k0 z0 H locs la C h1 h2 hR hS hl hv)⟩
theorem wp_dup_x1 {u v : Gv} (hd : decode (mdC md) pc = .ok (.dup_x1, 1))  (k : Wp w md d (pc + 1) ls (u :: v :: u :: st) M o M') : Wp w md d pc ls (u :: v :: st) M o M' :=
  ⟨k.1, fun hw p e s m args below meth c k0 z0 H locs la C h1 h2 hR hS hl hv => lv_dup_x1 C.1.1 C.1.2.1 hd (rv_cat w u) (rv_cat w v) (k.2 hw p e s m args below meth c k0 z0 H locs la C h1 h2 hR hS hl hv)⟩
theorem wp_dup2 {u v : Gv} (hd : decode (mdC md) pc = .ok (.dup2, 1))  (k : Wp w md d (pc + 1) ls (u :: v :: u :: v :: st) M o M') : Wp w md d pc ls (u :: v :: st) M o M' :=
  ⟨k.1, fun hw p e s m args below meth c k0 z0 H locs la C h1 h2 hR hS hl hv => lv_dup2_11 C.1.1 C.1.2.1 hd (rv_cat w u) (rv_cat w v) (k.2 hw p e s m args below meth c k0 z0 H locs la C h1 h2 hR hS hl hv)⟩
theorem wp_goto {off : Int} {tgt : Nat} (hd : decode (mdC md) pc = .ok (.goto off, 3)) (ht : (pc : Int) + off = (tgt : Int)) (k : Wp w md d tgt ls st M o M') : Wp w md d pc ls st M o M' :=
  ⟨k.1, fun hw p e s m args below meth c k0 z0 H locs la C h1 h2 hR hS hl hv => lv_goto C.1.1 C.1.2.1 hd ht (k.2 hw p e s m args below meth c k0 z0 H locs la C h1 h2 hR hS hl hv)⟩
theorem wp_if_eq {x : Int32} {off : Int} {tgt : Nat} (hd : decode (mdC md) pc = .ok (.ifCond .eq off, 3)) (ht : (pc : Int) + off = (tgt : Int)) (kt : x = 0 → Wp w md d tgt ls st M o M') (kf : ¬ x = 0 → Wp w md d (pc + 3) ls st M o M') : Wp w md d pc ls (.inl x :: st) M o M' :=
  ⟨if g : x = 0 then (kt g).1 else (kf g).1, fun hw p e s m args below meth c k0 z0 H locs la C h1 h2 hR hS hl hv => lv_if_eq C.1.1 C.1.2.1 hd ht (fun g => (kt g).2 hw p e s m args below meth c k0 z0 H locs la C h1 h2 hR hS hl hv) (fun g => (kf g).2 hw p e s m args below meth c k0 z0 H locs la C h1 h2 hR hS hl hv)⟩
theorem wp_icmp_eq {x y : Int32} {off : Int} {tgt : Nat} (hd : decode (mdC md) pc = .ok (.if_icmp .eq off, 3)) (ht : (pc : Int) + off = (tgt : Int)) (kt : x = y → Wp w md d tgt ls st M o M') (kf : ¬ x = y → Wp w md d (pc + 3) ls st M o M') : Wp w md d pc ls (.inl y :: .inl x :: st) M o M' :=
  ⟨if g : x = y then (kt g).1 else (kf g).1, fun hw p e s m args below meth c k0 z0 H locs la C h1 h2 hR hS hl hv => lv_icmp_eq C.1.1 C.1.2.1 hd ht (fun g => (kt g).2 hw p e s m args below meth c k0 z0 H locs la C h1 h2 hR hS hl hv) (fun g => (kf g).2 hw p e s m args below meth c k0 z0 H locs la C h1 h2 hR hS hl hv)⟩
theorem wp_if_ne {x : Int32} {off : Int} {tgt : Nat} (hd : decode (mdC md) pc = .ok (.ifCond .ne off, 3)) (ht : (pc : Int) + off = (tgt : Int)) (kt : ¬ x = 0 → Wp w md d tgt ls st M o M') (kf : x = 0 → Wp w md d (pc + 3) ls st M o M') : Wp w md d pc ls (.inl x :: st) M o M' :=
  ⟨if g : x = 0 then (kf g).1 else (kt g).1, fun hw p e s m args below meth c k0 z0 H locs la C h1 h2 hR hS hl hv => lv_if_ne C.1.1 C.1.2.1 hd ht (fun g => (kt g).2 hw p e s m args below meth c k0 z0 H locs la C h1 h2 hR hS hl hv) (fun g => (kf g).2 hw p e s m args below meth c k0 z0 H locs la C h1 h2 hR hS hl hv)⟩
theorem wp_icmp_ne {x y : Int32} {off : Int} {tgt : Nat} (hd : decode (mdC md) pc = .ok (.if_icmp .ne off, 3)) (ht : (pc : Int) + off = (tgt : Int)) (kt : ¬ x = y → Wp w md d tgt ls st M o M') (kf : x = y → Wp w md d (pc + 3) ls st M o M') : Wp w md d pc ls (.inl y :: .inl x :: st) M o M' :=
  ⟨if g : x = y then (kf g).1 else (kt g).1, fun hw p e s m args below meth c k0 z0 H locs la C h1 h2 hR hS hl hv => lv_icmp_ne C.1.1 C.1.2.1 hd ht (fun g => (kt g).2 hw p e s m args below meth c k0 z0 H locs la C h1 h2 hR hS hl hv) (fun g => (kf g).2 hw p e s m args below meth c k0 z0 H locs la C h1 h2 hR hS hl hv)⟩
theorem wp_if_lt {x : Int32} {off : Int} {tgt : Nat} (hd : decode (mdC md) pc = .ok (.ifCond .lt off, 3)) (ht : (pc : Int) + off = (tgt : Int)) (kt : x < 0 → Wp w md d tgt ls st M o M') (kf : ¬ x < 0 → Wp w md d (pc + 3) ls st M o M') : Wp w md d pc ls (.inl x :: st) M o M' :=
  ⟨if g : x < 0 then (kt g).1 else (kf g).1, fun hw p e s m args below meth c k0 z0 H locs la C h1 h2 hR hS hl hv => lv_if_lt C.1.1 C.1.2.1 hd ht (fun g => (kt g).2 hw p e s m args below meth c k0 z0 H locs la C h1 h2 hR hS hl hv) (fun g => (kf g).2 hw p e s m args below meth c k0 z0 H locs la C h1 h2 hR hS hl hv)⟩
theorem wp_icmp_lt {x y : Int32} {off : Int} {tgt : Nat} (hd : decode (mdC md) pc = .ok (.if_icmp .lt off, 3)) (ht : (pc : Int) + off = (tgt : Int)) (kt : x < y → Wp w md d tgt ls st M o M') (kf : ¬ x < y → Wp w md d (pc + 3) ls st M o M') : Wp w md d pc ls (.inl y :: .inl x :: st) M o M' :=
  ⟨if g : x < y then (kt g).1 else (kf g).1, fun hw p e s m args below meth c k0 z0 H locs la C h1 h2 hR hS hl hv => lv_icmp_lt C.1.1 C.1.2.1 hd ht (fun g => (kt g).2 hw p e s m args below meth c k0 z0 H locs la C h1 h2 hR hS hl hv) (fun g => (kf g).2 hw p e s m args below meth c k0 z0 H locs la C h1 h2 hR hS hl hv)⟩
theorem wp_if_ge {x : Int32} {off : Int} {tgt : Nat} (hd : decode (mdC md) pc = .ok (.ifCond .ge off, 3)) (ht : (pc : Int) + off = (tgt : Int)) (kt : 0 ≤ x → Wp w md d tgt ls st M o M') (kf : ¬ 0 ≤ x → Wp w md d (pc + 3) ls st M o M') : Wp w md d pc ls (.inl x :: st) M o M' :=
  ⟨if g : 0 ≤ x then (kt g).1 else (kf g).1, fun hw p e s m args below meth c k0 z0 H locs la C h1 h2 hR hS hl hv => lv_if_ge C.1.1 C.1.2.1 hd ht (fun g => (kt g).2 hw p e s m args below meth c k0 z0 H locs la C h1 h2 hR hS hl hv) (fun g => (kf g).2 hw p e s m args below meth c k0 z0 H locs la C h1 h2 hR hS hl hv)⟩
theorem wp_icmp_ge {x y : Int32} {off : Int} {tgt : Nat} (hd : decode (mdC md) pc = .ok (.if_icmp .ge off, 3)) (ht : (pc : Int) + off = (tgt : Int)) (kt : y ≤ x → Wp w md d tgt ls st M o M') (kf : ¬ y ≤ x → Wp w md d (pc + 3) ls st M o M') : Wp w md d pc ls (.inl y :: .inl x :: st) M o M' :=
  ⟨if g : y ≤ x then (kt g).1 else (kf g).1, fun hw p e s m args below meth c k0 z0 H locs la C h1 h2 hR hS hl hv => lv_icmp_ge C.1.1 C.1.2.1 hd ht (fun g => (kt g).2 hw p e s m args below meth c k0 z0 H locs la C h1 h2 hR hS hl hv) (fun g => (kf g).2 hw p e s m args below meth c k0 z0 H locs la C h1 h2 hR hS hl hv)⟩
theorem wp_if_gt {x : Int32} {off : Int} {tgt : Nat} (hd : decode (mdC md) pc = .ok (.ifCond .gt off, 3)) (ht : (pc : Int) + off = (tgt : Int)) (kt : 0 < x → Wp w md d tgt ls st M o M') (kf : ¬ 0 < x → Wp w md d (pc + 3) ls st M o M') : Wp w md d pc ls (.inl x :: st) M o M' :=
  ⟨if g : 0 < x then (kt g).1 else (kf g).1, fun hw p e s m args below meth c k0 z0 H locs la C h1 h2 hR hS hl hv => lv_if_gt C.1.1 C.1.2.1 hd ht (fun g => (kt g).2 hw p e s m args below meth c k0 z0 H locs la C h1 h2 hR hS hl hv) (fun g => (kf g).2 hw p e s m args below meth c k0 z0 H locs la C h1 h2 hR hS hl hv)⟩
theorem wp_icmp_gt {x y : Int32} {off : Int} {tgt : Nat} (hd : decode (mdC md) pc = .ok (.if_icmp .gt off, 3)) (ht : (pc : Int) + off = (tgt : Int)) (kt : y < x → Wp w md d tgt ls st M o M') (kf : ¬ y < x → Wp w md d (pc + 3) ls st M o M') : Wp w md d pc ls (.inl y :: .inl x :: st) M o M' :=
  ⟨if g : y < x then (kt g).1 else (kf g).1, fun hw p e s m args below meth c k0 z0 H locs la C h1 h2 hR hS hl hv => lv_icmp_gt C.1.1 C.1.2.1 hd ht (fun g => (kt g).2 hw p e s m args below meth c k0 z0 H locs la C h1 h2 hR hS hl hv) (fun g => (kf g).2 hw p e s m args below meth c k0 z0 H locs la C h1 h2 hR hS hl hv)⟩
theorem wp_if_le {x : Int32} {off : Int} {tgt : Nat} (hd : decode (mdC md) pc = .ok (.ifCond .le off, 3)) (ht : (pc : Int) + off = (tgt : Int)) (kt : x ≤ 0 → Wp w md d tgt ls st M o M') (kf : ¬ x ≤ 0 → Wp w md d (pc + 3) ls st M o M') : Wp w md d pc ls (.inl x :: st) M o M' :=
  ⟨if g : x ≤ 0 then (kt g).1 else (kf g).1, fun hw p e s m args below meth c k0 z0 H locs la C h1 h2 hR hS hl hv => lv_if_le C.1.1 C.1.2.1 hd ht (fun g => (kt g).2 hw p e s m args below meth c k0 z0 H locs la C h1 h2 hR hS hl hv) (fun g => (kf g).2 hw p e s m args below meth c k0 z0 H locs la C h1 h2 hR hS hl hv)⟩
theorem wp_icmp_le {x y : Int32} {off : Int} {tgt : Nat} (hd : decode (mdC md) pc = .ok (.if_icmp .le off, 3)) (ht : (pc : Int) + off = (tgt : Int)) (kt : x ≤ y → Wp w md d tgt ls st M o M') (kf : ¬ x ≤ y → Wp w md d (pc + 3) ls st M o M') : Wp w md d pc ls (.inl y :: .inl x :: st) M o M' :=
  ⟨if g : x ≤ y then (kt g).1 else (kf g).1, fun hw p e s m args below meth c k0 z0 H locs la C h1 h2 hR hS hl hv => lv_icmp_le C.1.1 C.1.2.1 hd ht (fun g => (kt g).2 hw p e s m args below meth c k0 z0 H locs la C h1 h2 hR hS hl hv) (fun g => (kf g).2 hw p e s m args below meth c k0 z0 H locs la C h1 h2 hR hS hl hv)⟩
theorem wp_ifnonnull {a : Nat} {off : Int} {tgt : Nat} (hd : decode (mdC md) pc = .ok (.ifnonnull off, 3)) (ht : (pc : Int) + off = (tgt : Int)) (kt : ¬ a = 0 → Wp w md d tgt ls st M o M') (kf : a = 0 → Wp w md d (pc + 3) ls st M o M') : Wp w md d pc ls (.inr a :: st) M o M' :=
  ⟨if g : a = 0 then (kf g).1 else (kt g).1, fun hw p e s m args below meth c k0 z0 H locs la C h1 h2 hR hS hl hv => by
    cases a with
    | zero => exact lv_ifnonnullN C.1.1 C.1.2.1 hd ((kf rfl).2 hw p e s m args below meth c k0 z0 H locs la C h1 h2 hR hS hl hv)
    | succ a => exact lv_ifnonnull C.1.1 C.1.2.1 hd ht ((kt (by omega)).2 hw p e s m args below meth c k0 z0 H locs la C h1 h2 hR hS hl hv)⟩
theorem wp_lookup {x : Int32} {dflt : Int} {ps : Array (Int × Int)} {len : Nat} {off : Int} {tgt : Nat} (hd : decode (mdC md) pc = .ok (.lookupswitch dflt ps, len)) (hp : (ps.toList.zip (ps.toList.drop 1)).all (fun (a, next) => a.1 < next.1) = true) (ho : Op.lookupswitch.offset ps.toList dflt x.toInt = off) (ht : (pc : Int) + off = (tgt : Int)) (k : Wp w md d tgt ls st M o M') : Wp w md d pc ls (.inl x :: st) M o M' :=
  ⟨k.1, fun hw p e s m args below meth c k0 z0 H locs la C h1 h2 hR hS hl hv => lv_lookup C.1.1 C.1.2.1 hd hp ho ht (k.2 hw p e s m args below meth c k0 z0 H locs la C h1 h2 hR hS hl hv)⟩
theorem wp_tableOut {x : Int32} {dflt lo hi : Int} {offs : Array Int} {len tgt : Nat} (hd : decode (mdC md) pc = .ok (.tableswitch dflt lo hi offs, len)) (h : x.toInt < lo ∨ hi < x.toInt) (ht : (pc : Int) + dflt = (tgt : Int)) (k : Wp w md d tgt ls st M o M') : Wp w md d pc ls (.inl x :: st) M o M' :=
  ⟨k.1, fun hw p e s m args below meth c k0 z0 H locs la C h1 h2 hR hS hl hv => lv_tableOut C.1.1 C.1.2.1 hd h ht (k.2 hw p e s m args below meth c k0 z0 H locs la C h1 h2 hR hS hl hv)⟩
theorem wp_tableIn {x : Int32} {dflt lo hi off : Int} {offs : Array Int} {len tgt : Nat} (hd : decode (mdC md) pc = .ok (.tableswitch dflt lo hi offs, len)) (j : Nat) (hj : x.toInt = lo + j) (hj2 : lo + j ≤ hi) (ho : offs[j]? = some off) (ht : (pc : Int) + off = (tgt : Int)) (k : Wp w md d tgt ls st M o M') : Wp w md d pc ls (.inl x :: st) M o M' :=
  ⟨k.1, fun hw p e s m args below meth c k0 z0 H locs la C h1 h2 hR hS hl hv => lv_tableIn C.1.1 C.1.2.1 hd (by omega) (by omega) (by rw [hj, show (lo + (j : Int) - lo).toNat = j by omega]; exact ho) ht (k.2 hw p e s m args below meth c k0 z0 H locs la C h1 h2 hR hS hl hv)⟩
end Rules
