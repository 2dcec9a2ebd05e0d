/-! ===== WORLD ===== -/
def R_law : String := "HeatGovernorLaw"
def lw_P (b : Addr) (xs : List Int32) (args : Array Value) (s : State) : Prop := args = #[.ref b] ∧ s.IntsAt b xs ∧ xs.length ≤ 3072 ∧ (Jvm.Cond.and given_1 narrow_1).before args s = true
def lw_Q (_ : Array Value) (s : State) (o : Outcome) (t : State) : Prop := o = .returned (some (.int 1)) ∧ Framed s o t [] 601024 7293034
def lw_Z (below : List Frame) (a : Array Value) (s : State) : State → Prop := fun t => ∃ o, t.status = .running ∧ Ended t below o ∧ lw_Q a s o t
/-- the law's own end, with 1 on the stack, nothing written that was there before, its room as the claim has it -/
theorem lw_ret {p : Program} {l : Launch} {e : Env} {s : State} {m : MethodId} {below : List Frame} {meth : Method} {c : Code} {b : Nat} (hx : p.tables.exec = Jvm.exec) (hb : c.code = code) (hr : meth.sig.returnType = ret) (hlocks : meth.locks = false) {pc : Nat} {H : Heap} {ls : Array Slot} (hdg : decode code pc = .ok (.ireturn, 1)) : W p l e room_1 s m #[Value.ref b] below meth c H [] 601024 7293034 (lw_Z below #[Value.ref b] s) (F0 m pc ls [.int 1]) := by
  intro T hT X
  obtain ⟨fs, hret, hrun, hended, hW, hframe⟩ := X.leave (v := some (.int 1)) (hlocks := hlocks) (fun h => by rw [hr] at h; cases h)
  have hmeth' : T.vm.method? m = some meth := X.method'
  refine ⟨T.setFrames fs, ?_, .returned (some (.int 1)), hrun, hended, rfl, ⟨_, rfl⟩, hW, hframe⟩
  jvm_step X.here [X.here.top, hx, hb, hdg, hmeth', hr, ret, narrow_b1]
  (try refine ⟨rfl, ?_⟩); (try refine ⟨rfl, ?_⟩)
  first | (intro acts; rw [hret _ acts rfl rfl rfl]) | rw [hret _ _ rfl rfl rfl]
  exact Steps.refl _
/-- what holds at the law's entry: the machine, the code, the tables' words (any of lw_tbl by 'hts w (by decide +kernel)'), the script of L ints xs at the cell b, what the Statement gives of the start (any of its parts by flat_of_before) -/
def lw_At (p : Program) (s : State) (m : MethodId) (meth : Method) (c : Code) (b L : Nat) (xs : Nat → Int32) : Prop :=
  p.tables.exec = Jvm.exec ∧ c.code = code ∧ meth.sig.returnType = ret ∧ c.maxLocals = 7 ∧ s.vm.findClass R_law = some m.cls ∧ (∀ w ∈ lw_tbl, w.before #[Value.ref b] s = true) ∧ va_X b L xs s s.heap ∧ b < s.heap.size ∧ meth.locks = false ∧ (Jvm.Cond.and given_1 narrow_1).before #[Value.ref b] s = true
/-! ===== the world at the law's entry, and the law's walk out of what its function answers ===== -/
def strRep : List (String × Nat) := [("HeatGovernor", 77), ("HeatGovernor$Reader", 50), ("HeatGovernor$Reader", 123), ("HeatGovernor$Reader", 125), ("HeatGovernor$Reader", 127), ("HeatGovernor$Reader", 59), ("HeatGovernor$Reader", 165), ("HeatGovernor$Reader", 167), ("HeatGovernor$Reader", 169), ("HeatGovernor$Reader", 171), ("HeatGovernor$Reader", 64), ("HeatGovernor$Reader", 195), ("HeatGovernor$Reader", 197), ("HeatGovernor$Reader", 199), ("HeatGovernor$Reader", 69), ("HeatGovernor$Reader", 74), ("HeatGovernor$Reader", 79), ("HeatGovernor", 153), ("HeatGovernor", 369), ("HeatGovernor", 374), ("HeatGovernor", 376), ("HeatGovernor", 284), ("HeatGovernor", 378), ("HeatGovernorModel", 27)]
def tmS (i : Nat) : Term := Term.string (strRep.getD i ("", 0)).1 (strRep.getD i ("", 0)).2
def narL : List Cond := flatC (Jvm.Cond.and given_1 narrow_1)
def pbS : List Nat := [135, 169, 177, 185, 195, 203, 211, 219, 228, 235, 247, 257, 264, 273, 281, 289, 297, 309, 325, 341, 357, 375, 390, 473]
theorem nar_m {c : Cond} (i : Nat) (h : narL[i]? = some c) : c ∈ narL := List.mem_of_getElem? h
theorem lwt_m {c : Cond} (i : Nat) (h : lw_tbl[i]? = some c) : c ∈ lw_tbl := List.mem_of_getElem? h
set_option maxRecDepth 100000 in
theorem nar_a0 : ∀ i, i < 24 → narL[pbS.getD i 0]? = some (Cond.exactly (tmS i) "java/lang/String") ∧ narL[pbS.getD i 0 + 1]? = some (Cond.eq (.field (tmS i) "java/lang/String" "coder" "B") (.int 0)) ∧ narL[pbS.getD i 0 + 2]? = some (Cond.arrayOf (.field (tmS i) "java/lang/String" "value" "[B") .byte) ∧ narL[pbS.getD i 0 + 3]? = some (Cond.eq (.length (.field (tmS i) "java/lang/String" "value" "[B")) (.int (Int32.ofNat (strLen.getD i 0)))) := by decide +kernel
theorem nar_a : ∀ i, i < 24 → Cond.exactly (tmS i) "java/lang/String" ∈ narL ∧ Cond.eq (.field (tmS i) "java/lang/String" "coder" "B") (.int 0) ∈ narL ∧ Cond.arrayOf (.field (tmS i) "java/lang/String" "value" "[B") .byte ∈ narL ∧ Cond.eq (.length (.field (tmS i) "java/lang/String" "value" "[B")) (.int (Int32.ofNat (strLen.getD i 0))) ∈ narL := fun i hi => by
  obtain ⟨a, b, c, d⟩ := nar_a0 i hi
  exact ⟨nar_m _ a, nar_m _ b, nar_m _ c, nar_m _ d⟩
set_option maxRecDepth 100000 in
theorem nar_b0 : ∀ j, j < strLen.getD 0 0 → narL[pbS.getD 0 0 + 4 + j]? = some (Cond.eq (.elem (.field (tmS 0) "java/lang/String" "value" "[B") (.int (Int32.ofNat j))) (.int ((strByt.getD 0 []).getD j 0))) := by decide +kernel
set_option maxRecDepth 100000 in
theorem nar_b1 : ∀ j, j < strLen.getD 1 0 → narL[pbS.getD 1 0 + 4 + j]? = some (Cond.eq (.elem (.field (tmS 1) "java/lang/String" "value" "[B") (.int (Int32.ofNat j))) (.int ((strByt.getD 1 []).getD j 0))) := by decide +kernel
set_option maxRecDepth 100000 in
theorem nar_b2 : ∀ j, j < strLen.getD 2 0 → narL[pbS.getD 2 0 + 4 + j]? = some (Cond.eq (.elem (.field (tmS 2) "java/lang/String" "value" "[B") (.int (Int32.ofNat j))) (.int ((strByt.getD 2 []).getD j 0))) := by decide +kernel
set_option maxRecDepth 100000 in
theorem nar_b3 : ∀ j, j < strLen.getD 3 0 → narL[pbS.getD 3 0 + 4 + j]? = some (Cond.eq (.elem (.field (tmS 3) "java/lang/String" "value" "[B") (.int (Int32.ofNat j))) (.int ((strByt.getD 3 []).getD j 0))) := by decide +kernel
set_option maxRecDepth 100000 in
theorem nar_b4 : ∀ j, j < strLen.getD 4 0 → narL[pbS.getD 4 0 + 4 + j]? = some (Cond.eq (.elem (.field (tmS 4) "java/lang/String" "value" "[B") (.int (Int32.ofNat j))) (.int ((strByt.getD 4 []).getD j 0))) := by decide +kernel
set_option maxRecDepth 100000 in
theorem nar_b5 : ∀ j, j < strLen.getD 5 0 → narL[pbS.getD 5 0 + 4 + j]? = some (Cond.eq (.elem (.field (tmS 5) "java/lang/String" "value" "[B") (.int (Int32.ofNat j))) (.int ((strByt.getD 5 []).getD j 0))) := by decide +kernel
set_option maxRecDepth 100000 in
theorem nar_b6 : ∀ j, j < strLen.getD 6 0 → narL[pbS.getD 6 0 + 4 + j]? = some (Cond.eq (.elem (.field (tmS 6) "java/lang/String" "value" "[B") (.int (Int32.ofNat j))) (.int ((strByt.getD 6 []).getD j 0))) := by decide +kernel
set_option maxRecDepth 100000 in
theorem nar_b7 : ∀ j, j < strLen.getD 7 0 → narL[pbS.getD 7 0 + 4 + j]? = some (Cond.eq (.elem (.field (tmS 7) "java/lang/String" "value" "[B") (.int (Int32.ofNat j))) (.int ((strByt.getD 7 []).getD j 0))) := by decide +kernel
set_option maxRecDepth 100000 in
theorem nar_b8 : ∀ j, j < strLen.getD 8 0 → narL[pbS.getD 8 0 + 4 + j]? = some (Cond.eq (.elem (.field (tmS 8) "java/lang/String" "value" "[B") (.int (Int32.ofNat j))) (.int ((strByt.getD 8 []).getD j 0))) := by decide +kernel
set_option maxRecDepth 100000 in
theorem nar_b9 : ∀ j, j < strLen.getD 9 0 → narL[pbS.getD 9 0 + 4 + j]? = some (Cond.eq (.elem (.field (tmS 9) "java/lang/String" "value" "[B") (.int (Int32.ofNat j))) (.int ((strByt.getD 9 []).getD j 0))) := by decide +kernel
set_option maxRecDepth 100000 in
theorem nar_b10 : ∀ j, j < strLen.getD 10 0 → narL[pbS.getD 10 0 + 4 + j]? = some (Cond.eq (.elem (.field (tmS 10) "java/lang/String" "value" "[B") (.int (Int32.ofNat j))) (.int ((strByt.getD 10 []).getD j 0))) := by decide +kernel
set_option maxRecDepth 100000 in
theorem nar_b11 : ∀ j, j < strLen.getD 11 0 → narL[pbS.getD 11 0 + 4 + j]? = some (Cond.eq (.elem (.field (tmS 11) "java/lang/String" "value" "[B") (.int (Int32.ofNat j))) (.int ((strByt.getD 11 []).getD j 0))) := by decide +kernel
set_option maxRecDepth 100000 in
theorem nar_b12 : ∀ j, j < strLen.getD 12 0 → narL[pbS.getD 12 0 + 4 + j]? = some (Cond.eq (.elem (.field (tmS 12) "java/lang/String" "value" "[B") (.int (Int32.ofNat j))) (.int ((strByt.getD 12 []).getD j 0))) := by decide +kernel
set_option maxRecDepth 100000 in
theorem nar_b13 : ∀ j, j < strLen.getD 13 0 → narL[pbS.getD 13 0 + 4 + j]? = some (Cond.eq (.elem (.field (tmS 13) "java/lang/String" "value" "[B") (.int (Int32.ofNat j))) (.int ((strByt.getD 13 []).getD j 0))) := by decide +kernel
set_option maxRecDepth 100000 in
theorem nar_b14 : ∀ j, j < strLen.getD 14 0 → narL[pbS.getD 14 0 + 4 + j]? = some (Cond.eq (.elem (.field (tmS 14) "java/lang/String" "value" "[B") (.int (Int32.ofNat j))) (.int ((strByt.getD 14 []).getD j 0))) := by decide +kernel
set_option maxRecDepth 100000 in
theorem nar_b15 : ∀ j, j < strLen.getD 15 0 → narL[pbS.getD 15 0 + 4 + j]? = some (Cond.eq (.elem (.field (tmS 15) "java/lang/String" "value" "[B") (.int (Int32.ofNat j))) (.int ((strByt.getD 15 []).getD j 0))) := by decide +kernel
set_option maxRecDepth 100000 in
theorem nar_b16 : ∀ j, j < strLen.getD 16 0 → narL[pbS.getD 16 0 + 4 + j]? = some (Cond.eq (.elem (.field (tmS 16) "java/lang/String" "value" "[B") (.int (Int32.ofNat j))) (.int ((strByt.getD 16 []).getD j 0))) := by decide +kernel
set_option maxRecDepth 100000 in
theorem nar_b17 : ∀ j, j < strLen.getD 17 0 → narL[pbS.getD 17 0 + 4 + j]? = some (Cond.eq (.elem (.field (tmS 17) "java/lang/String" "value" "[B") (.int (Int32.ofNat j))) (.int ((strByt.getD 17 []).getD j 0))) := by decide +kernel
set_option maxRecDepth 100000 in
theorem nar_b18 : ∀ j, j < strLen.getD 18 0 → narL[pbS.getD 18 0 + 4 + j]? = some (Cond.eq (.elem (.field (tmS 18) "java/lang/String" "value" "[B") (.int (Int32.ofNat j))) (.int ((strByt.getD 18 []).getD j 0))) := by decide +kernel
set_option maxRecDepth 100000 in
theorem nar_b19 : ∀ j, j < strLen.getD 19 0 → narL[pbS.getD 19 0 + 4 + j]? = some (Cond.eq (.elem (.field (tmS 19) "java/lang/String" "value" "[B") (.int (Int32.ofNat j))) (.int ((strByt.getD 19 []).getD j 0))) := by decide +kernel
set_option maxRecDepth 100000 in
theorem nar_b20 : ∀ j, j < strLen.getD 20 0 → narL[pbS.getD 20 0 + 4 + j]? = some (Cond.eq (.elem (.field (tmS 20) "java/lang/String" "value" "[B") (.int (Int32.ofNat j))) (.int ((strByt.getD 20 []).getD j 0))) := by decide +kernel
set_option maxRecDepth 100000 in
theorem nar_b21 : ∀ j, j < strLen.getD 21 0 → narL[pbS.getD 21 0 + 4 + j]? = some (Cond.eq (.elem (.field (tmS 21) "java/lang/String" "value" "[B") (.int (Int32.ofNat j))) (.int ((strByt.getD 21 []).getD j 0))) := by decide +kernel
set_option maxRecDepth 100000 in
theorem nar_b22 : ∀ j, j < strLen.getD 22 0 → narL[pbS.getD 22 0 + 4 + j]? = some (Cond.eq (.elem (.field (tmS 22) "java/lang/String" "value" "[B") (.int (Int32.ofNat j))) (.int ((strByt.getD 22 []).getD j 0))) := by decide +kernel
set_option maxRecDepth 100000 in
theorem nar_b23 : ∀ j, j < strLen.getD 23 0 → narL[pbS.getD 23 0 + 4 + j]? = some (Cond.eq (.elem (.field (tmS 23) "java/lang/String" "value" "[B") (.int (Int32.ofNat j))) (.int ((strByt.getD 23 []).getD j 0))) := by decide +kernel
theorem nar_b : ∀ i, i < 24 → ∀ j, j < strLen.getD i 0 → Cond.eq (.elem (.field (tmS i) "java/lang/String" "value" "[B") (.int (Int32.ofNat j))) (.int ((strByt.getD i []).getD j 0)) ∈ narL := by
  intro i hi j hj
  match i, hi with
  | 0, _ => exact nar_m _ (nar_b0 j hj)
  | 1, _ => exact nar_m _ (nar_b1 j hj)
  | 2, _ => exact nar_m _ (nar_b2 j hj)
  | 3, _ => exact nar_m _ (nar_b3 j hj)
  | 4, _ => exact nar_m _ (nar_b4 j hj)
  | 5, _ => exact nar_m _ (nar_b5 j hj)
  | 6, _ => exact nar_m _ (nar_b6 j hj)
  | 7, _ => exact nar_m _ (nar_b7 j hj)
  | 8, _ => exact nar_m _ (nar_b8 j hj)
  | 9, _ => exact nar_m _ (nar_b9 j hj)
  | 10, _ => exact nar_m _ (nar_b10 j hj)
  | 11, _ => exact nar_m _ (nar_b11 j hj)
  | 12, _ => exact nar_m _ (nar_b12 j hj)
  | 13, _ => exact nar_m _ (nar_b13 j hj)
  | 14, _ => exact nar_m _ (nar_b14 j hj)
  | 15, _ => exact nar_m _ (nar_b15 j hj)
  | 16, _ => exact nar_m _ (nar_b16 j hj)
  | 17, _ => exact nar_m _ (nar_b17 j hj)
  | 18, _ => exact nar_m _ (nar_b18 j hj)
  | 19, _ => exact nar_m _ (nar_b19 j hj)
  | 20, _ => exact nar_m _ (nar_b20 j hj)
  | 21, _ => exact nar_m _ (nar_b21 j hj)
  | 22, _ => exact nar_m _ (nar_b22 j hj)
  | 23, _ => exact nar_m _ (nar_b23 j hj)
def pcS : List Nat := [9999, 9999, 9999, 9999, 9999, 9999, 9999, 9999, 9999, 9999, 9999, 9999, 9999, 9999, 9999, 9999, 9999, 9999, 9999, 9999, 9999, 9999, 9999, 421, 430, 441, 450, 459, 472, 9999, 488, 499, 508, 517, 527, 535, 548, 556, 566, 575]
def pdS : List Nat := [906, 954, 1031, 1032, 1033, 1042, 1055, 1056, 1057, 1058, 1064, 1073, 1074, 1075, 1076, 1093, 1098, 1191, 1209, 1233, 1246, 1266, 1282, 1385, 1386, 1387, 1388, 1389, 1390, 1391, 1392, 1393, 1394, 1395, 1396, 1397, 1398, 1399, 1400, 1401]
set_option maxRecDepth 100000 in
theorem nar_c0 : ∀ k, k < 40 → (2 ≤ (strT.getD k ("", 0, "", 0)).2.2.2 ∧ (strT.getD k ("", 0, "", 0)).2.2.2 < 26) ∧ (((strT.getD k ("", 0, "", 0)).1, (strT.getD k ("", 0, "", 0)).2.1) = strRep.getD ((strT.getD k ("", 0, "", 0)).2.2.2 - 2) ("", 0) ∨ narL[pcS.getD k 0]? = some (Cond.eq (tmS ((strT.getD k ("", 0, "", 0)).2.2.2 - 2)) (Term.string (strT.getD k ("", 0, "", 0)).1 (strT.getD k ("", 0, "", 0)).2.1))) := by decide +kernel
set_option maxRecDepth 100000 in
theorem nar_d0 : ∀ k, k < 40 → lw_tbl[pdS.getD k 0]? = some (Cond.stringRef (strT.getD k ("", 0, "", 0)).1 (strT.getD k ("", 0, "", 0)).2.1 (strT.getD k ("", 0, "", 0)).2.2.1) := by decide +kernel
theorem strT_at {q : String × Nat × String × Nat} (h : q ∈ strT) : ∃ k, k < 40 ∧ strT.getD k ("", 0, "", 0) = q := by
  obtain ⟨k, hk, e⟩ := List.getElem_of_mem h
  exact ⟨k, hk, by rw [List.getD_eq_getElem?_getD, List.getElem?_eq_getElem hk, e]; rfl⟩
theorem nar_c : ∀ q ∈ strT, (2 ≤ q.2.2.2 ∧ q.2.2.2 < 26) ∧ ((q.1, q.2.1) = strRep.getD (q.2.2.2 - 2) ("", 0) ∨ Cond.eq (tmS (q.2.2.2 - 2)) (Term.string q.1 q.2.1) ∈ narL) := fun q hq => by
  obtain ⟨k, hk, e⟩ := strT_at hq
  have := nar_c0 k hk
  rw [e] at this
  exact ⟨this.1, this.2.imp id (nar_m _)⟩
theorem nar_d : ∀ q ∈ strT, Cond.stringRef q.1 q.2.1 q.2.2.1 ∈ lw_tbl := fun q hq => by
  obtain ⟨k, hk, e⟩ := strT_at hq
  have := nar_d0 k hk
  rw [e] at this
  exact lwt_m _ this
set_option maxRecDepth 100000 in
theorem nar_e : Cond.isRef (.static Bundle.tN "UNASSIGNED_STACK" Bundle.steD) ∈ narL ∧ Cond.isRef (.static Bundle.tN "SUPPRESSED_SENTINEL" Bundle.listD) ∈ narL ∧ Cond.eq (.static "java/lang/String" "COMPACT_STRINGS" "Z") (.int 1) ∈ narL ∧ Cond.isRef (.static "jdk/internal/util/Preconditions" "SIOOBE_FORMATTER" "Ljava/util/function/BiFunction;") ∈ narL ∧ Cond.not (.castable eIAE eNSE) ∈ narL := ⟨nar_m 4 (by decide +kernel), nar_m 5 (by decide +kernel), nar_m 6 (by decide +kernel), nar_m 7 (by decide +kernel), nar_m 38 (by decide +kernel)⟩
set_option maxRecDepth 100000 in
theorem tb_e : (Cond.laysStatic Bundle.tN "UNASSIGNED_STACK" Bundle.steD ∈ lw_tbl ∧ Cond.laysStatic Bundle.tN "SUPPRESSED_SENTINEL" Bundle.listD ∈ lw_tbl ∧ Cond.initialized Bundle.tN ∈ lw_tbl) ∧ (Cond.laysStatic "java/lang/String" "COMPACT_STRINGS" "Z" ∈ lw_tbl ∧ Cond.initialized "java/lang/String" ∈ lw_tbl) ∧ (Cond.laysStatic "jdk/internal/util/Preconditions" "SIOOBE_FORMATTER" "Ljava/util/function/BiFunction;" ∈ lw_tbl ∧ Cond.initialized "jdk/internal/util/Preconditions" ∈ lw_tbl) := ⟨⟨lwt_m 893 (by decide +kernel), lwt_m 895 (by decide +kernel), lwt_m 125 (by decide +kernel)⟩, ⟨lwt_m 968 (by decide +kernel), lwt_m 130 (by decide +kernel)⟩, lwt_m 984 (by decide +kernel), lwt_m 132 (by decide +kernel)⟩
theorem obi_all : ∀ c, c < 13 → Cond.instantiable (cW c) (nfW c) ∈ gtbl := by
  intro c hc
  match c, hc with
  | 0, _ => exact obi_0
  | 1, _ => exact obi_1
  | 2, _ => exact obi_2
  | 3, _ => exact obi_3
  | 4, _ => exact obi_4
  | 5, _ => exact obi_5
  | 6, _ => exact obi_6
  | 7, _ => exact obi_7
  | 8, _ => exact obi_8
  | 9, _ => exact obi_9
  | 10, _ => exact obi_10
  | 11, _ => exact obi_11
  | 12, _ => exact obi_12
set_option maxRecDepth 100000 in
theorem tb_x : Cond.instantiable eNSE 6 ∈ lw_tbl ∧ Cond.instantiable eIAE 6 ∈ lw_tbl := ⟨lwt_m 1183 (by decide +kernel), lwt_m 867 (by decide +kernel)⟩
theorem mkWorld {p : Program} {s : State} {m : MethodId} {meth : Method} {c : Code} (l : Launch) (hflags : l.flags = flags0) {b L : Nat} {xs : Nat → Int32} (C0 : lw_At p s m meth c b L xs) : ∃ w : Gw, w.1 = s ∧ w.2.1 = l ∧ rho w 1 = b ∧ Wok w := by
  obtain ⟨hx, hb, hr, hml, hown, hts, hX, hbl, hlocks, hgv⟩ := C0
  have hnar : ∀ t ∈ narL, t.before #[Value.ref b] s = true := flat_of_before _ hgv
  have hcl : ∀ c : Nat, ∃ q : ClassId × (Nat → Nat), ∀ r : vw_C, clW[c]? = some r → u_Kn s r.1 r.2.1 r.2.2 q.1 q.2 := by
    intro c
    by_cases hc : c < 13
    · obtain ⟨cC, iS, h⟩ := u_known (C := cW c) (T := fW c) (N := nfW c) (n := nfW c) hts (fun t ht => (List.mem_filter.mp (inW c hc t ht)).1) (hts _ (List.mem_filter.mp (obi_all c hc)).1)
      exact ⟨(cC, iS), fun r hr => by rw [clW_at c hc] at hr; cases hr; exact h⟩
    · by_cases h13 : c = 13
      · subst h13
        obtain ⟨cC, iS, h⟩ := u_known (C := eNSE) (T := TXE) (N := 0) (n := 6) hts (fun t ht => nomatch ht) (hts _ tb_x.1)
        exact ⟨(cC, iS), fun r hr => by cases hr; exact h⟩
      · by_cases h14 : c = 14
        · subst h14
          obtain ⟨cC, iS, h⟩ := u_known (C := eIAE) (T := TXE) (N := 0) (n := 6) hts (fun t ht => nomatch ht) (hts _ tb_x.2)
          exact ⟨(cC, iS), fun r hr => by cases hr; exact h⟩
        · exact ⟨(0, fun _ => 0), fun r hr => by rw [List.getElem?_eq_none (by show 15 ≤ c; omega)] at hr; cases hr⟩
  have har : ∀ j : Nat, ∃ cA : ClassId, j < 11 → ArrOfT s cA (tyA j) ∧ va_RA s cA (tyA j) := by
    have prim : ∀ ty : FieldType, Cond.arrayClass ty ∈ gtbl → ∃ cA : ClassId, ArrOfT s cA ty ∧ s.vm.findClass ("[" ++ ty.toString) = some cA := fun ty ht => by
      obtain ⟨c, k, comp, g1, g2, g3⟩ := Cond.arrayClass_spec (hts _ (List.mem_filter.mp ht).1)
      exact ⟨c, fun n z => ⟨fun k h => (by cases h), k, g2, comp, g3⟩, g1⟩
    have obj : ∀ C : String, Cond.arrayOver (.object C) ∈ lw_tbl → ∃ cA : ClassId, ArrOfT s cA (.object C) ∧ va_RA s cA (.object C) := fun C ht => by
      obtain ⟨comp, c, k, g1, -, g3, g4, g5⟩ := Cond.arrayOver_spec (hts _ ht)
      exact ⟨c, fun n z => ⟨fun k h => (by cases h), k, g3, comp, g4⟩, k, comp, g3, g4, g1, g5⟩
    intro j
    match j with
    | 0 => obtain ⟨cA, g1, g2⟩ := prim .int ac_int; exact ⟨cA, fun _ => ⟨g1, g2⟩⟩
    | 1 => obtain ⟨cA, g1, g2⟩ := prim .byte ac_byte; exact ⟨cA, fun _ => ⟨g1, g2⟩⟩
    | 2 => obtain ⟨cA, g1, g2⟩ := prim .boolean ac_boolean; exact ⟨cA, fun _ => ⟨g1, g2⟩⟩
    | 3 => obtain ⟨cA, g1, g2⟩ := prim .long ac_long; exact ⟨cA, fun _ => ⟨g1, g2⟩⟩
    | 4 => obtain ⟨cA, g⟩ := obj _ ao_4; exact ⟨cA, fun _ => g⟩
    | 5 => obtain ⟨cA, g⟩ := obj _ ao_5; exact ⟨cA, fun _ => g⟩
    | 6 => obtain ⟨cA, g⟩ := obj _ ao_6; exact ⟨cA, fun _ => g⟩
    | 7 => obtain ⟨cA, g⟩ := obj _ ao_7; exact ⟨cA, fun _ => g⟩
    | 8 => obtain ⟨cA, g⟩ := obj _ ao_8; exact ⟨cA, fun _ => g⟩
    | 9 => obtain ⟨cA, g⟩ := obj _ ao_9; exact ⟨cA, fun _ => g⟩
    | 10 => obtain ⟨cA, g⟩ := obj _ ao_10; exact ⟨cA, fun _ => g⟩
    | n + 11 => exact ⟨0, fun h => absurd h (by omega)⟩
  generalize hA0 : (fun q : Nat => s.heap.size ≤ q) = A
  have hA : ∀ a : Nat, a < s.heap.size → ¬ A a := fun a h => by rw [← hA0]; exact Nat.not_le.mpr h
  have hst : ∀ i : Nat, ∃ q : Nat × Nat, i < 24 → (tmS i).eval #[Value.ref b] s none [] s = some (.ref q.1) ∧ va_O "java/lang/String" q.1 A s s.heap ∧ va_OF "java/lang/String" "coder" "B" (.int 0) q.1 A s s.heap ∧ va_OF "java/lang/String" "value" "[B" (.ref q.2) q.1 A s s.heap ∧ va_T .byte q.2 (strLen.getD i 0) (fun j => .int ((strByt.getD i []).getD j 0)) A s s.heap := by
    intro i
    by_cases hi : i < 24
    · obtain ⟨n1, n2, n3, n4⟩ := nar_a i hi
      obtain ⟨a, c, cA, kA, q1, q2, q3, q4, q5, q6, -⟩ := Cond.exactly_spec (args := #[Value.ref b]) (first := s) (o := none) (s := s) (idx := []) (t := tmS i) (cls := "java/lang/String") (hnar _ n1)
      obtain ⟨t, ht, hT⟩ := va_Tof (f := fun j => .int ((strByt.getD i []).getD j 0)) (A := A) (Nat.lt_trans (strLen_ok i hi) (by decide)) (hnar _ n3) (va_eqt (hnar _ n4)) (fun j hj => va_eqt (hnar _ (nar_b i hi j hj))) hA
      exact ⟨(a, t), fun _ => ⟨q1, ⟨cA, q3, q5, by rw [q6]; exact q2, hA a (Array.getElem?_eq_some_iff.mp q3).1⟩, vk_OFof q1 (va_eqt (hnar _ n2)) hA, vk_OFof q1 ht hA, hT⟩⟩
    · exact ⟨(0, 0), fun h => absurd h hi⟩
  obtain ⟨fc, hfc⟩ := Classical.axiomOfChoice hcl
  obtain ⟨fa, hfa⟩ := Classical.axiomOfChoice har
  obtain ⟨fs, hfs⟩ := Classical.axiomOfChoice hst
  obtain ⟨ne1, ne2, ne3, ne4, ne5⟩ := nar_e
  obtain ⟨⟨te1, te2, te3⟩, ⟨te4, te5⟩, te6, te7⟩ := tb_e
  have hfm := va_Zqof (A := A) (hts _ te6) (hts _ te7) (hnar _ ne4) hA
  obtain ⟨t50, f50, hf50, hv50⟩ : ∃ (t50 f50 : Nat), (f50 = 0 ∨ f50 = 50) ∧ va_Z "jdk/internal/util/Preconditions" "SIOOBE_FORMATTER" "Ljava/util/function/BiFunction;" (if f50 = 0 then .null else .ref t50) A s s.heap := by
    rcases hfm with h | ⟨t, h⟩
    · exact ⟨0, 0, Or.inl rfl, h⟩
    · exact ⟨t, 50, Or.inr rfl, h⟩
  generalize hlow : (fun a : Nat => if a = 1 then b else if a < 26 then (fs (a - 2)).1 else if a < 50 then (fs (a - 26)).2 else t50) = low
  have l1 : low 1 = b := by rw [← hlow]; rfl
  have l2 : ∀ i, i < 24 → low (2 + i) = (fs i).1 := fun i hi => by
    rw [← hlow]
    show (if 2 + i = 1 then b else if 2 + i < 26 then _ else _) = _
    rw [if_neg (by omega), if_pos (by omega), show 2 + i - 2 = i by omega]
  have l3 : ∀ i, i < 24 → low (26 + i) = (fs i).2 := fun i hi => by
    rw [← hlow]
    show (if 26 + i = 1 then b else if 26 + i < 26 then _ else if 26 + i < 50 then _ else _) = _
    rw [if_neg (by omega), if_neg (by omega), if_pos (by omega), show 26 + i - 26 = i by omega]
  have l5 : low 50 = t50 := by rw [← hlow]; rfl
  refine ⟨(s, l, low, (fun c => (fc c).1, fun c => (fc c).2), fa), rfl, rfl, by unfold rho; rw [if_pos (by decide)]; exact l1, ?_⟩
  have hFr : Fr (s, l, low, ((fun c => (fc c).1, fun c => (fc c).2) : va_G), fa) = A := hA0
  have hr1 : rho (s, l, low, ((fun c => (fc c).1, fun c => (fc c).2) : va_G), fa) 1 = b := by unfold rho; rw [if_pos (by decide)]; exact l1
  refine ⟨⟨fun c q hq => hfc c q hq, fun k q hk => ?_⟩, ?_, ?_, ?_, ?_, ?_, ?_, ?_, ?_, ?_⟩
  · have hk11 : k < 11 := by
      have := (List.getElem?_eq_some_iff.mp hk).1
      simpa [tysW] using this
    rw [tysW_at _ hk11] at hk
    cases hk
    exact hfa k hk11
  · show l.stackTraces = false
    unfold Launch.stackTraces
    rw [hflags]
    decide +kernel
  · rw [hFr]; exact vx_Zqof (hts _ te1) (hts _ te3) (hnar _ ne1) hA
  · rw [hFr]; exact vx_Zqof (hts _ te2) (hts _ te3) (hnar _ ne2) hA
  · rw [hr1]; exact hts
  · intro q hq
    obtain ⟨⟨g1, g2⟩, g3⟩ := nar_c q hq
    have hev : (Term.string q.1 q.2.1).eval #[Value.ref b] s none [] s = some (.ref (fs (q.2.2.2 - 2)).1) := by
      have h0 := (hfs (q.2.2.2 - 2) (by omega)).1
      rcases g3 with g3 | g3
      · unfold tmS at h0
        rw [← g3] at h0
        exact h0
      · exact va_eqR (hnar _ g3) h0
    have hrq : rho (s, l, low, ((fun c => (fc c).1, fun c => (fc c).2) : va_G), fa) q.2.2.2 = (fs (q.2.2.2 - 2)).1 := by
      unfold rho
      rw [if_pos (by omega)]
      have := l2 (q.2.2.2 - 2) (by omega)
      rw [show 2 + (q.2.2.2 - 2) = q.2.2.2 by omega] at this
      exact this
    rw [hrq]
    exact vk_R.of (hts _ (nar_d q hq)) hev
  · intro i hi
    rw [hFr]
    show va_O _ (low (2 + i)) _ _ _ ∧ va_OF _ _ _ _ (low (2 + i)) _ _ _ ∧ va_OF _ _ _ (.ref (low (26 + i))) (low (2 + i)) _ _ _ ∧ va_T _ (low (26 + i)) _ _ _ _ _
    rw [l2 i hi, l3 i hi]
    exact (hfs i hi).2
  · rw [hFr]; exact va_Zof (hts _ te4) (hts _ te5) (va_eqt (hnar _ ne3)) hA
  · rw [hr1]; exact hnar _ ne5
  · refine ⟨f50, hf50, ?_⟩
    rw [hFr]
    rcases hf50 with rfl | rfl
    · exact hv50
    · have e9 : rv (s, l, low, ((fun c => (fc c).1, fun c => (fc c).2) : va_G), fa) (.inr 50) = .ref t50 := by
        rw [rv_ref _ (by decide)]; unfold rho; rw [if_pos (by decide)]; exact congrArg Value.ref l5
      rw [e9]; exact hv50
