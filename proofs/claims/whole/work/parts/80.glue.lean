/-! ===== the world at the law's entry, and the law's walk out of what its function answers ===== -/
def M00 : Gm := (fun _ _ => 0, fun _ _ => 0, List.replicate 64 (31, 0))
def strRep : List (String × Nat) := [("HeatGovernor", 77), ("HeatGovernor$Reader", 50), ("HeatGovernor$Reader", 123), ("HeatGovernor$Reader", 125), ("HeatGovernor$Reader", 127), ("HeatGovernor$Reader", 59), ("HeatGovernor$Reader", 165), ("HeatGovernor$Reader", 167), ("HeatGovernor$Reader", 169), ("HeatGovernor$Reader", 171), ("HeatGovernor$Reader", 64), ("HeatGovernor$Reader", 195), ("HeatGovernor$Reader", 197), ("HeatGovernor$Reader", 199), ("HeatGovernor$Reader", 69), ("HeatGovernor$Reader", 74), ("HeatGovernor$Reader", 79), ("HeatGovernor", 153), ("HeatGovernor", 369), ("HeatGovernor", 374), ("HeatGovernor", 376), ("HeatGovernor", 284), ("HeatGovernor", 378), ("HeatGovernorModel", 27)]
def tmS (i : Nat) : Term := Term.string (strRep.getD i ("", 0)).1 (strRep.getD i ("", 0)).2
def narL : List Cond := flatC (Jvm.Cond.and given_1 narrow_1)
set_option maxRecDepth 100000 in
theorem nar_a : ∀ i, i < 24 → Cond.exactly (tmS i) "java/lang/String" ∈ narL ∧ Cond.eq (.field (tmS i) "java/lang/String" "coder" "B") (.int 0) ∈ narL ∧ Cond.arrayOf (.field (tmS i) "java/lang/String" "value" "[B") .byte ∈ narL ∧ Cond.eq (.length (.field (tmS i) "java/lang/String" "value" "[B")) (.int (Int32.ofNat (strLen.getD i 0))) ∈ narL := by decide +kernel
set_option maxRecDepth 100000 in
theorem nar_b : ∀ i, i < 24 → ∀ j, j < strLen.getD i 0 → Cond.eq (.elem (.field (tmS i) "java/lang/String" "value" "[B") (.int (Int32.ofNat j))) (.int ((strByt.getD i []).getD j 0)) ∈ narL := by decide +kernel
set_option maxRecDepth 100000 in
theorem nar_c : ∀ q ∈ strT, (2 ≤ q.2.2.2 ∧ q.2.2.2 < 26) ∧ ((q.1, q.2.1) = strRep.getD (q.2.2.2 - 2) ("", 0) ∨ Cond.eq (tmS (q.2.2.2 - 2)) (Term.string q.1 q.2.1) ∈ narL) := by decide +kernel
set_option maxRecDepth 100000 in
theorem nar_d : ∀ q ∈ strT, Cond.stringRef q.1 q.2.1 q.2.2.1 ∈ lw_tbl := by decide +kernel
theorem nar_e : Cond.isRef (.static Bundle.tN "UNASSIGNED_STACK" Bundle.steD) ∈ narL ∧ Cond.isRef (.static Bundle.tN "SUPPRESSED_SENTINEL" Bundle.listD) ∈ narL ∧ Cond.eq (.static "java/lang/String" "COMPACT_STRINGS" "Z") (.int 1) ∈ narL ∧ Cond.isRef (.static "jdk/internal/util/Preconditions" "SIOOBE_FORMATTER" "Ljava/util/function/BiFunction;") ∈ narL ∧ Cond.not (.castable eIAE eNSE) ∈ narL := by decide +kernel
theorem tb_e : (Cond.laysStatic Bundle.tN "UNASSIGNED_STACK" Bundle.steD ∈ lw_tbl ∧ Cond.laysStatic Bundle.tN "SUPPRESSED_SENTINEL" Bundle.listD ∈ lw_tbl ∧ Cond.initialized Bundle.tN ∈ lw_tbl) ∧ (Cond.laysStatic "java/lang/String" "COMPACT_STRINGS" "Z" ∈ lw_tbl ∧ Cond.initialized "java/lang/String" ∈ lw_tbl) ∧ (Cond.laysStatic "jdk/internal/util/Preconditions" "SIOOBE_FORMATTER" "Ljava/util/function/BiFunction;" ∈ lw_tbl ∧ Cond.initialized "jdk/internal/util/Preconditions" ∈ lw_tbl) := by decide +kernel
theorem obi_all : ∀ c, c < 13 → Cond.instantiable (cW c) (nfW c) ∈ gtbl := by
  intro c hc
  match c, hc with
  | 0, _ => exact obi_0
  | 1, _ => exact obi_1
  | 2, _ => exact obi_2
  | 3, _ => exact obi_3
  | 4, _ => exact obi_4
  | 5, _ => exact obi_5
  | 6, _ => exact obi_6
  | 7, _ => exact obi_7
  | 8, _ => exact obi_8
  | 9, _ => exact obi_9
  | 10, _ => exact obi_10
  | 11, _ => exact obi_11
  | 12, _ => exact obi_12
theorem tb_x : Cond.instantiable eNSE 6 ∈ lw_tbl ∧ Cond.instantiable eIAE 6 ∈ lw_tbl := by decide +kernel
theorem mkWorld {p : Program} {s : State} {m : MethodId} {meth : Method} {c : Code} (l : Launch) (hflags : l.flags = flags0) {b L : Nat} {xs : Nat → Int32} (C0 : lw_At p s m meth c b L xs) : ∃ w : Gw, w.1 = s ∧ w.2.1 = l ∧ rho w 1 = b ∧ Wok w := by
  obtain ⟨hx, hb, hr, hml, hown, hts, hX, hbl, hlocks, hgv⟩ := C0
  have hnar : ∀ t ∈ narL, t.before #[Value.ref b] s = true := flat_of_before _ hgv
  have hcl : ∀ c : Nat, ∃ q : ClassId × (Nat → Nat), ∀ r : vw_C, clW[c]? = some r → u_Kn s r.1 r.2.1 r.2.2 q.1 q.2 := by
    intro c
    by_cases hc : c < 13
    · obtain ⟨cC, iS, h⟩ := u_known (C := cW c) (T := fW c) (N := nfW c) (n := nfW c) hts (fun t ht => (List.mem_filter.mp (inW c hc t ht)).1) (hts _ (List.mem_filter.mp (obi_all c hc)).1)
      exact ⟨(cC, iS), fun r hr => by rw [clW_at c hc] at hr; cases hr; exact h⟩
    · by_cases h13 : c = 13
      · subst h13
        obtain ⟨cC, iS, h⟩ := u_known (C := eNSE) (T := TXE) (N := 0) (n := 6) hts (fun t ht => nomatch ht) (hts _ tb_x.1)
        exact ⟨(cC, iS), fun r hr => by cases hr; exact h⟩
      · by_cases h14 : c = 14
        · subst h14
          obtain ⟨cC, iS, h⟩ := u_known (C := eIAE) (T := TXE) (N := 0) (n := 6) hts (fun t ht => nomatch ht) (hts _ tb_x.2)
          exact ⟨(cC, iS), fun r hr => by cases hr; exact h⟩
        · exact ⟨(0, fun _ => 0), fun r hr => by rw [List.getElem?_eq_none (by show 15 ≤ c; omega)] at hr; cases hr⟩
  have har : ∀ j : Nat, ∃ cA : ClassId, j < 11 → ArrOfT s cA (tyA j) ∧ va_RA s cA (tyA j) := by
    have prim : ∀ ty : FieldType, Cond.arrayClass ty ∈ gtbl → ∃ cA : ClassId, ArrOfT s cA ty ∧ s.vm.findClass ("[" ++ ty.toString) = some cA := fun ty ht => by
      obtain ⟨c, k, comp, g1, g2, g3⟩ := Cond.arrayClass_spec (hts _ (List.mem_filter.mp ht).1)
      exact ⟨c, fun n z => ⟨fun k h => (by cases h), k, g2, comp, g3⟩, g1⟩
    have obj : ∀ C : String, Cond.arrayOver (.object C) ∈ lw_tbl → ∃ cA : ClassId, ArrOfT s cA (.object C) ∧ va_RA s cA (.object C) := fun C ht => by
      obtain ⟨comp, c, k, g1, -, g3, g4, g5⟩ := Cond.arrayOver_spec (hts _ ht)
      exact ⟨c, fun n z => ⟨fun k h => (by cases h), k, g3, comp, g4⟩, k, comp, g3, g4, g1, g5⟩
    intro j
    match j with
    | 0 => obtain ⟨cA, g1, g2⟩ := prim .int ac_int; exact ⟨cA, fun _ => ⟨g1, g2⟩⟩
    | 1 => obtain ⟨cA, g1, g2⟩ := prim .byte ac_byte; exact ⟨cA, fun _ => ⟨g1, g2⟩⟩
    | 2 => obtain ⟨cA, g1, g2⟩ := prim .boolean ac_boolean; exact ⟨cA, fun _ => ⟨g1, g2⟩⟩
    | 3 => obtain ⟨cA, g1, g2⟩ := prim .long ac_long; exact ⟨cA, fun _ => ⟨g1, g2⟩⟩
    | 4 => obtain ⟨cA, g⟩ := obj _ ao_4; exact ⟨cA, fun _ => g⟩
    | 5 => obtain ⟨cA, g⟩ := obj _ ao_5; exact ⟨cA, fun _ => g⟩
    | 6 => obtain ⟨cA, g⟩ := obj _ ao_6; exact ⟨cA, fun _ => g⟩
    | 7 => obtain ⟨cA, g⟩ := obj _ ao_7; exact ⟨cA, fun _ => g⟩
    | 8 => obtain ⟨cA, g⟩ := obj _ ao_8; exact ⟨cA, fun _ => g⟩
    | 9 => obtain ⟨cA, g⟩ := obj _ ao_9; exact ⟨cA, fun _ => g⟩
    | 10 => obtain ⟨cA, g⟩ := obj _ ao_10; exact ⟨cA, fun _ => g⟩
    | n + 11 => exact ⟨0, fun h => absurd h (by omega)⟩
  generalize hA0 : (fun q : Nat => s.heap.size ≤ q) = A
  have hA : ∀ a : Nat, a < s.heap.size → ¬ A a := fun a h => by rw [← hA0]; exact Nat.not_le.mpr h
  have hst : ∀ i : Nat, ∃ q : Nat × Nat, i < 24 → (tmS i).eval #[Value.ref b] s none [] s = some (.ref q.1) ∧ va_O "java/lang/String" q.1 A s s.heap ∧ va_OF "java/lang/String" "coder" "B" (.int 0) q.1 A s s.heap ∧ va_OF "java/lang/String" "value" "[B" (.ref q.2) q.1 A s s.heap ∧ va_T .byte q.2 (strLen.getD i 0) (fun j => .int ((strByt.getD i []).getD j 0)) A s s.heap := by
    intro i
    by_cases hi : i < 24
    · obtain ⟨n1, n2, n3, n4⟩ := nar_a i hi
      obtain ⟨a, c, cA, kA, q1, q2, q3, q4, q5, q6, -⟩ := Cond.exactly_spec (args := #[Value.ref b]) (first := s) (o := none) (s := s) (idx := []) (t := tmS i) (cls := "java/lang/String") (hnar _ n1)
      obtain ⟨t, ht, hT⟩ := va_Tof (f := fun j => .int ((strByt.getD i []).getD j 0)) (A := A) (Nat.lt_trans (strLen_ok i hi) (by decide)) (hnar _ n3) (va_eqt (hnar _ n4)) (fun j hj => va_eqt (hnar _ (nar_b i hi j hj))) hA
      exact ⟨(a, t), fun _ => ⟨q1, ⟨cA, q3, q5, by rw [q6]; exact q2, hA a (Array.getElem?_eq_some_iff.mp q3).1⟩, vk_OFof q1 (va_eqt (hnar _ n2)) hA, vk_OFof q1 ht hA, hT⟩⟩
    · exact ⟨(0, 0), fun h => absurd h hi⟩
  obtain ⟨fc, hfc⟩ := Classical.axiomOfChoice hcl
  obtain ⟨fa, hfa⟩ := Classical.axiomOfChoice har
  obtain ⟨fs, hfs⟩ := Classical.axiomOfChoice hst
  obtain ⟨ne1, ne2, ne3, ne4, ne5⟩ := nar_e
  obtain ⟨⟨te1, te2, te3⟩, ⟨te4, te5⟩, te6, te7⟩ := tb_e
  have hfm := va_Zqof (A := A) (hts _ te6) (hts _ te7) (hnar _ ne4) hA
  obtain ⟨t50, f50, hf50, hv50⟩ : ∃ (t50 f50 : Nat), (f50 = 0 ∨ f50 = 50) ∧ va_Z "jdk/internal/util/Preconditions" "SIOOBE_FORMATTER" "Ljava/util/function/BiFunction;" (if f50 = 0 then .null else .ref t50) A s s.heap := by
    rcases hfm with h | ⟨t, h⟩
    · exact ⟨0, 0, Or.inl rfl, h⟩
    · exact ⟨t, 50, Or.inr rfl, h⟩
  generalize hlow : (fun a : Nat => if a = 1 then b else if a < 26 then (fs (a - 2)).1 else if a < 50 then (fs (a - 26)).2 else t50) = low
  have l1 : low 1 = b := by rw [← hlow]; rfl
  have l2 : ∀ i, i < 24 → low (2 + i) = (fs i).1 := fun i hi => by
    rw [← hlow]
    show (if 2 + i = 1 then b else if 2 + i < 26 then _ else _) = _
    rw [if_neg (by omega), if_pos (by omega), show 2 + i - 2 = i by omega]
  have l3 : ∀ i, i < 24 → low (26 + i) = (fs i).2 := fun i hi => by
    rw [← hlow]
    show (if 26 + i = 1 then b else if 26 + i < 26 then _ else if 26 + i < 50 then _ else _) = _
    rw [if_neg (by omega), if_neg (by omega), if_pos (by omega), show 26 + i - 26 = i by omega]
  have l5 : low 50 = t50 := by rw [← hlow]; rfl
  refine ⟨(s, l, low, (fun c => (fc c).1, fun c => (fc c).2), fa), rfl, rfl, by unfold rho; rw [if_pos (by decide)]; exact l1, ?_⟩
  have hFr : Fr (s, l, low, ((fun c => (fc c).1, fun c => (fc c).2) : va_G), fa) = A := hA0
  have hr1 : rho (s, l, low, ((fun c => (fc c).1, fun c => (fc c).2) : va_G), fa) 1 = b := by unfold rho; rw [if_pos (by decide)]; exact l1
  refine ⟨⟨fun c q hq => hfc c q hq, fun k q hk => ?_⟩, ?_, ?_, ?_, ?_, ?_, ?_, ?_, ?_, ?_⟩
  · have hk11 : k < 11 := by
      have := (List.getElem?_eq_some_iff.mp hk).1
      simpa [tysW] using this
    rw [tysW_at _ hk11] at hk
    cases hk
    exact hfa k hk11
  · show l.stackTraces = false
    unfold Launch.stackTraces
    rw [hflags]
    decide +kernel
  · rw [hFr]; exact vx_Zqof (hts _ te1) (hts _ te3) (hnar _ ne1) hA
  · rw [hFr]; exact vx_Zqof (hts _ te2) (hts _ te3) (hnar _ ne2) hA
  · rw [hr1]; exact hts
  · intro q hq
    obtain ⟨⟨g1, g2⟩, g3⟩ := nar_c q hq
    have hev : (Term.string q.1 q.2.1).eval #[Value.ref b] s none [] s = some (.ref (fs (q.2.2.2 - 2)).1) := by
      have h0 := (hfs (q.2.2.2 - 2) (by omega)).1
      rcases g3 with g3 | g3
      · unfold tmS at h0
        rw [← g3] at h0
        exact h0
      · exact va_eqR (hnar _ g3) h0
    have hrq : rho (s, l, low, ((fun c => (fc c).1, fun c => (fc c).2) : va_G), fa) q.2.2.2 = (fs (q.2.2.2 - 2)).1 := by
      unfold rho
      rw [if_pos (by omega)]
      have := l2 (q.2.2.2 - 2) (by omega)
      rw [show 2 + (q.2.2.2 - 2) = q.2.2.2 by omega] at this
      exact this
    rw [hrq]
    exact vk_R.of (hts _ (nar_d q hq)) hev
  · intro i hi
    rw [hFr]
    show va_O _ (low (2 + i)) _ _ _ ∧ va_OF _ _ _ _ (low (2 + i)) _ _ _ ∧ va_OF _ _ _ (.ref (low (26 + i))) (low (2 + i)) _ _ _ ∧ va_T _ (low (26 + i)) _ _ _ _ _
    rw [l2 i hi, l3 i hi]
    exact (hfs i hi).2
  · rw [hFr]; exact va_Zof (hts _ te4) (hts _ te5) (va_eqt (hnar _ ne3)) hA
  · rw [hr1]; exact hnar _ ne5
  · refine ⟨f50, hf50, ?_⟩
    rw [hFr]
    rcases hf50 with rfl | rfl
    · exact hv50
    · have e9 : rv (s, l, low, ((fun c => (fc c).1, fun c => (fc c).2) : va_G), fa) (.inr 50) = .ref t50 := by
        rw [rv_ref _ (by decide)]; unfold rho; rw [if_pos (by decide)]; exact congrArg Value.ref l5
      rw [e9]; exact hv50
