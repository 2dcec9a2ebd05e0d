/-! HeatGovernor$Reader.readTold(II)I -/
def X6_readTold_J35 (s0 : Int32) (M : Gm) : Option (Int32 × Gm) :=
  some (s0, M)
def X6_readTold_J23 (x0 : Nat) (x3 : Int32) (M : Gm) : Option (Int32 × Gm) :=
  (gfI M x0 6 5).bind fun v1 =>
  if v1 = 0 then
    X6_readTold_J35 x3 M
  else
    X6_readTold_J35 0 M
def X6_readTold_F (x0 : Nat) (x1 : Int32) (x2 : Int32) (M : Gm) : Option (Int32 × Gm) :=
  (sh_X6_nextToken x0 M).bind fun q1 =>
  (sh_X6_needNumber x0 0 (x1 - 1) q1).bind fun q3 =>
  if q3.1 < x2 then
    X6_readTold_J23 x0 q3.1 q3.2
  else
    (sh_X6_fail x0 3 q3.2).bind fun q5 =>
    X6_readTold_J23 x0 q3.1 q5
def sh_X6_readTold (x0 : Nat) (x1 : Int32) (x2 : Int32) (M : Gm) : Option (Int32 × Gm) := (isO M x0 6).bind fun _ => X6_readTold_F x0 x1 x2 M
theorem X6_readTold_J35_ok {w : Gw} {d : Nat} {s0 : Int32} {M : Gm} {out : Int32 × Gm} (h : X6_readTold_J35 s0 M = some out) : Wp w mdX6_readTold (d + 2) 35 [none, none, none, none] [.inl s0] M (.inl (some (.inl out.1))) out.2 := by
  unfold X6_readTold_J35 at h
  cases h
  exact wp_iret dX6_readTold_35 rfl

theorem X6_readTold_J23_ok {w : Gw} {d : Nat} {x0 : Nat} {x3 : Int32} {M : Gm} {out : Int32 × Gm} (h : X6_readTold_J23 x0 x3 M = some out) : Wp w mdX6_readTold (d + 2) 23 [some (.inr x0), none, none, some (.inl x3)] [] M (.inl (some (.inl out.1))) out.2 := by
  unfold X6_readTold_J23 at h
  refine wp_aload_n dX6_readTold_23 rfl ?_
  obtain ⟨v1, e2, h⟩ := bnd h
  refine wp_getI (c := 6) (k := 5) dX6_readTold_24 e2 (by decide) (by decide) rfl fl_RX6_24 ?_
  refine wp_if_ne (tgt := 34) dX6_readTold_27 (by decide) (fun hc_ => ?_) (fun hc_ => ?_)
  · replace h := ite_f hc_ h
    refine wp_iconst (v := 0) dX6_readTold_34 (by decide) ?_
    exact wp_ls (lsN (lsN (lsN (lsN lsZ)))) (X6_readTold_J35_ok h)
  · replace h := ite_t hc_ h
    refine wp_iload_n dX6_readTold_30 rfl ?_
    refine wp_goto (tgt := 35) dX6_readTold_31 (by decide) ?_
    exact wp_ls (lsN (lsN (lsN (lsN lsZ)))) (X6_readTold_J35_ok h)

theorem X6_readTold_F_ok {w : Gw} {d : Nat} {x0 : Nat} {x1 : Int32} {x2 : Int32} {M : Gm} {out : Int32 × Gm} (h : X6_readTold_F x0 x1 x2 M = some out) : Wp w mdX6_readTold (d + 2) 0 [some (.inr x0), some (.inl x1), some (.inl x2), none] [] M (.inl (some (.inl out.1))) out.2 := by
  unfold X6_readTold_F at h
  refine wp_aload_n dX6_readTold_0 rfl ?_
  obtain ⟨q1, e2, h⟩ := bnd h
  refine wp_callV (As := []) dX6_readTold_1 (sh_X6_nextToken_ok (d := d) e2) okX6_nextToken nnX6_nextToken vvX6_nextToken ml_RX6_40 rfl (Nat.le_of_ble_eq_true rfl) ?_
  refine wp_aload_n dX6_readTold_4 rfl ?_
  refine wp_iconst (v := 0) dX6_readTold_5 (by decide) ?_
  refine wp_iload_n dX6_readTold_6 rfl ?_
  refine wp_iconst (v := 1) dX6_readTold_7 (by decide) ?_
  refine wp_isub dX6_readTold_8 ?_
  obtain ⟨q3, e4, h⟩ := bnd h
  refine wp_callV (As := [.inl 0, .inl (x1 - 1)]) dX6_readTold_9 (sh_X6_needNumber_ok (d := d) e4) okX6_needNumber nnX6_needNumber vvX6_needNumber ml_RX6_129 rfl (Nat.le_of_ble_eq_true rfl) ?_
  refine wp_istore_n dX6_readTold_12 (Nat.le_of_ble_eq_true rfl) ?_
  refine wp_iload_n dX6_readTold_13 rfl ?_
  refine wp_iload_n dX6_readTold_14 rfl ?_
  refine wp_icmp_lt (tgt := 23) dX6_readTold_15 (by decide) (fun hc_ => ?_) (fun hc_ => ?_)
  · replace h := ite_t hc_ h
    exact wp_ls (lsS (lsN (lsN (lsS lsZ)))) (X6_readTold_J23_ok h)
  · replace h := ite_f hc_ h
    refine wp_aload_n dX6_readTold_18 rfl ?_
    refine wp_iconst (v := 3) dX6_readTold_19 (by decide) ?_
    obtain ⟨q5, e6, h⟩ := bnd h
    refine wp_callV (As := [.inl 3]) dX6_readTold_20 (sh_X6_fail_ok (d := d + 1) e6) okX6_fail nnX6_fail vvX6_fail ml_RX6_84 rfl (Nat.le_of_ble_eq_true rfl) ?_
    exact wp_ls (lsS (lsN (lsN (lsS lsZ)))) (X6_readTold_J23_ok h)

theorem sh_X6_readTold_ok {w : Gw} {d : Nat} {x0 : Nat} {x1 : Int32} {x2 : Int32} {M : Gm} {out : Int32 × Gm} (h : sh_X6_readTold x0 x1 x2 M = some out) : Ev w mdX6_readTold (d + 2) [.inr x0, .inl x1, .inl x2] M (.inl (some (.inl out.1))) out.2 := by
  obtain ⟨u, e0, h⟩ := bnd h
  exact ev_of okX6_readTold ⟨_, _, rfl, isO_of e0 (by decide), by decide⟩ (Nat.le_of_ble_eq_true rfl) (X6_readTold_F_ok h)

/-! HeatGovernor$Reader.readBind(LHeatGovernor$Plan;)V -/
def X6_readBind_J95 (M : Gm) : Option (Gm) :=
  some M
def X6_readBind_J67 (x0 : Nat) (x1 : Nat) (x2 : Int32) (x3 : Int32) (M : Gm) : Option (Gm) :=
  (sh_X6_readNumber x0 1 9 M).bind fun q1 =>
  (sh_X6_readEnd x0 q1.2).bind fun q3 =>
  (gfI q3 x0 6 5).bind fun v5 =>
  if v5 = 0 then
    (sh_X5_addBind x1 x2 x3 q1.1 q3).bind fun q7 =>
    X6_readBind_J95 q7
  else
    X6_readBind_J95 q3
def X6_readBind_J41 (x0 : Nat) (x1 : Nat) (x2 : Int32) (M : Gm) : Option (Gm) :=
  (gfI M x1 5 7).bind fun v1 =>
  (sh_X6_readTold x0 6 v1 M).bind fun q3 =>
  (sh_X5_bindOf x1 x2 q3.1 q3.2).bind fun q5 =>
  if q5 = ((-1)) then
    X6_readBind_J67 x0 x1 x2 q3.1 q3.2
  else
    (sh_X6_fail x0 4 q3.2).bind fun q7 =>
    X6_readBind_J67 x0 x1 x2 q3.1 q7
def X6_readBind_F (x0 : Nat) (x1 : Nat) (M : Gm) : Option (Gm) :=
  (gfI M x1 5 6).bind fun v1 =>
  (sh_X6_readTold x0 10 v1 M).bind fun q3 =>
  (gfR q3.2 x1 5 1).bind fun v5 =>
  (ldR q3.2 5 v5 q3.1).bind fun v7 =>
  (gfI q3.2 v7 8 1).bind fun v9 =>
  if v9 = 0 then
    X6_readBind_J41 x0 x1 q3.1 q3.2
  else
    (gfR q3.2 x1 5 1).bind fun v11 =>
    (ldR q3.2 5 v11 q3.1).bind fun v13 =>
    (gfI q3.2 v13 8 1).bind fun v15 =>
    if v15 = 1 then
      X6_readBind_J41 x0 x1 q3.1 q3.2
    else
      (sh_X6_fail x0 4 q3.2).bind fun q17 =>
      X6_readBind_J41 x0 x1 q3.1 q17
def sh_X6_readBind (x0 : Nat) (x1 : Nat) (M : Gm) : Option (Gm) := (isO M x0 6).bind fun _ => X6_readBind_F x0 x1 M
theorem X6_readBind_J95_ok {w : Gw} {d : Nat} {M : Gm} {out : Gm} (h : X6_readBind_J95 M = some out) : Wp w mdX6_readBind (d + 3) 95 [none, none, none, none, none] [] M (.inl none) out := by
  unfold X6_readBind_J95 at h
  cases h
  exact wp_ret dX6_readBind_95 rfl

theorem X6_readBind_J67_ok {w : Gw} {d : Nat} {x0 : Nat} {x1 : Nat} {x2 : Int32} {x3 : Int32} {M : Gm} {out : Gm} (h : X6_readBind_J67 x0 x1 x2 x3 M = some out) : Wp w mdX6_readBind (d + 3) 67 [some (.inr x0), some (.inr x1), some (.inl x2), some (.inl x3), none] [] M (.inl none) out := by
  unfold X6_readBind_J67 at h
  refine wp_aload_n dX6_readBind_67 rfl ?_
  refine wp_iconst (v := 1) dX6_readBind_68 (by decide) ?_
  refine wp_bipush (v := 9) dX6_readBind_69 (by decide) ?_
  obtain ⟨q1, e2, h⟩ := bnd h
  refine wp_callV (As := [.inl 1, .inl 9]) dX6_readBind_71 (sh_X6_readNumber_ok (d := d) e2) okX6_readNumber nnX6_readNumber vvX6_readNumber ml_RX6_95 rfl (Nat.le_of_ble_eq_true rfl) ?_
  refine wp_istore dX6_readBind_74 (Nat.le_of_ble_eq_true rfl) ?_
  refine wp_aload_n dX6_readBind_76 rfl ?_
  obtain ⟨q3, e4, h⟩ := bnd h
  refine wp_callV (As := []) dX6_readBind_77 (sh_X6_readEnd_ok (d := d) e4) okX6_readEnd nnX6_readEnd vvX6_readEnd ml_RX6_162 rfl (Nat.le_of_ble_eq_true rfl) ?_
  refine wp_aload_n dX6_readBind_80 rfl ?_
  obtain ⟨v5, e6, h⟩ := bnd h
  refine wp_getI (c := 6) (k := 5) dX6_readBind_81 e6 (by decide) (by decide) rfl fl_RX6_24 ?_
  refine wp_if_ne (tgt := 95) dX6_readBind_84 (by decide) (fun hc_ => ?_) (fun hc_ => ?_)
  · replace h := ite_f hc_ h
    exact wp_ls (lsN (lsN (lsN (lsN (lsN lsZ))))) (X6_readBind_J95_ok h)
  · replace h := ite_t hc_ h
    refine wp_aload_n dX6_readBind_87 rfl ?_
    refine wp_iload_n dX6_readBind_88 rfl ?_
    refine wp_iload_n dX6_readBind_89 rfl ?_
    refine wp_iload dX6_readBind_90 rfl ?_
    obtain ⟨q7, e8, h⟩ := bnd h
    refine wp_callV (As := [.inl x2, .inl x3, .inl q1.1]) dX6_readBind_92 (sh_X5_addBind_ok (d := d + 1) e8) okX5_addBind nnX5_addBind vvX5_addBind ml_RX6_204 rfl (Nat.le_of_ble_eq_true rfl) ?_
    exact wp_ls (lsN (lsN (lsN (lsN (lsN lsZ))))) (X6_readBind_J95_ok h)

theorem X6_readBind_J41_ok {w : Gw} {d : Nat} {x0 : Nat} {x1 : Nat} {x2 : Int32} {M : Gm} {out : Gm} (h : X6_readBind_J41 x0 x1 x2 M = some out) : Wp w mdX6_readBind (d + 3) 41 [some (.inr x0), some (.inr x1), some (.inl x2), none, none] [] M (.inl none) out := by
  unfold X6_readBind_J41 at h
  refine wp_aload_n dX6_readBind_41 rfl ?_
  refine wp_bipush (v := 6) dX6_readBind_42 (by decide) ?_
  refine wp_aload_n dX6_readBind_44 rfl ?_
  obtain ⟨v1, e2, h⟩ := bnd h
  refine wp_getI (c := 5) (k := 7) dX6_readBind_45 e2 (by decide) (by decide) rfl fl_RX6_173 ?_
  obtain ⟨q3, e4, h⟩ := bnd h
  refine wp_callV (As := [.inl 6, .inl v1]) dX6_readBind_48 (sh_X6_readTold_ok (d := d) e4) okX6_readTold nnX6_readTold vvX6_readTold ml_RX6_139 rfl (Nat.le_of_ble_eq_true rfl) ?_
  refine wp_istore_n dX6_readBind_51 (Nat.le_of_ble_eq_true rfl) ?_
  refine wp_aload_n dX6_readBind_52 rfl ?_
  refine wp_iload_n dX6_readBind_53 rfl ?_
  refine wp_iload_n dX6_readBind_54 rfl ?_
  obtain ⟨q5, e6, h⟩ := bnd h
  refine wp_callV (As := [.inl x2, .inl q3.1]) dX6_readBind_55 (sh_X5_bindOf_ok (d := d + 2) e6) okX5_bindOf nnX5_bindOf vvX5_bindOf ml_RX6_201 rfl (Nat.le_of_ble_eq_true rfl) ?_
  refine wp_iconst (v := (-1)) dX6_readBind_58 (by decide) ?_
  refine wp_icmp_eq (tgt := 67) dX6_readBind_59 (by decide) (fun hc_ => ?_) (fun hc_ => ?_)
  · replace h := ite_t hc_ h
    exact wp_ls (lsS (lsS (lsS (lsS (lsN lsZ))))) (X6_readBind_J67_ok h)
  · replace h := ite_f hc_ h
    refine wp_aload_n dX6_readBind_62 rfl ?_
    refine wp_iconst (v := 4) dX6_readBind_63 (by decide) ?_
    obtain ⟨q7, e8, h⟩ := bnd h
    refine wp_callV (As := [.inl 4]) dX6_readBind_64 (sh_X6_fail_ok (d := d + 2) e8) okX6_fail nnX6_fail vvX6_fail ml_RX6_84 rfl (Nat.le_of_ble_eq_true rfl) ?_
    exact wp_ls (lsS (lsS (lsS (lsS (lsN lsZ))))) (X6_readBind_J67_ok h)

theorem X6_readBind_F_ok {w : Gw} {d : Nat} {x0 : Nat} {x1 : Nat} {M : Gm} {out : Gm} (h : X6_readBind_F x0 x1 M = some out) : Wp w mdX6_readBind (d + 3) 0 [some (.inr x0), some (.inr x1), none, none, none] [] M (.inl none) out := by
  unfold X6_readBind_F at h
  refine wp_aload_n dX6_readBind_0 rfl ?_
  refine wp_bipush (v := 10) dX6_readBind_1 (by decide) ?_
  refine wp_aload_n dX6_readBind_3 rfl ?_
  obtain ⟨v1, e2, h⟩ := bnd h
  refine wp_getI (c := 5) (k := 6) dX6_readBind_4 e2 (by decide) (by decide) rfl fl_RX6_132 ?_
  obtain ⟨q3, e4, h⟩ := bnd h
  refine wp_callV (As := [.inl 10, .inl v1]) dX6_readBind_7 (sh_X6_readTold_ok (d := d) e4) okX6_readTold nnX6_readTold vvX6_readTold ml_RX6_139 rfl (Nat.le_of_ble_eq_true rfl) ?_
  refine wp_istore_n dX6_readBind_10 (Nat.le_of_ble_eq_true rfl) ?_
  refine wp_aload_n dX6_readBind_11 rfl ?_
  obtain ⟨v5, e6, h⟩ := bnd h
  refine wp_getR (c := 5) (k := 1) dX6_readBind_12 e6 (by decide) (by decide) rfl fl_RX6_135 ?_
  refine wp_iload_n dX6_readBind_15 rfl ?_
  obtain ⟨v7, e8, h⟩ := bnd h
  refine wp_aaload (t := 5) dX6_readBind_16 (by decide) rfl e8 ?_
  obtain ⟨v9, e10, h⟩ := bnd h
  refine wp_getI (c := 8) (k := 1) dX6_readBind_17 e10 (by decide) (by decide) rfl fl_RX6_149 ?_
  refine wp_if_eq (tgt := 41) dX6_readBind_20 (by decide) (fun hc_ => ?_) (fun hc_ => ?_)
  · replace h := ite_t hc_ h
    exact wp_ls (lsS (lsS (lsS (lsN (lsN lsZ))))) (X6_readBind_J41_ok h)
  · replace h := ite_f hc_ h
    refine wp_aload_n dX6_readBind_23 rfl ?_
    obtain ⟨v11, e12, h⟩ := bnd h
    refine wp_getR (c := 5) (k := 1) dX6_readBind_24 e12 (by decide) (by decide) rfl fl_RX6_135 ?_
    refine wp_iload_n dX6_readBind_27 rfl ?_
    obtain ⟨v13, e14, h⟩ := bnd h
    refine wp_aaload (t := 5) dX6_readBind_28 (by decide) rfl e14 ?_
    obtain ⟨v15, e16, h⟩ := bnd h
    refine wp_getI (c := 8) (k := 1) dX6_readBind_29 e16 (by decide) (by decide) rfl fl_RX6_149 ?_
    refine wp_iconst (v := 1) dX6_readBind_32 (by decide) ?_
    refine wp_icmp_eq (tgt := 41) dX6_readBind_33 (by decide) (fun hc_ => ?_) (fun hc_ => ?_)
    · replace h := ite_t hc_ h
      exact wp_ls (lsS (lsS (lsS (lsN (lsN lsZ))))) (X6_readBind_J41_ok h)
    · replace h := ite_f hc_ h
      refine wp_aload_n dX6_readBind_36 rfl ?_
      refine wp_iconst (v := 4) dX6_readBind_37 (by decide) ?_
      obtain ⟨q17, e18, h⟩ := bnd h
      refine wp_callV (As := [.inl 4]) dX6_readBind_38 (sh_X6_fail_ok (d := d + 2) e18) okX6_fail nnX6_fail vvX6_fail ml_RX6_84 rfl (Nat.le_of_ble_eq_true rfl) ?_
      exact wp_ls (lsS (lsS (lsS (lsN (lsN lsZ))))) (X6_readBind_J41_ok h)

theorem sh_X6_readBind_ok {w : Gw} {d : Nat} {x0 : Nat} {x1 : Nat} {M : Gm} {out : Gm} (h : sh_X6_readBind x0 x1 M = some out) : Ev w mdX6_readBind (d + 3) [.inr x0, .inr x1] M (.inl none) out := by
  obtain ⟨u, e0, h⟩ := bnd h
  exact ev_of okX6_readBind ⟨_, _, rfl, isO_of e0 (by decide), by decide⟩ (Nat.le_of_ble_eq_true rfl) (X6_readBind_F_ok h)

/-! HeatGovernor$Reader.readMake()I -/
def X6_readMake_J36 (M : Gm) : Option (Int32 × Gm) :=
  some (2, M)
def X6_readMake_F (x0 : Nat) (M : Gm) : Option (Int32 × Gm) :=
  (sh_X6_isWord x0 13 M).bind fun q1 =>
  if q1 = 0 then
    (sh_X6_isWord x0 14 M).bind fun q3 =>
    if q3 = 0 then
      (sh_X6_isWord x0 15 M).bind fun q5 =>
      if q5 = 0 then
        (sh_X6_fail x0 1 M).bind fun q7 =>
        X6_readMake_J36 q7
      else
        X6_readMake_J36 M
    else
      some (1, M)
  else
    some (0, M)
def sh_X6_readMake (x0 : Nat) (M : Gm) : Option (Int32 × Gm) := (isO M x0 6).bind fun _ => X6_readMake_F x0 M
theorem X6_readMake_J36_ok {w : Gw} {d : Nat} {M : Gm} {out : Int32 × Gm} (h : X6_readMake_J36 M = some out) : Wp w mdX6_readMake (d + 7) 36 [none] [] M (.inl (some (.inl out.1))) out.2 := by
  unfold X6_readMake_J36 at h
  refine wp_iconst (v := 2) dX6_readMake_36 (by decide) ?_
  cases h
  exact wp_iret dX6_readMake_37 rfl

theorem X6_readMake_F_ok {w : Gw} {d : Nat} {x0 : Nat} {M : Gm} {out : Int32 × Gm} (h : X6_readMake_F x0 M = some out) : Wp w mdX6_readMake (d + 7) 0 [some (.inr x0)] [] M (.inl (some (.inl out.1))) out.2 := by
  unfold X6_readMake_F at h
  refine wp_aload_n dX6_readMake_0 rfl ?_
  refine wp_ldcS (tx := "fan") (sid := 13) dX6_readMake_1 (by decide +kernel) (by decide) ?_
  obtain ⟨q1, e2, h⟩ := bnd h
  refine wp_callV (As := [.inr 13]) dX6_readMake_3 (sh_X6_isWord_ok (d := d) e2) okX6_isWord nnX6_isWord vvX6_isWord ml_RX6_52 rfl (Nat.le_of_ble_eq_true rfl) ?_
  refine wp_if_eq (tgt := 11) dX6_readMake_6 (by decide) (fun hc_ => ?_) (fun hc_ => ?_)
  · replace h := ite_t hc_ h
    refine wp_aload_n dX6_readMake_11 rfl ?_
    refine wp_ldcS (tx := "valve") (sid := 14) dX6_readMake_12 (by decide +kernel) (by decide) ?_
    obtain ⟨q3, e4, h⟩ := bnd h
    refine wp_callV (As := [.inr 14]) dX6_readMake_14 (sh_X6_isWord_ok (d := d) e4) okX6_isWord nnX6_isWord vvX6_isWord ml_RX6_52 rfl (Nat.le_of_ble_eq_true rfl) ?_
    refine wp_if_eq (tgt := 22) dX6_readMake_17 (by decide) (fun hc_ => ?_) (fun hc_ => ?_)
    · replace h := ite_t hc_ h
      refine wp_aload_n dX6_readMake_22 rfl ?_
      refine wp_ldcS (tx := "pump") (sid := 15) dX6_readMake_23 (by decide +kernel) (by decide) ?_
      obtain ⟨q5, e6, h⟩ := bnd h
      refine wp_callV (As := [.inr 15]) dX6_readMake_25 (sh_X6_isWord_ok (d := d) e6) okX6_isWord nnX6_isWord vvX6_isWord ml_RX6_52 rfl (Nat.le_of_ble_eq_true rfl) ?_
      refine wp_if_ne (tgt := 36) dX6_readMake_28 (by decide) (fun hc_ => ?_) (fun hc_ => ?_)
      · replace h := ite_f hc_ h
        exact wp_ls (lsN lsZ) (X6_readMake_J36_ok h)
      · replace h := ite_t hc_ h
        refine wp_aload_n dX6_readMake_31 rfl ?_
        refine wp_iconst (v := 1) dX6_readMake_32 (by decide) ?_
        obtain ⟨q7, e8, h⟩ := bnd h
        refine wp_callV (As := [.inl 1]) dX6_readMake_33 (sh_X6_fail_ok (d := d + 6) e8) okX6_fail nnX6_fail vvX6_fail ml_RX6_84 rfl (Nat.le_of_ble_eq_true rfl) ?_
        exact wp_ls (lsN lsZ) (X6_readMake_J36_ok h)
    · replace h := ite_f hc_ h
      refine wp_iconst (v := 1) dX6_readMake_20 (by decide) ?_
      cases h
      exact wp_iret dX6_readMake_21 rfl
  · replace h := ite_f hc_ h
    refine wp_iconst (v := 0) dX6_readMake_9 (by decide) ?_
    cases h
    exact wp_iret dX6_readMake_10 rfl

theorem sh_X6_readMake_ok {w : Gw} {d : Nat} {x0 : Nat} {M : Gm} {out : Int32 × Gm} (h : sh_X6_readMake x0 M = some out) : Ev w mdX6_readMake (d + 7) [.inr x0] M (.inl (some (.inl out.1))) out.2 := by
  obtain ⟨u, e0, h⟩ := bnd h
  exact ev_of okX6_readMake ⟨_, _, rfl, isO_of e0 (by decide), by decide⟩ (Nat.le_of_ble_eq_true rfl) (X6_readMake_F_ok h)

/-! HeatGovernor$Reader.readDevice(LHeatGovernor$Plan;)V -/
def X6_readDevice_F (x0 : Nat) (x1 : Nat) (M : Gm) : Option (Gm) :=
  (gfI M x1 5 7).bind fun v1 =>
  if v1 < 6 then
    (gfR M x1 5 2).bind fun v3 =>
    (gfI M x1 5 7).bind fun v5 =>
    (ldR M 6 v3 v5).bind fun v7 =>
    (sh_X6_nextToken x0 M).bind fun q9 =>
    (sh_X6_readMake x0 q9).bind fun q11 =>
    (pfI q11.2 v7 2 0 q11.1).bind fun M13 =>
    (gfI M13 x1 5 5).bind fun v15 =>
    (sh_X6_readTold x0 5 v15 M13).bind fun q17 =>
    (pfI q17.2 v7 2 1 q17.1).bind fun M19 =>
    (sh_X6_readNumber x0 1 9 M19).bind fun q21 =>
    (pfI q21.2 v7 2 2 q21.1).bind fun M23 =>
    (sh_X6_readNumber x0 1 30 M23).bind fun q25 =>
    (pfI q25.2 v7 2 3 q25.1).bind fun M27 =>
    (sh_X6_readEnd x0 M27).bind fun q29 =>
    (gfI q29 x1 5 7).bind fun v31 =>
    (pfI q29 x1 5 7 (v31 + 1)).bind fun M33 =>
    some M33
  else
    (sh_X6_fail x0 2 M).bind fun q35 =>
    some q35
def sh_X6_readDevice (x0 : Nat) (x1 : Nat) (M : Gm) : Option (Gm) := (isO M x0 6).bind fun _ => X6_readDevice_F x0 x1 M
theorem X6_readDevice_F_ok {w : Gw} {d : Nat} {x0 : Nat} {x1 : Nat} {M : Gm} {out : Gm} (h : X6_readDevice_F x0 x1 M = some out) : Wp w mdX6_readDevice (d + 8) 0 [some (.inr x0), some (.inr x1), none] [] M (.inl none) out := by
  unfold X6_readDevice_F at h
  refine wp_aload_n dX6_readDevice_0 rfl ?_
  obtain ⟨v1, e2, h⟩ := bnd h
  refine wp_getI (c := 5) (k := 7) dX6_readDevice_1 e2 (by decide) (by decide) rfl fl_RX6_173 ?_
  refine wp_bipush (v := 6) dX6_readDevice_4 (by decide) ?_
  refine wp_icmp_lt (tgt := 15) dX6_readDevice_6 (by decide) (fun hc_ => ?_) (fun hc_ => ?_)
  · replace h := ite_t hc_ h
    refine wp_aload_n dX6_readDevice_15 rfl ?_
    obtain ⟨v3, e4, h⟩ := bnd h
    refine wp_getR (c := 5) (k := 2) dX6_readDevice_16 e4 (by decide) (by decide) rfl fl_RX6_176 ?_
    refine wp_aload_n dX6_readDevice_19 rfl ?_
    obtain ⟨v5, e6, h⟩ := bnd h
    refine wp_getI (c := 5) (k := 7) dX6_readDevice_20 e6 (by decide) (by decide) rfl fl_RX6_173 ?_
    obtain ⟨v7, e8, h⟩ := bnd h
    refine wp_aaload (t := 6) dX6_readDevice_23 (by decide) rfl e8 ?_
    refine wp_astore_n dX6_readDevice_24 (Nat.le_of_ble_eq_true rfl) ?_
    refine wp_aload_n dX6_readDevice_25 rfl ?_
    obtain ⟨q9, e10, h⟩ := bnd h
    refine wp_callV (As := []) dX6_readDevice_26 (sh_X6_nextToken_ok (d := d + 6) e10) okX6_nextToken nnX6_nextToken vvX6_nextToken ml_RX6_40 rfl (Nat.le_of_ble_eq_true rfl) ?_
    refine wp_aload_n dX6_readDevice_29 rfl ?_
    refine wp_aload_n dX6_readDevice_30 rfl ?_
    obtain ⟨q11, e12, h⟩ := bnd h
    refine wp_callV (As := []) dX6_readDevice_31 (sh_X6_readMake_ok (d := d) e12) okX6_readMake nnX6_readMake vvX6_readMake ml_RX6_180 rfl (Nat.le_of_ble_eq_true rfl) ?_
    obtain ⟨M13, e14, h⟩ := bnd h
    refine wp_putI (c := 2) (k := 0) dX6_readDevice_34 e14 (by decide) (by decide) rfl fl_RX6_183 (Or.inl rfl) ?_
    refine wp_aload_n dX6_readDevice_37 rfl ?_
    refine wp_aload_n dX6_readDevice_38 rfl ?_
    refine wp_iconst (v := 5) dX6_readDevice_39 (by decide) ?_
    refine wp_aload_n dX6_readDevice_40 rfl ?_
    obtain ⟨v15, e16, h⟩ := bnd h
    refine wp_getI (c := 5) (k := 5) dX6_readDevice_41 e16 (by decide) (by decide) rfl fl_RX6_88 ?_
    obtain ⟨q17, e18, h⟩ := bnd h
    refine wp_callV (As := [.inl 5, .inl v15]) dX6_readDevice_44 (sh_X6_readTold_ok (d := d + 5) e18) okX6_readTold nnX6_readTold vvX6_readTold ml_RX6_139 rfl (Nat.le_of_ble_eq_true rfl) ?_
    obtain ⟨M19, e20, h⟩ := bnd h
    refine wp_putI (c := 2) (k := 1) dX6_readDevice_47 e20 (by decide) (by decide) rfl fl_RX6_188 (Or.inl rfl) ?_
    refine wp_aload_n dX6_readDevice_50 rfl ?_
    refine wp_aload_n dX6_readDevice_51 rfl ?_
    refine wp_iconst (v := 1) dX6_readDevice_52 (by decide) ?_
    refine wp_bipush (v := 9) dX6_readDevice_53 (by decide) ?_
    obtain ⟨q21, e22, h⟩ := bnd h
    refine wp_callV (As := [.inl 1, .inl 9]) dX6_readDevice_55 (sh_X6_readNumber_ok (d := d + 5) e22) okX6_readNumber nnX6_readNumber vvX6_readNumber ml_RX6_95 rfl (Nat.le_of_ble_eq_true rfl) ?_
    obtain ⟨M23, e24, h⟩ := bnd h
    refine wp_putI (c := 2) (k := 2) dX6_readDevice_58 e24 (by decide) (by decide) rfl fl_RX6_189 (Or.inl rfl) ?_
    refine wp_aload_n dX6_readDevice_61 rfl ?_
    refine wp_aload_n dX6_readDevice_62 rfl ?_
    refine wp_iconst (v := 1) dX6_readDevice_63 (by decide) ?_
    refine wp_bipush (v := 30) dX6_readDevice_64 (by decide) ?_
    obtain ⟨q25, e26, h⟩ := bnd h
    refine wp_callV (As := [.inl 1, .inl 30]) dX6_readDevice_66 (sh_X6_readNumber_ok (d := d + 5) e26) okX6_readNumber nnX6_readNumber vvX6_readNumber ml_RX6_95 rfl (Nat.le_of_ble_eq_true rfl) ?_
    obtain ⟨M27, e28, h⟩ := bnd h
    refine wp_putI (c := 2) (k := 3) dX6_readDevice_69 e28 (by decide) (by decide) rfl fl_RX6_192 (Or.inl rfl) ?_
    refine wp_aload_n dX6_readDevice_72 rfl ?_
    obtain ⟨q29, e30, h⟩ := bnd h
    refine wp_callV (As := []) dX6_readDevice_73 (sh_X6_readEnd_ok (d := d + 5) e30) okX6_readEnd nnX6_readEnd vvX6_readEnd ml_RX6_162 rfl (Nat.le_of_ble_eq_true rfl) ?_
    refine wp_aload_n dX6_readDevice_76 rfl ?_
    refine wp_dup dX6_readDevice_77 ?_
    obtain ⟨v31, e32, h⟩ := bnd h
    refine wp_getI (c := 5) (k := 7) dX6_readDevice_78 e32 (by decide) (by decide) rfl fl_RX6_173 ?_
    refine wp_iconst (v := 1) dX6_readDevice_81 (by decide) ?_
    refine wp_iadd dX6_readDevice_82 ?_
    obtain ⟨M33, e34, h⟩ := bnd h
    refine wp_putI (c := 5) (k := 7) dX6_readDevice_83 e34 (by decide) (by decide) rfl fl_RX6_173 (Or.inl rfl) ?_
    cases h
    exact wp_ret dX6_readDevice_86 rfl
  · replace h := ite_f hc_ h
    refine wp_aload_n dX6_readDevice_9 rfl ?_
    refine wp_iconst (v := 2) dX6_readDevice_10 (by decide) ?_
    obtain ⟨q35, e36, h⟩ := bnd h
    refine wp_callV (As := [.inl 2]) dX6_readDevice_11 (sh_X6_fail_ok (d := d + 7) e36) okX6_fail nnX6_fail vvX6_fail ml_RX6_84 rfl (Nat.le_of_ble_eq_true rfl) ?_
    cases h
    exact wp_ret dX6_readDevice_14 rfl

theorem sh_X6_readDevice_ok {w : Gw} {d : Nat} {x0 : Nat} {x1 : Nat} {M : Gm} {out : Gm} (h : sh_X6_readDevice x0 x1 M = some out) : Ev w mdX6_readDevice (d + 8) [.inr x0, .inr x1] M (.inl none) out := by
  obtain ⟨u, e0, h⟩ := bnd h
  exact ev_of okX6_readDevice ⟨_, _, rfl, isO_of e0 (by decide), by decide⟩ (Nat.le_of_ble_eq_true rfl) (X6_readDevice_F_ok h)

/-! HeatGovernor$Reader.readForeseen(LHeatGovernor$Plan;)V -/
def X6_readForeseen_J12 (x0 : Nat) (x1 : Nat) (M : Gm) : Option (Gm) :=
  (pfZ M x1 5 11 1).bind fun M1 =>
  (sh_X6_readNumber x0 0 9 M1).bind fun q3 =>
  (pfI q3.2 x1 5 10 q3.1).bind fun M5 =>
  (sh_X6_readEnd x0 M5).bind fun q7 =>
  some q7
def X6_readForeseen_F (x0 : Nat) (x1 : Nat) (M : Gm) : Option (Gm) :=
  (gfI M x1 5 11).bind fun v1 =>
  if v1 = 0 then
    X6_readForeseen_J12 x0 x1 M
  else
    (sh_X6_fail x0 4 M).bind fun q3 =>
    X6_readForeseen_J12 x0 x1 q3
def sh_X6_readForeseen (x0 : Nat) (x1 : Nat) (M : Gm) : Option (Gm) := (isO M x0 6).bind fun _ => X6_readForeseen_F x0 x1 M
theorem X6_readForeseen_J12_ok {w : Gw} {d : Nat} {x0 : Nat} {x1 : Nat} {M : Gm} {out : Gm} (h : X6_readForeseen_J12 x0 x1 M = some out) : Wp w mdX6_readForeseen (d + 3) 12 [some (.inr x0), some (.inr x1)] [] M (.inl none) out := by
  unfold X6_readForeseen_J12 at h
  refine wp_aload_n dX6_readForeseen_12 rfl ?_
  refine wp_iconst (v := 1) dX6_readForeseen_13 (by decide) ?_
  obtain ⟨M1, e2, h⟩ := bnd h
  refine wp_putZ (c := 5) (k := 11) dX6_readForeseen_14 e2 (by decide) (by decide) rfl fl_RX6_226 (Or.inl rfl) ?_
  refine wp_aload_n dX6_readForeseen_17 rfl ?_
  refine wp_aload_n dX6_readForeseen_18 rfl ?_
  refine wp_iconst (v := 0) dX6_readForeseen_19 (by decide) ?_
  refine wp_bipush (v := 9) dX6_readForeseen_20 (by decide) ?_
  obtain ⟨q3, e4, h⟩ := bnd h
  refine wp_callV (As := [.inl 0, .inl 9]) dX6_readForeseen_22 (sh_X6_readNumber_ok (d := d) e4) okX6_readNumber nnX6_readNumber vvX6_readNumber ml_RX6_95 rfl (Nat.le_of_ble_eq_true rfl) ?_
  obtain ⟨M5, e6, h⟩ := bnd h
  refine wp_putI (c := 5) (k := 10) dX6_readForeseen_25 e6 (by decide) (by decide) rfl fl_RX6_230 (Or.inl rfl) ?_
  refine wp_aload_n dX6_readForeseen_28 rfl ?_
  obtain ⟨q7, e8, h⟩ := bnd h
  refine wp_callV (As := []) dX6_readForeseen_29 (sh_X6_readEnd_ok (d := d) e8) okX6_readEnd nnX6_readEnd vvX6_readEnd ml_RX6_162 rfl (Nat.le_of_ble_eq_true rfl) ?_
  cases h
  exact wp_ret dX6_readForeseen_32 rfl

theorem X6_readForeseen_F_ok {w : Gw} {d : Nat} {x0 : Nat} {x1 : Nat} {M : Gm} {out : Gm} (h : X6_readForeseen_F x0 x1 M = some out) : Wp w mdX6_readForeseen (d + 3) 0 [some (.inr x0), some (.inr x1)] [] M (.inl none) out := by
  unfold X6_readForeseen_F at h
  refine wp_aload_n dX6_readForeseen_0 rfl ?_
  obtain ⟨v1, e2, h⟩ := bnd h
  refine wp_getI (c := 5) (k := 11) dX6_readForeseen_1 e2 (by decide) (by decide) rfl fl_RX6_226 ?_
  refine wp_if_eq (tgt := 12) dX6_readForeseen_4 (by decide) (fun hc_ => ?_) (fun hc_ => ?_)
  · replace h := ite_t hc_ h
    exact wp_ls (lsS (lsS lsZ)) (X6_readForeseen_J12_ok h)
  · replace h := ite_f hc_ h
    refine wp_aload_n dX6_readForeseen_7 rfl ?_
    refine wp_iconst (v := 4) dX6_readForeseen_8 (by decide) ?_
    obtain ⟨q3, e4, h⟩ := bnd h
    refine wp_callV (As := [.inl 4]) dX6_readForeseen_9 (sh_X6_fail_ok (d := d + 2) e4) okX6_fail nnX6_fail vvX6_fail ml_RX6_84 rfl (Nat.le_of_ble_eq_true rfl) ?_
    exact wp_ls (lsS (lsS lsZ)) (X6_readForeseen_J12_ok h)

theorem sh_X6_readForeseen_ok {w : Gw} {d : Nat} {x0 : Nat} {x1 : Nat} {M : Gm} {out : Gm} (h : sh_X6_readForeseen x0 x1 M = some out) : Ev w mdX6_readForeseen (d + 3) [.inr x0, .inr x1] M (.inl none) out := by
  obtain ⟨u, e0, h⟩ := bnd h
  exact ev_of okX6_readForeseen ⟨_, _, rfl, isO_of e0 (by decide), by decide⟩ (Nat.le_of_ble_eq_true rfl) (X6_readForeseen_F_ok h)

/-! HeatGovernor$Reader.readSort()I -/
def X6_readSort_F (x0 : Nat) (M : Gm) : Option (Int32 × Gm) :=
  (sh_X6_isWord x0 8 M).bind fun q1 =>
  if q1 = 0 then
    (sh_X6_isWord x0 9 M).bind fun q3 =>
    if q3 = 0 then
      (sh_X6_isWord x0 10 M).bind fun q5 =>
      if q5 = 0 then
        (sh_X6_isWord x0 11 M).bind fun q7 =>
        if q7 = 0 then
          (sh_X6_fail x0 1 M).bind fun q9 =>
          some (2, q9)
        else
          some (3, M)
      else
        some (2, M)
    else
      some (1, M)
  else
    some (0, M)
def sh_X6_readSort (x0 : Nat) (M : Gm) : Option (Int32 × Gm) := (isO M x0 6).bind fun _ => X6_readSort_F x0 M
theorem X6_readSort_F_ok {w : Gw} {d : Nat} {x0 : Nat} {M : Gm} {out : Int32 × Gm} (h : X6_readSort_F x0 M = some out) : Wp w mdX6_readSort (d + 7) 0 [some (.inr x0)] [] M (.inl (some (.inl out.1))) out.2 := by
  unfold X6_readSort_F at h
  refine wp_aload_n dX6_readSort_0 rfl ?_
  refine wp_ldcS (tx := "step") (sid := 8) dX6_readSort_1 (by decide +kernel) (by decide) ?_
  obtain ⟨q1, e2, h⟩ := bnd h
  refine wp_callV (As := [.inr 8]) dX6_readSort_3 (sh_X6_isWord_ok (d := d) e2) okX6_isWord nnX6_isWord vvX6_isWord ml_RX6_52 rfl (Nat.le_of_ble_eq_true rfl) ?_
  refine wp_if_eq (tgt := 11) dX6_readSort_6 (by decide) (fun hc_ => ?_) (fun hc_ => ?_)
  · replace h := ite_t hc_ h
    refine wp_aload_n dX6_readSort_11 rfl ?_
    refine wp_ldcS (tx := "share") (sid := 9) dX6_readSort_12 (by decide +kernel) (by decide) ?_
    obtain ⟨q3, e4, h⟩ := bnd h
    refine wp_callV (As := [.inr 9]) dX6_readSort_14 (sh_X6_isWord_ok (d := d) e4) okX6_isWord nnX6_isWord vvX6_isWord ml_RX6_52 rfl (Nat.le_of_ble_eq_true rfl) ?_
    refine wp_if_eq (tgt := 22) dX6_readSort_17 (by decide) (fun hc_ => ?_) (fun hc_ => ?_)
    · replace h := ite_t hc_ h
      refine wp_aload_n dX6_readSort_22 rfl ?_
      refine wp_ldcS (tx := "hot") (sid := 10) dX6_readSort_23 (by decide +kernel) (by decide) ?_
      obtain ⟨q5, e6, h⟩ := bnd h
      refine wp_callV (As := [.inr 10]) dX6_readSort_25 (sh_X6_isWord_ok (d := d) e6) okX6_isWord nnX6_isWord vvX6_isWord ml_RX6_52 rfl (Nat.le_of_ble_eq_true rfl) ?_
      refine wp_if_eq (tgt := 33) dX6_readSort_28 (by decide) (fun hc_ => ?_) (fun hc_ => ?_)
      · replace h := ite_t hc_ h
        refine wp_aload_n dX6_readSort_33 rfl ?_
        refine wp_ldcS (tx := "critical") (sid := 11) dX6_readSort_34 (by decide +kernel) (by decide) ?_
        obtain ⟨q7, e8, h⟩ := bnd h
        refine wp_callV (As := [.inr 11]) dX6_readSort_36 (sh_X6_isWord_ok (d := d) e8) okX6_isWord nnX6_isWord vvX6_isWord ml_RX6_52 rfl (Nat.le_of_ble_eq_true rfl) ?_
        refine wp_if_eq (tgt := 44) dX6_readSort_39 (by decide) (fun hc_ => ?_) (fun hc_ => ?_)
        · replace h := ite_t hc_ h
          refine wp_aload_n dX6_readSort_44 rfl ?_
          refine wp_iconst (v := 1) dX6_readSort_45 (by decide) ?_
          obtain ⟨q9, e10, h⟩ := bnd h
          refine wp_callV (As := [.inl 1]) dX6_readSort_46 (sh_X6_fail_ok (d := d + 6) e10) okX6_fail nnX6_fail vvX6_fail ml_RX6_84 rfl (Nat.le_of_ble_eq_true rfl) ?_
          refine wp_iconst (v := 2) dX6_readSort_49 (by decide) ?_
          cases h
          exact wp_iret dX6_readSort_50 rfl
        · replace h := ite_f hc_ h
          refine wp_iconst (v := 3) dX6_readSort_42 (by decide) ?_
          cases h
          exact wp_iret dX6_readSort_43 rfl
      · replace h := ite_f hc_ h
        refine wp_iconst (v := 2) dX6_readSort_31 (by decide) ?_
        cases h
        exact wp_iret dX6_readSort_32 rfl
    · replace h := ite_f hc_ h
      refine wp_iconst (v := 1) dX6_readSort_20 (by decide) ?_
      cases h
      exact wp_iret dX6_readSort_21 rfl
  · replace h := ite_f hc_ h
    refine wp_iconst (v := 0) dX6_readSort_9 (by decide) ?_
    cases h
    exact wp_iret dX6_readSort_10 rfl

theorem sh_X6_readSort_ok {w : Gw} {d : Nat} {x0 : Nat} {M : Gm} {out : Int32 × Gm} (h : sh_X6_readSort x0 M = some out) : Ev w mdX6_readSort (d + 7) [.inr x0] M (.inl (some (.inl out.1))) out.2 := by
  obtain ⟨u, e0, h⟩ := bnd h
  exact ev_of okX6_readSort ⟨_, _, rfl, isO_of e0 (by decide), by decide⟩ (Nat.le_of_ble_eq_true rfl) (X6_readSort_F_ok h)

/-! HeatGovernor$Reader.readTrip(LHeatGovernor$Plan;)V -/
def X6_readTrip_J75 (x0 : Nat) (x1 : Nat) (x2 : Nat) (M : Gm) : Option (Gm) :=
  (sh_X6_readNumber x0 200 999 M).bind fun q1 =>
  (pfI q1.2 x2 8 2 q1.1).bind fun M3 =>
  (sh_X6_readNumber x0 0 99 M3).bind fun q5 =>
  (pfI q5.2 x2 8 3 q5.1).bind fun M7 =>
  (sh_X6_readEnd x0 M7).bind fun q9 =>
  (gfI q9 x1 5 6).bind fun v11 =>
  (pfI q9 x1 5 6 (v11 + 1)).bind fun M13 =>
  some M13
def X6_readTrip_F (x0 : Nat) (x1 : Nat) (M : Gm) : Option (Gm) :=
  (gfI M x1 5 6).bind fun v1 =>
  if v1 < 10 then
    (gfR M x1 5 1).bind fun v3 =>
    (gfI M x1 5 6).bind fun v5 =>
    (ldR M 5 v3 v5).bind fun v7 =>
    (gfI M x1 5 5).bind fun v9 =>
    (sh_X6_readTold x0 5 v9 M).bind fun q11 =>
    (pfI q11.2 v7 8 0 q11.1).bind fun M13 =>
    (sh_X6_nextToken x0 M13).bind fun q15 =>
    (sh_X6_readSort x0 q15).bind fun q17 =>
    (pfI q17.2 v7 8 1 q17.1).bind fun M19 =>
    (gfI M19 v7 8 1).bind fun v21 =>
    if v21 = 3 then
      (gfI M19 v7 8 0).bind fun v23 =>
      (sh_X5_criticalOf x1 v23 M19).bind fun q25 =>
      if q25 = ((-1)) then
        X6_readTrip_J75 x0 x1 v7 M19
      else
        (sh_X6_fail x0 4 M19).bind fun q27 =>
        X6_readTrip_J75 x0 x1 v7 q27
    else
      X6_readTrip_J75 x0 x1 v7 M19
  else
    (sh_X6_fail x0 2 M).bind fun q29 =>
    some q29
def sh_X6_readTrip (x0 : Nat) (x1 : Nat) (M : Gm) : Option (Gm) := (isO M x0 6).bind fun _ => X6_readTrip_F x0 x1 M
theorem X6_readTrip_J75_ok {w : Gw} {d : Nat} {x0 : Nat} {x1 : Nat} {x2 : Nat} {M : Gm} {out : Gm} (h : X6_readTrip_J75 x0 x1 x2 M = some out) : Wp w mdX6_readTrip (d + 8) 75 [some (.inr x0), some (.inr x1), some (.inr x2)] [] M (.inl none) out := by
  unfold X6_readTrip_J75 at h
  refine wp_aload_n dX6_readTrip_75 rfl ?_
  refine wp_aload_n dX6_readTrip_76 rfl ?_
  refine wp_sipush (v := 200) dX6_readTrip_77 (by decide) ?_
  refine wp_sipush (v := 999) dX6_readTrip_80 (by decide) ?_
  obtain ⟨q1, e2, h⟩ := bnd h
  refine wp_callV (As := [.inl 200, .inl 999]) dX6_readTrip_83 (sh_X6_readNumber_ok (d := d + 5) e2) okX6_readNumber nnX6_readNumber vvX6_readNumber ml_RX6_95 rfl (Nat.le_of_ble_eq_true rfl) ?_
  obtain ⟨M3, e4, h⟩ := bnd h
  refine wp_putI (c := 8) (k := 2) dX6_readTrip_86 e4 (by decide) (by decide) rfl fl_RX6_156 (Or.inl rfl) ?_
  refine wp_aload_n dX6_readTrip_89 rfl ?_
  refine wp_aload_n dX6_readTrip_90 rfl ?_
  refine wp_iconst (v := 0) dX6_readTrip_91 (by decide) ?_
  refine wp_bipush (v := 99) dX6_readTrip_92 (by decide) ?_
  obtain ⟨q5, e6, h⟩ := bnd h
  refine wp_callV (As := [.inl 0, .inl 99]) dX6_readTrip_94 (sh_X6_readNumber_ok (d := d + 5) e6) okX6_readNumber nnX6_readNumber vvX6_readNumber ml_RX6_95 rfl (Nat.le_of_ble_eq_true rfl) ?_
  obtain ⟨M7, e8, h⟩ := bnd h
  refine wp_putI (c := 8) (k := 3) dX6_readTrip_97 e8 (by decide) (by decide) rfl fl_RX6_159 (Or.inl rfl) ?_
  refine wp_aload_n dX6_readTrip_100 rfl ?_
  obtain ⟨q9, e10, h⟩ := bnd h
  refine wp_callV (As := []) dX6_readTrip_101 (sh_X6_readEnd_ok (d := d + 5) e10) okX6_readEnd nnX6_readEnd vvX6_readEnd ml_RX6_162 rfl (Nat.le_of_ble_eq_true rfl) ?_
  refine wp_aload_n dX6_readTrip_104 rfl ?_
  refine wp_dup dX6_readTrip_105 ?_
  obtain ⟨v11, e12, h⟩ := bnd h
  refine wp_getI (c := 5) (k := 6) dX6_readTrip_106 e12 (by decide) (by decide) rfl fl_RX6_132 ?_
  refine wp_iconst (v := 1) dX6_readTrip_109 (by decide) ?_
  refine wp_iadd dX6_readTrip_110 ?_
  obtain ⟨M13, e14, h⟩ := bnd h
  refine wp_putI (c := 5) (k := 6) dX6_readTrip_111 e14 (by decide) (by decide) rfl fl_RX6_132 (Or.inl rfl) ?_
  cases h
  exact wp_ret dX6_readTrip_114 rfl

theorem X6_readTrip_F_ok {w : Gw} {d : Nat} {x0 : Nat} {x1 : Nat} {M : Gm} {out : Gm} (h : X6_readTrip_F x0 x1 M = some out) : Wp w mdX6_readTrip (d + 8) 0 [some (.inr x0), some (.inr x1), none] [] M (.inl none) out := by
  unfold X6_readTrip_F at h
  refine wp_aload_n dX6_readTrip_0 rfl ?_
  obtain ⟨v1, e2, h⟩ := bnd h
  refine wp_getI (c := 5) (k := 6) dX6_readTrip_1 e2 (by decide) (by decide) rfl fl_RX6_132 ?_
  refine wp_bipush (v := 10) dX6_readTrip_4 (by decide) ?_
  refine wp_icmp_lt (tgt := 15) dX6_readTrip_6 (by decide) (fun hc_ => ?_) (fun hc_ => ?_)
  · replace h := ite_t hc_ h
    refine wp_aload_n dX6_readTrip_15 rfl ?_
    obtain ⟨v3, e4, h⟩ := bnd h
    refine wp_getR (c := 5) (k := 1) dX6_readTrip_16 e4 (by decide) (by decide) rfl fl_RX6_135 ?_
    refine wp_aload_n dX6_readTrip_19 rfl ?_
    obtain ⟨v5, e6, h⟩ := bnd h
    refine wp_getI (c := 5) (k := 6) dX6_readTrip_20 e6 (by decide) (by decide) rfl fl_RX6_132 ?_
    obtain ⟨v7, e8, h⟩ := bnd h
    refine wp_aaload (t := 5) dX6_readTrip_23 (by decide) rfl e8 ?_
    refine wp_astore_n dX6_readTrip_24 (Nat.le_of_ble_eq_true rfl) ?_
    refine wp_aload_n dX6_readTrip_25 rfl ?_
    refine wp_aload_n dX6_readTrip_26 rfl ?_
    refine wp_iconst (v := 5) dX6_readTrip_27 (by decide) ?_
    refine wp_aload_n dX6_readTrip_28 rfl ?_
    obtain ⟨v9, e10, h⟩ := bnd h
    refine wp_getI (c := 5) (k := 5) dX6_readTrip_29 e10 (by decide) (by decide) rfl fl_RX6_88 ?_
    obtain ⟨q11, e12, h⟩ := bnd h
    refine wp_callV (As := [.inl 5, .inl v9]) dX6_readTrip_32 (sh_X6_readTold_ok (d := d + 5) e12) okX6_readTold nnX6_readTold vvX6_readTold ml_RX6_139 rfl (Nat.le_of_ble_eq_true rfl) ?_
    obtain ⟨M13, e14, h⟩ := bnd h
    refine wp_putI (c := 8) (k := 0) dX6_readTrip_35 e14 (by decide) (by decide) rfl fl_RX6_142 (Or.inl rfl) ?_
    refine wp_aload_n dX6_readTrip_38 rfl ?_
    obtain ⟨q15, e16, h⟩ := bnd h
    refine wp_callV (As := []) dX6_readTrip_39 (sh_X6_nextToken_ok (d := d + 6) e16) okX6_nextToken nnX6_nextToken vvX6_nextToken ml_RX6_40 rfl (Nat.le_of_ble_eq_true rfl) ?_
    refine wp_aload_n dX6_readTrip_42 rfl ?_
    refine wp_aload_n dX6_readTrip_43 rfl ?_
    obtain ⟨q17, e18, h⟩ := bnd h
    refine wp_callV (As := []) dX6_readTrip_44 (sh_X6_readSort_ok (d := d) e18) okX6_readSort nnX6_readSort vvX6_readSort ml_RX6_146 rfl (Nat.le_of_ble_eq_true rfl) ?_
    obtain ⟨M19, e20, h⟩ := bnd h
    refine wp_putI (c := 8) (k := 1) dX6_readTrip_47 e20 (by decide) (by decide) rfl fl_RX6_149 (Or.inl rfl) ?_
    refine wp_aload_n dX6_readTrip_50 rfl ?_
    obtain ⟨v21, e22, h⟩ := bnd h
    refine wp_getI (c := 8) (k := 1) dX6_readTrip_51 e22 (by decide) (by decide) rfl fl_RX6_149 ?_
    refine wp_iconst (v := 3) dX6_readTrip_54 (by decide) ?_
    refine wp_icmp_ne (tgt := 75) dX6_readTrip_55 (by decide) (fun hc_ => ?_) (fun hc_ => ?_)
    · replace h := ite_f hc_ h
      exact wp_ls (lsS (lsS (lsS lsZ))) (X6_readTrip_J75_ok h)
    · replace h := ite_t hc_ h
      refine wp_aload_n dX6_readTrip_58 rfl ?_
      refine wp_aload_n dX6_readTrip_59 rfl ?_
      obtain ⟨v23, e24, h⟩ := bnd h
      refine wp_getI (c := 8) (k := 0) dX6_readTrip_60 e24 (by decide) (by decide) rfl fl_RX6_142 ?_
      obtain ⟨q25, e26, h⟩ := bnd h
      refine wp_callV (As := [.inl v23]) dX6_readTrip_63 (sh_X5_criticalOf_ok (d := d + 7) e26) okX5_criticalOf nnX5_criticalOf vvX5_criticalOf ml_RX6_152 rfl (Nat.le_of_ble_eq_true rfl) ?_
      refine wp_iconst (v := (-1)) dX6_readTrip_66 (by decide) ?_
      refine wp_icmp_eq (tgt := 75) dX6_readTrip_67 (by decide) (fun hc_ => ?_) (fun hc_ => ?_)
      · replace h := ite_t hc_ h
        exact wp_ls (lsS (lsS (lsS lsZ))) (X6_readTrip_J75_ok h)
      · replace h := ite_f hc_ h
        refine wp_aload_n dX6_readTrip_70 rfl ?_
        refine wp_iconst (v := 4) dX6_readTrip_71 (by decide) ?_
        obtain ⟨q27, e28, h⟩ := bnd h
        refine wp_callV (As := [.inl 4]) dX6_readTrip_72 (sh_X6_fail_ok (d := d + 7) e28) okX6_fail nnX6_fail vvX6_fail ml_RX6_84 rfl (Nat.le_of_ble_eq_true rfl) ?_
        exact wp_ls (lsS (lsS (lsS lsZ))) (X6_readTrip_J75_ok h)
  · replace h := ite_f hc_ h
    refine wp_aload_n dX6_readTrip_9 rfl ?_
    refine wp_iconst (v := 2) dX6_readTrip_10 (by decide) ?_
    obtain ⟨q29, e30, h⟩ := bnd h
    refine wp_callV (As := [.inl 2]) dX6_readTrip_11 (sh_X6_fail_ok (d := d + 7) e30) okX6_fail nnX6_fail vvX6_fail ml_RX6_84 rfl (Nat.le_of_ble_eq_true rfl) ?_
    cases h
    exact wp_ret dX6_readTrip_14 rfl

theorem sh_X6_readTrip_ok {w : Gw} {d : Nat} {x0 : Nat} {x1 : Nat} {M : Gm} {out : Gm} (h : sh_X6_readTrip x0 x1 M = some out) : Ev w mdX6_readTrip (d + 8) [.inr x0, .inr x1] M (.inl none) out := by
  obtain ⟨u, e0, h⟩ := bnd h
  exact ev_of okX6_readTrip ⟨_, _, rfl, isO_of e0 (by decide), by decide⟩ (Nat.le_of_ble_eq_true rfl) (X6_readTrip_F_ok h)

/-! HeatGovernor$Reader.readWall(LHeatGovernor$Plan;)V -/
def X6_readWall_J67 (x0 : Nat) (x1 : Nat) (x2 : Nat) (M : Gm) : Option (Gm) :=
  (sh_X6_readNumber x0 1 50 M).bind fun q1 =>
  (pfI q1.2 x2 9 2 q1.1).bind fun M3 =>
  (sh_X6_readEnd x0 M3).bind fun q5 =>
  (gfI q5 x1 5 9).bind fun v7 =>
  (pfI q5 x1 5 9 (v7 + 1)).bind fun M9 =>
  some M9
def X6_readWall_F (x0 : Nat) (x1 : Nat) (M : Gm) : Option (Gm) :=
  (gfI M x1 5 9).bind fun v1 =>
  if v1 < 8 then
    (gfR M x1 5 4).bind fun v3 =>
    (gfI M x1 5 9).bind fun v5 =>
    (ldR M 8 v3 v5).bind fun v7 =>
    (gfI M x1 5 5).bind fun v9 =>
    (sh_X6_readTold x0 5 v9 M).bind fun q11 =>
    (pfI q11.2 v7 9 0 q11.1).bind fun M13 =>
    (gfI M13 x1 5 5).bind fun v15 =>
    (sh_X6_readTold x0 5 v15 M13).bind fun q17 =>
    (pfI q17.2 v7 9 1 q17.1).bind fun M19 =>
    (gfI M19 v7 9 1).bind fun v21 =>
    (gfI M19 v7 9 0).bind fun v23 =>
    if v21 = v23 then
      (sh_X6_fail x0 4 M19).bind fun q25 =>
      X6_readWall_J67 x0 x1 v7 q25
    else
      X6_readWall_J67 x0 x1 v7 M19
  else
    (sh_X6_fail x0 2 M).bind fun q27 =>
    some q27
def sh_X6_readWall (x0 : Nat) (x1 : Nat) (M : Gm) : Option (Gm) := (isO M x0 6).bind fun _ => X6_readWall_F x0 x1 M
theorem X6_readWall_J67_ok {w : Gw} {d : Nat} {x0 : Nat} {x1 : Nat} {x2 : Nat} {M : Gm} {out : Gm} (h : X6_readWall_J67 x0 x1 x2 M = some out) : Wp w mdX6_readWall (d + 3) 67 [some (.inr x0), some (.inr x1), some (.inr x2)] [] M (.inl none) out := by
  unfold X6_readWall_J67 at h
  refine wp_aload_n dX6_readWall_67 rfl ?_
  refine wp_aload_n dX6_readWall_68 rfl ?_
  refine wp_iconst (v := 1) dX6_readWall_69 (by decide) ?_
  refine wp_bipush (v := 50) dX6_readWall_70 (by decide) ?_
  obtain ⟨q1, e2, h⟩ := bnd h
  refine wp_callV (As := [.inl 1, .inl 50]) dX6_readWall_72 (sh_X6_readNumber_ok (d := d) e2) okX6_readNumber nnX6_readNumber vvX6_readNumber ml_RX6_95 rfl (Nat.le_of_ble_eq_true rfl) ?_
  obtain ⟨M3, e4, h⟩ := bnd h
  refine wp_putI (c := 9) (k := 2) dX6_readWall_75 e4 (by decide) (by decide) rfl fl_RX6_223 (Or.inl rfl) ?_
  refine wp_aload_n dX6_readWall_78 rfl ?_
  obtain ⟨q5, e6, h⟩ := bnd h
  refine wp_callV (As := []) dX6_readWall_79 (sh_X6_readEnd_ok (d := d) e6) okX6_readEnd nnX6_readEnd vvX6_readEnd ml_RX6_162 rfl (Nat.le_of_ble_eq_true rfl) ?_
  refine wp_aload_n dX6_readWall_82 rfl ?_
  refine wp_dup dX6_readWall_83 ?_
  obtain ⟨v7, e8, h⟩ := bnd h
  refine wp_getI (c := 5) (k := 9) dX6_readWall_84 e8 (by decide) (by decide) rfl fl_RX6_208 ?_
  refine wp_iconst (v := 1) dX6_readWall_87 (by decide) ?_
  refine wp_iadd dX6_readWall_88 ?_
  obtain ⟨M9, e10, h⟩ := bnd h
  refine wp_putI (c := 5) (k := 9) dX6_readWall_89 e10 (by decide) (by decide) rfl fl_RX6_208 (Or.inl rfl) ?_
  cases h
  exact wp_ret dX6_readWall_92 rfl

theorem X6_readWall_F_ok {w : Gw} {d : Nat} {x0 : Nat} {x1 : Nat} {M : Gm} {out : Gm} (h : X6_readWall_F x0 x1 M = some out) : Wp w mdX6_readWall (d + 3) 0 [some (.inr x0), some (.inr x1), none] [] M (.inl none) out := by
  unfold X6_readWall_F at h
  refine wp_aload_n dX6_readWall_0 rfl ?_
  obtain ⟨v1, e2, h⟩ := bnd h
  refine wp_getI (c := 5) (k := 9) dX6_readWall_1 e2 (by decide) (by decide) rfl fl_RX6_208 ?_
  refine wp_bipush (v := 8) dX6_readWall_4 (by decide) ?_
  refine wp_icmp_lt (tgt := 15) dX6_readWall_6 (by decide) (fun hc_ => ?_) (fun hc_ => ?_)
  · replace h := ite_t hc_ h
    refine wp_aload_n dX6_readWall_15 rfl ?_
    obtain ⟨v3, e4, h⟩ := bnd h
    refine wp_getR (c := 5) (k := 4) dX6_readWall_16 e4 (by decide) (by decide) rfl fl_RX6_211 ?_
    refine wp_aload_n dX6_readWall_19 rfl ?_
    obtain ⟨v5, e6, h⟩ := bnd h
    refine wp_getI (c := 5) (k := 9) dX6_readWall_20 e6 (by decide) (by decide) rfl fl_RX6_208 ?_
    obtain ⟨v7, e8, h⟩ := bnd h
    refine wp_aaload (t := 8) dX6_readWall_23 (by decide) rfl e8 ?_
    refine wp_astore_n dX6_readWall_24 (Nat.le_of_ble_eq_true rfl) ?_
    refine wp_aload_n dX6_readWall_25 rfl ?_
    refine wp_aload_n dX6_readWall_26 rfl ?_
    refine wp_iconst (v := 5) dX6_readWall_27 (by decide) ?_
    refine wp_aload_n dX6_readWall_28 rfl ?_
    obtain ⟨v9, e10, h⟩ := bnd h
    refine wp_getI (c := 5) (k := 5) dX6_readWall_29 e10 (by decide) (by decide) rfl fl_RX6_88 ?_
    obtain ⟨q11, e12, h⟩ := bnd h
    refine wp_callV (As := [.inl 5, .inl v9]) dX6_readWall_32 (sh_X6_readTold_ok (d := d) e12) okX6_readTold nnX6_readTold vvX6_readTold ml_RX6_139 rfl (Nat.le_of_ble_eq_true rfl) ?_
    obtain ⟨M13, e14, h⟩ := bnd h
    refine wp_putI (c := 9) (k := 0) dX6_readWall_35 e14 (by decide) (by decide) rfl fl_RX6_215 (Or.inl rfl) ?_
    refine wp_aload_n dX6_readWall_38 rfl ?_
    refine wp_aload_n dX6_readWall_39 rfl ?_
    refine wp_iconst (v := 5) dX6_readWall_40 (by decide) ?_
    refine wp_aload_n dX6_readWall_41 rfl ?_
    obtain ⟨v15, e16, h⟩ := bnd h
    refine wp_getI (c := 5) (k := 5) dX6_readWall_42 e16 (by decide) (by decide) rfl fl_RX6_88 ?_
    obtain ⟨q17, e18, h⟩ := bnd h
    refine wp_callV (As := [.inl 5, .inl v15]) dX6_readWall_45 (sh_X6_readTold_ok (d := d) e18) okX6_readTold nnX6_readTold vvX6_readTold ml_RX6_139 rfl (Nat.le_of_ble_eq_true rfl) ?_
    obtain ⟨M19, e20, h⟩ := bnd h
    refine wp_putI (c := 9) (k := 1) dX6_readWall_48 e20 (by decide) (by decide) rfl fl_RX6_220 (Or.inl rfl) ?_
    refine wp_aload_n dX6_readWall_51 rfl ?_
    obtain ⟨v21, e22, h⟩ := bnd h
    refine wp_getI (c := 9) (k := 1) dX6_readWall_52 e22 (by decide) (by decide) rfl fl_RX6_220 ?_
    refine wp_aload_n dX6_readWall_55 rfl ?_
    obtain ⟨v23, e24, h⟩ := bnd h
    refine wp_getI (c := 9) (k := 0) dX6_readWall_56 e24 (by decide) (by decide) rfl fl_RX6_215 ?_
    refine wp_icmp_ne (tgt := 67) dX6_readWall_59 (by decide) (fun hc_ => ?_) (fun hc_ => ?_)
    · replace h := ite_f hc_ h
      exact wp_ls (lsS (lsS (lsS lsZ))) (X6_readWall_J67_ok h)
    · replace h := ite_t hc_ h
      refine wp_aload_n dX6_readWall_62 rfl ?_
      refine wp_iconst (v := 4) dX6_readWall_63 (by decide) ?_
      obtain ⟨q25, e26, h⟩ := bnd h
      refine wp_callV (As := [.inl 4]) dX6_readWall_64 (sh_X6_fail_ok (d := d + 2) e26) okX6_fail nnX6_fail vvX6_fail ml_RX6_84 rfl (Nat.le_of_ble_eq_true rfl) ?_
      exact wp_ls (lsS (lsS (lsS lsZ))) (X6_readWall_J67_ok h)
  · replace h := ite_f hc_ h
    refine wp_aload_n dX6_readWall_9 rfl ?_
    refine wp_iconst (v := 2) dX6_readWall_10 (by decide) ?_
    obtain ⟨q27, e28, h⟩ := bnd h
    refine wp_callV (As := [.inl 2]) dX6_readWall_11 (sh_X6_fail_ok (d := d + 2) e28) okX6_fail nnX6_fail vvX6_fail ml_RX6_84 rfl (Nat.le_of_ble_eq_true rfl) ?_
    cases h
    exact wp_ret dX6_readWall_14 rfl

theorem sh_X6_readWall_ok {w : Gw} {d : Nat} {x0 : Nat} {x1 : Nat} {M : Gm} {out : Gm} (h : sh_X6_readWall x0 x1 M = some out) : Ev w mdX6_readWall (d + 3) [.inr x0, .inr x1] M (.inl none) out := by
  obtain ⟨u, e0, h⟩ := bnd h
  exact ev_of okX6_readWall ⟨_, _, rfl, isO_of e0 (by decide), by decide⟩ (Nat.le_of_ble_eq_true rfl) (X6_readWall_F_ok h)

/-! HeatGovernor$Reader.filterKind()I -/
def X6_filterKind_J36 (s0 : Int32) (M : Gm) : Option (Int32) :=
  some s0
def X6_filterKind_F (x0 : Nat) (M : Gm) : Option (Int32) :=
  (sh_X6_isWord x0 4 M).bind fun q1 =>
  if q1 = 0 then
    (sh_X6_isWord x0 5 M).bind fun q3 =>
    if q3 = 0 then
      (sh_X6_isWord x0 6 M).bind fun q5 =>
      if q5 = 0 then
        X6_filterKind_J36 0 M
      else
        X6_filterKind_J36 3 M
    else
      some 2
  else
    some 1
def sh_X6_filterKind (x0 : Nat) (M : Gm) : Option (Int32) := (isO M x0 6).bind fun _ => X6_filterKind_F x0 M
theorem X6_filterKind_J36_ok {w : Gw} {d : Nat} {s0 : Int32} {M : Gm} {out : Int32} (h : X6_filterKind_J36 s0 M = some out) : Wp w mdX6_filterKind (d + 7) 36 [none] [.inl s0] M (.inl (some (.inl out))) M := by
  unfold X6_filterKind_J36 at h
  cases h
  exact wp_iret dX6_filterKind_36 rfl

theorem X6_filterKind_F_ok {w : Gw} {d : Nat} {x0 : Nat} {M : Gm} {out : Int32} (h : X6_filterKind_F x0 M = some out) : Wp w mdX6_filterKind (d + 7) 0 [some (.inr x0)] [] M (.inl (some (.inl out))) M := by
  unfold X6_filterKind_F at h
  refine wp_aload_n dX6_filterKind_0 rfl ?_
  refine wp_ldcS (tx := "mean") (sid := 4) dX6_filterKind_1 (by decide +kernel) (by decide) ?_
  obtain ⟨q1, e2, h⟩ := bnd h
  refine wp_callV (As := [.inr 4]) dX6_filterKind_3 (sh_X6_isWord_ok (d := d) e2) okX6_isWord nnX6_isWord vvX6_isWord ml_RX6_52 rfl (Nat.le_of_ble_eq_true rfl) ?_
  refine wp_if_eq (tgt := 11) dX6_filterKind_6 (by decide) (fun hc_ => ?_) (fun hc_ => ?_)
  · replace h := ite_t hc_ h
    refine wp_aload_n dX6_filterKind_11 rfl ?_
    refine wp_ldcS (tx := "median") (sid := 5) dX6_filterKind_12 (by decide +kernel) (by decide) ?_
    obtain ⟨q3, e4, h⟩ := bnd h
    refine wp_callV (As := [.inr 5]) dX6_filterKind_14 (sh_X6_isWord_ok (d := d) e4) okX6_isWord nnX6_isWord vvX6_isWord ml_RX6_52 rfl (Nat.le_of_ble_eq_true rfl) ?_
    refine wp_if_eq (tgt := 22) dX6_filterKind_17 (by decide) (fun hc_ => ?_) (fun hc_ => ?_)
    · replace h := ite_t hc_ h
      refine wp_aload_n dX6_filterKind_22 rfl ?_
      refine wp_ldcS (tx := "slow") (sid := 6) dX6_filterKind_23 (by decide +kernel) (by decide) ?_
      obtain ⟨q5, e6, h⟩ := bnd h
      refine wp_callV (As := [.inr 6]) dX6_filterKind_25 (sh_X6_isWord_ok (d := d) e6) okX6_isWord nnX6_isWord vvX6_isWord ml_RX6_52 rfl (Nat.le_of_ble_eq_true rfl) ?_
      refine wp_if_eq (tgt := 35) dX6_filterKind_28 (by decide) (fun hc_ => ?_) (fun hc_ => ?_)
      · replace h := ite_t hc_ h
        refine wp_iconst (v := 0) dX6_filterKind_35 (by decide) ?_
        exact wp_ls (lsN lsZ) (X6_filterKind_J36_ok h)
      · replace h := ite_f hc_ h
        refine wp_iconst (v := 3) dX6_filterKind_31 (by decide) ?_
        refine wp_goto (tgt := 36) dX6_filterKind_32 (by decide) ?_
        exact wp_ls (lsN lsZ) (X6_filterKind_J36_ok h)
    · replace h := ite_f hc_ h
      refine wp_iconst (v := 2) dX6_filterKind_20 (by decide) ?_
      cases h
      exact wp_iret dX6_filterKind_21 rfl
  · replace h := ite_f hc_ h
    refine wp_iconst (v := 1) dX6_filterKind_9 (by decide) ?_
    cases h
    exact wp_iret dX6_filterKind_10 rfl

theorem sh_X6_filterKind_ok {w : Gw} {d : Nat} {x0 : Nat} {M : Gm} {out : Int32} (h : sh_X6_filterKind x0 M = some out) : Ev w mdX6_filterKind (d + 7) [.inr x0] M (.inl (some (.inl out))) M := by
  obtain ⟨u, e0, h⟩ := bnd h
  exact ev_of okX6_filterKind ⟨_, _, rfl, isO_of e0 (by decide), by decide⟩ (Nat.le_of_ble_eq_true rfl) (X6_filterKind_F_ok h)

/-! HeatGovernor$Reader.readDepth()I -/
def X6_readDepth_F (x0 : Nat) (M : Gm) : Option (Int32 × Gm) :=
  (sh_X6_nextToken x0 M).bind fun q1 =>
  (gfI q1 x0 6 3).bind fun v3 =>
  if v3 = 2 then
    (sh_X6_needNumber x0 1 4 q1).bind fun q5 =>
    (sh_X6_nextToken x0 q5.2).bind fun q7 =>
    some (q5.1, q7)
  else
    some (3, q1)
def sh_X6_readDepth (x0 : Nat) (M : Gm) : Option (Int32 × Gm) := (isO M x0 6).bind fun _ => X6_readDepth_F x0 M
theorem X6_readDepth_F_ok {w : Gw} {d : Nat} {x0 : Nat} {M : Gm} {out : Int32 × Gm} (h : X6_readDepth_F x0 M = some out) : Wp w mdX6_readDepth (d + 2) 0 [some (.inr x0), none] [] M (.inl (some (.inl out.1))) out.2 := by
  unfold X6_readDepth_F at h
  refine wp_aload_n dX6_readDepth_0 rfl ?_
  obtain ⟨q1, e2, h⟩ := bnd h
  refine wp_callV (As := []) dX6_readDepth_1 (sh_X6_nextToken_ok (d := d) e2) okX6_nextToken nnX6_nextToken vvX6_nextToken ml_RX6_40 rfl (Nat.le_of_ble_eq_true rfl) ?_
  refine wp_aload_n dX6_readDepth_4 rfl ?_
  obtain ⟨v3, e4, h⟩ := bnd h
  refine wp_getI (c := 6) (k := 3) dX6_readDepth_5 e4 (by decide) (by decide) rfl fl_RX6_18 ?_
  refine wp_iconst (v := 2) dX6_readDepth_8 (by decide) ?_
  refine wp_icmp_eq (tgt := 14) dX6_readDepth_9 (by decide) (fun hc_ => ?_) (fun hc_ => ?_)
  · replace h := ite_t hc_ h
    refine wp_aload_n dX6_readDepth_14 rfl ?_
    refine wp_iconst (v := 1) dX6_readDepth_15 (by decide) ?_
    refine wp_iconst (v := 4) dX6_readDepth_16 (by decide) ?_
    obtain ⟨q5, e6, h⟩ := bnd h
    refine wp_callV (As := [.inl 1, .inl 4]) dX6_readDepth_17 (sh_X6_needNumber_ok (d := d) e6) okX6_needNumber nnX6_needNumber vvX6_needNumber ml_RX6_129 rfl (Nat.le_of_ble_eq_true rfl) ?_
    refine wp_istore_n dX6_readDepth_20 (Nat.le_of_ble_eq_true rfl) ?_
    refine wp_aload_n dX6_readDepth_21 rfl ?_
    obtain ⟨q7, e8, h⟩ := bnd h
    refine wp_callV (As := []) dX6_readDepth_22 (sh_X6_nextToken_ok (d := d) e8) okX6_nextToken nnX6_nextToken vvX6_nextToken ml_RX6_40 rfl (Nat.le_of_ble_eq_true rfl) ?_
    refine wp_iload_n dX6_readDepth_25 rfl ?_
    cases h
    exact wp_iret dX6_readDepth_26 rfl
  · replace h := ite_f hc_ h
    refine wp_iconst (v := 3) dX6_readDepth_12 (by decide) ?_
    cases h
    exact wp_iret dX6_readDepth_13 rfl

theorem sh_X6_readDepth_ok {w : Gw} {d : Nat} {x0 : Nat} {M : Gm} {out : Int32 × Gm} (h : sh_X6_readDepth x0 M = some out) : Ev w mdX6_readDepth (d + 2) [.inr x0] M (.inl (some (.inl out.1))) out.2 := by
  obtain ⟨u, e0, h⟩ := bnd h
  exact ev_of okX6_readDepth ⟨_, _, rfl, isO_of e0 (by decide), by decide⟩ (Nat.le_of_ble_eq_true rfl) (X6_readDepth_F_ok h)

/-! HeatGovernor$Reader.readZone(LHeatGovernor$Plan;)V -/
def X6_readZone_J74 (x0 : Nat) (x1 : Nat) (s0 : Nat) (s1 : Int32) (M : Gm) : Option (Gm) :=
  (pfI M s0 10 3 s1).bind fun M1 =>
  (sh_X6_needSemicolon x0 M1).bind fun q3 =>
  (gfI q3 x1 5 5).bind fun v5 =>
  (pfI q3 x1 5 5 (v5 + 1)).bind fun M7 =>
  some M7
def X6_readZone_F (x0 : Nat) (x1 : Nat) (M : Gm) : Option (Gm) :=
  (gfI M x1 5 5).bind fun v1 =>
  if v1 < 5 then
    (gfR M x1 5 0).bind fun v3 =>
    (gfI M x1 5 5).bind fun v5 =>
    (ldR M 4 v3 v5).bind fun v7 =>
    (sh_X6_readNumber x0 0 99 M).bind fun q9 =>
    (pfI q9.2 v7 10 0 q9.1).bind fun M11 =>
    (sh_X6_readNumber x0 1 50 M11).bind fun q13 =>
    (pfI q13.2 v7 10 1 q13.1).bind fun M15 =>
    (sh_X6_nextToken x0 M15).bind fun q17 =>
    (sh_X6_filterKind x0 q17).bind fun q19 =>
    (pfI q17 v7 10 2 q19).bind fun M21 =>
    (gfI M21 v7 10 2).bind fun v23 =>
    if v23 = 0 then
      X6_readZone_J74 x0 x1 v7 1 M21
    else
      (sh_X6_readDepth x0 M21).bind fun q25 =>
      X6_readZone_J74 x0 x1 v7 q25.1 q25.2
  else
    (sh_X6_fail x0 2 M).bind fun q27 =>
    some q27
def sh_X6_readZone (x0 : Nat) (x1 : Nat) (M : Gm) : Option (Gm) := (isO M x0 6).bind fun _ => X6_readZone_F x0 x1 M
theorem X6_readZone_J74_ok {w : Gw} {d : Nat} {x0 : Nat} {x1 : Nat} {s0 : Nat} {s1 : Int32} {M : Gm} {out : Gm} (h : X6_readZone_J74 x0 x1 s0 s1 M = some out) : Wp w mdX6_readZone (d + 8) 74 [some (.inr x0), some (.inr x1), none] [.inl s1, .inr s0] M (.inl none) out := by
  unfold X6_readZone_J74 at h
  obtain ⟨M1, e2, h⟩ := bnd h
  refine wp_putI (c := 10) (k := 3) dX6_readZone_74 e2 (by decide) (by decide) rfl fl_RX6_117 (Or.inl rfl) ?_
  refine wp_aload_n dX6_readZone_77 rfl ?_
  obtain ⟨q3, e4, h⟩ := bnd h
  refine wp_callV (As := []) dX6_readZone_78 (sh_X6_needSemicolon_ok (d := d + 6) e4) okX6_needSemicolon nnX6_needSemicolon vvX6_needSemicolon ml_RX6_120 rfl (Nat.le_of_ble_eq_true rfl) ?_
  refine wp_aload_n dX6_readZone_81 rfl ?_
  refine wp_dup dX6_readZone_82 ?_
  obtain ⟨v5, e6, h⟩ := bnd h
  refine wp_getI (c := 5) (k := 5) dX6_readZone_83 e6 (by decide) (by decide) rfl fl_RX6_88 ?_
  refine wp_iconst (v := 1) dX6_readZone_86 (by decide) ?_
  refine wp_iadd dX6_readZone_87 ?_
  obtain ⟨M7, e8, h⟩ := bnd h
  refine wp_putI (c := 5) (k := 5) dX6_readZone_88 e8 (by decide) (by decide) rfl fl_RX6_88 (Or.inl rfl) ?_
  cases h
  exact wp_ret dX6_readZone_91 rfl

theorem X6_readZone_F_ok {w : Gw} {d : Nat} {x0 : Nat} {x1 : Nat} {M : Gm} {out : Gm} (h : X6_readZone_F x0 x1 M = some out) : Wp w mdX6_readZone (d + 8) 0 [some (.inr x0), some (.inr x1), none] [] M (.inl none) out := by
  unfold X6_readZone_F at h
  refine wp_aload_n dX6_readZone_0 rfl ?_
  obtain ⟨v1, e2, h⟩ := bnd h
  refine wp_getI (c := 5) (k := 5) dX6_readZone_1 e2 (by decide) (by decide) rfl fl_RX6_88 ?_
  refine wp_iconst (v := 5) dX6_readZone_4 (by decide) ?_
  refine wp_icmp_lt (tgt := 14) dX6_readZone_5 (by decide) (fun hc_ => ?_) (fun hc_ => ?_)
  · replace h := ite_t hc_ h
    refine wp_aload_n dX6_readZone_14 rfl ?_
    obtain ⟨v3, e4, h⟩ := bnd h
    refine wp_getR (c := 5) (k := 0) dX6_readZone_15 e4 (by decide) (by decide) rfl fl_RX6_91 ?_
    refine wp_aload_n dX6_readZone_18 rfl ?_
    obtain ⟨v5, e6, h⟩ := bnd h
    refine wp_getI (c := 5) (k := 5) dX6_readZone_19 e6 (by decide) (by decide) rfl fl_RX6_88 ?_
    obtain ⟨v7, e8, h⟩ := bnd h
    refine wp_aaload (t := 4) dX6_readZone_22 (by decide) rfl e8 ?_
    refine wp_astore_n dX6_readZone_23 (Nat.le_of_ble_eq_true rfl) ?_
    refine wp_aload_n dX6_readZone_24 rfl ?_
    refine wp_aload_n dX6_readZone_25 rfl ?_
    refine wp_iconst (v := 0) dX6_readZone_26 (by decide) ?_
    refine wp_bipush (v := 99) dX6_readZone_27 (by decide) ?_
    obtain ⟨q9, e10, h⟩ := bnd h
    refine wp_callV (As := [.inl 0, .inl 99]) dX6_readZone_29 (sh_X6_readNumber_ok (d := d + 5) e10) okX6_readNumber nnX6_readNumber vvX6_readNumber ml_RX6_95 rfl (Nat.le_of_ble_eq_true rfl) ?_
    obtain ⟨M11, e12, h⟩ := bnd h
    refine wp_putI (c := 10) (k := 0) dX6_readZone_32 e12 (by decide) (by decide) rfl fl_RX6_99 (Or.inl rfl) ?_
    refine wp_aload_n dX6_readZone_35 rfl ?_
    refine wp_aload_n dX6_readZone_36 rfl ?_
    refine wp_iconst (v := 1) dX6_readZone_37 (by decide) ?_
    refine wp_bipush (v := 50) dX6_readZone_38 (by decide) ?_
    obtain ⟨q13, e14, h⟩ := bnd h
    refine wp_callV (As := [.inl 1, .inl 50]) dX6_readZone_40 (sh_X6_readNumber_ok (d := d + 5) e14) okX6_readNumber nnX6_readNumber vvX6_readNumber ml_RX6_95 rfl (Nat.le_of_ble_eq_true rfl) ?_
    obtain ⟨M15, e16, h⟩ := bnd h
    refine wp_putI (c := 10) (k := 1) dX6_readZone_43 e16 (by decide) (by decide) rfl fl_RX6_104 (Or.inl rfl) ?_
    refine wp_aload_n dX6_readZone_46 rfl ?_
    obtain ⟨q17, e18, h⟩ := bnd h
    refine wp_callV (As := []) dX6_readZone_47 (sh_X6_nextToken_ok (d := d + 6) e18) okX6_nextToken nnX6_nextToken vvX6_nextToken ml_RX6_40 rfl (Nat.le_of_ble_eq_true rfl) ?_
    refine wp_aload_n dX6_readZone_50 rfl ?_
    refine wp_aload_n dX6_readZone_51 rfl ?_
    obtain ⟨q19, e20, h⟩ := bnd h
    refine wp_callV (As := []) dX6_readZone_52 (sh_X6_filterKind_ok (d := d) e20) okX6_filterKind nnX6_filterKind vvX6_filterKind ml_RX6_107 rfl (Nat.le_of_ble_eq_true rfl) ?_
    obtain ⟨M21, e22, h⟩ := bnd h
    refine wp_putI (c := 10) (k := 2) dX6_readZone_55 e22 (by decide) (by decide) rfl fl_RX6_111 (Or.inl rfl) ?_
    refine wp_aload_n dX6_readZone_58 rfl ?_
    refine wp_aload_n dX6_readZone_59 rfl ?_
    obtain ⟨v23, e24, h⟩ := bnd h
    refine wp_getI (c := 10) (k := 2) dX6_readZone_60 e24 (by decide) (by decide) rfl fl_RX6_111 ?_
    refine wp_if_ne (tgt := 70) dX6_readZone_63 (by decide) (fun hc_ => ?_) (fun hc_ => ?_)
    · replace h := ite_f hc_ h
      refine wp_aload_n dX6_readZone_70 rfl ?_
      obtain ⟨q25, e26, h⟩ := bnd h
      refine wp_callV (As := []) dX6_readZone_71 (sh_X6_readDepth_ok (d := d + 5) e26) okX6_readDepth nnX6_readDepth vvX6_readDepth ml_RX6_114 rfl (Nat.le_of_ble_eq_true rfl) ?_
      exact wp_ls (lsS (lsS (lsN lsZ))) (X6_readZone_J74_ok h)
    · replace h := ite_t hc_ h
      refine wp_iconst (v := 1) dX6_readZone_66 (by decide) ?_
      refine wp_goto (tgt := 74) dX6_readZone_67 (by decide) ?_
      exact wp_ls (lsS (lsS (lsN lsZ))) (X6_readZone_J74_ok h)
  · replace h := ite_f hc_ h
    refine wp_aload_n dX6_readZone_8 rfl ?_
    refine wp_iconst (v := 2) dX6_readZone_9 (by decide) ?_
    obtain ⟨q27, e28, h⟩ := bnd h
    refine wp_callV (As := [.inl 2]) dX6_readZone_10 (sh_X6_fail_ok (d := d + 7) e28) okX6_fail nnX6_fail vvX6_fail ml_RX6_84 rfl (Nat.le_of_ble_eq_true rfl) ?_
    cases h
    exact wp_ret dX6_readZone_13 rfl

theorem sh_X6_readZone_ok {w : Gw} {d : Nat} {x0 : Nat} {x1 : Nat} {M : Gm} {out : Gm} (h : sh_X6_readZone x0 x1 M = some out) : Ev w mdX6_readZone (d + 8) [.inr x0, .inr x1] M (.inl none) out := by
  obtain ⟨u, e0, h⟩ := bnd h
  exact ev_of okX6_readZone ⟨_, _, rfl, isO_of e0 (by decide), by decide⟩ (Nat.le_of_ble_eq_true rfl) (X6_readZone_F_ok h)

/-! HeatGovernor$Reader.readClause(LHeatGovernor$Plan;)V -/
def X6_readClause_J107 (M : Gm) : Option (Gm) :=
  some M
def X6_readClause_F (x0 : Nat) (x1 : Nat) (M : Gm) : Option (Gm) :=
  (sh_X6_isWord x0 3 M).bind fun q1 =>
  if q1 = 0 then
    (sh_X6_isWord x0 7 M).bind fun q3 =>
    if q3 = 0 then
      (sh_X6_isWord x0 12 M).bind fun q5 =>
      if q5 = 0 then
        (sh_X6_isWord x0 16 M).bind fun q7 =>
        if q7 = 0 then
          (sh_X6_isWord x0 17 M).bind fun q9 =>
          if q9 = 0 then
            (sh_X6_isWord x0 18 M).bind fun q11 =>
            if q11 = 0 then
              (sh_X6_fail x0 1 M).bind fun q13 =>
              X6_readClause_J107 q13
            else
              (sh_X6_readForeseen x0 x1 M).bind fun q15 =>
              X6_readClause_J107 q15
          else
            (sh_X6_readWall x0 x1 M).bind fun q17 =>
            X6_readClause_J107 q17
        else
          (sh_X6_readBind x0 x1 M).bind fun q19 =>
          X6_readClause_J107 q19
      else
        (sh_X6_readDevice x0 x1 M).bind fun q21 =>
        X6_readClause_J107 q21
    else
      (sh_X6_readTrip x0 x1 M).bind fun q23 =>
      X6_readClause_J107 q23
  else
    (sh_X6_readZone x0 x1 M).bind fun q25 =>
    X6_readClause_J107 q25
def sh_X6_readClause (x0 : Nat) (x1 : Nat) (M : Gm) : Option (Gm) := (isO M x0 6).bind fun _ => X6_readClause_F x0 x1 M
theorem X6_readClause_J107_ok {w : Gw} {d : Nat} {M : Gm} {out : Gm} (h : X6_readClause_J107 M = some out) : Wp w mdX6_readClause (d + 9) 107 [none, none] [] M (.inl none) out := by
  unfold X6_readClause_J107 at h
  cases h
  exact wp_ret dX6_readClause_107 rfl

theorem X6_readClause_F_ok {w : Gw} {d : Nat} {x0 : Nat} {x1 : Nat} {M : Gm} {out : Gm} (h : X6_readClause_F x0 x1 M = some out) : Wp w mdX6_readClause (d + 9) 0 [some (.inr x0), some (.inr x1)] [] M (.inl none) out := by
  unfold X6_readClause_F at h
  refine wp_aload_n dX6_readClause_0 rfl ?_
  refine wp_ldcS (tx := "zone") (sid := 3) dX6_readClause_1 (by decide +kernel) (by decide) ?_
  obtain ⟨q1, e2, h⟩ := bnd h
  refine wp_callV (As := [.inr 3]) dX6_readClause_3 (sh_X6_isWord_ok (d := d + 2) e2) okX6_isWord nnX6_isWord vvX6_isWord ml_RX6_52 rfl (Nat.le_of_ble_eq_true rfl) ?_
  refine wp_if_eq (tgt := 17) dX6_readClause_6 (by decide) (fun hc_ => ?_) (fun hc_ => ?_)
  · replace h := ite_t hc_ h
    refine wp_aload_n dX6_readClause_17 rfl ?_
    refine wp_ldcS (tx := "trip") (sid := 7) dX6_readClause_18 (by decide +kernel) (by decide) ?_
    obtain ⟨q3, e4, h⟩ := bnd h
    refine wp_callV (As := [.inr 7]) dX6_readClause_20 (sh_X6_isWord_ok (d := d + 2) e4) okX6_isWord nnX6_isWord vvX6_isWord ml_RX6_52 rfl (Nat.le_of_ble_eq_true rfl) ?_
    refine wp_if_eq (tgt := 34) dX6_readClause_23 (by decide) (fun hc_ => ?_) (fun hc_ => ?_)
    · replace h := ite_t hc_ h
      refine wp_aload_n dX6_readClause_34 rfl ?_
      refine wp_ldcS (tx := "device") (sid := 12) dX6_readClause_35 (by decide +kernel) (by decide) ?_
      obtain ⟨q5, e6, h⟩ := bnd h
      refine wp_callV (As := [.inr 12]) dX6_readClause_37 (sh_X6_isWord_ok (d := d + 2) e6) okX6_isWord nnX6_isWord vvX6_isWord ml_RX6_52 rfl (Nat.le_of_ble_eq_true rfl) ?_
      refine wp_if_eq (tgt := 51) dX6_readClause_40 (by decide) (fun hc_ => ?_) (fun hc_ => ?_)
      · replace h := ite_t hc_ h
        refine wp_aload_n dX6_readClause_51 rfl ?_
        refine wp_ldcS (tx := "bind") (sid := 16) dX6_readClause_52 (by decide +kernel) (by decide) ?_
        obtain ⟨q7, e8, h⟩ := bnd h
        refine wp_callV (As := [.inr 16]) dX6_readClause_54 (sh_X6_isWord_ok (d := d + 2) e8) okX6_isWord nnX6_isWord vvX6_isWord ml_RX6_52 rfl (Nat.le_of_ble_eq_true rfl) ?_
        refine wp_if_eq (tgt := 68) dX6_readClause_57 (by decide) (fun hc_ => ?_) (fun hc_ => ?_)
        · replace h := ite_t hc_ h
          refine wp_aload_n dX6_readClause_68 rfl ?_
          refine wp_ldcS (tx := "wall") (sid := 17) dX6_readClause_69 (by decide +kernel) (by decide) ?_
          obtain ⟨q9, e10, h⟩ := bnd h
          refine wp_callV (As := [.inr 17]) dX6_readClause_71 (sh_X6_isWord_ok (d := d + 2) e10) okX6_isWord nnX6_isWord vvX6_isWord ml_RX6_52 rfl (Nat.le_of_ble_eq_true rfl) ?_
          refine wp_if_eq (tgt := 85) dX6_readClause_74 (by decide) (fun hc_ => ?_) (fun hc_ => ?_)
          · replace h := ite_t hc_ h
            refine wp_aload_n dX6_readClause_85 rfl ?_
            refine wp_ldcS (tx := "foreseen") (sid := 18) dX6_readClause_86 (by decide +kernel) (by decide) ?_
            obtain ⟨q11, e12, h⟩ := bnd h
            refine wp_callV (As := [.inr 18]) dX6_readClause_88 (sh_X6_isWord_ok (d := d + 2) e12) okX6_isWord nnX6_isWord vvX6_isWord ml_RX6_52 rfl (Nat.le_of_ble_eq_true rfl) ?_
            refine wp_if_eq (tgt := 102) dX6_readClause_91 (by decide) (fun hc_ => ?_) (fun hc_ => ?_)
            · replace h := ite_t hc_ h
              refine wp_aload_n dX6_readClause_102 rfl ?_
              refine wp_iconst (v := 1) dX6_readClause_103 (by decide) ?_
              obtain ⟨q13, e14, h⟩ := bnd h
              refine wp_callV (As := [.inl 1]) dX6_readClause_104 (sh_X6_fail_ok (d := d + 8) e14) okX6_fail nnX6_fail vvX6_fail ml_RX6_84 rfl (Nat.le_of_ble_eq_true rfl) ?_
              exact wp_ls (lsN (lsN lsZ)) (X6_readClause_J107_ok h)
            · replace h := ite_f hc_ h
              refine wp_aload_n dX6_readClause_94 rfl ?_
              refine wp_aload_n dX6_readClause_95 rfl ?_
              obtain ⟨q15, e16, h⟩ := bnd h
              refine wp_callV (As := [.inr x1]) dX6_readClause_96 (sh_X6_readForeseen_ok (d := d + 5) e16) okX6_readForeseen nnX6_readForeseen vvX6_readForeseen ml_RX6_81 rfl (Nat.le_of_ble_eq_true rfl) ?_
              refine wp_goto (tgt := 107) dX6_readClause_99 (by decide) ?_
              exact wp_ls (lsN (lsN lsZ)) (X6_readClause_J107_ok h)
          · replace h := ite_f hc_ h
            refine wp_aload_n dX6_readClause_77 rfl ?_
            refine wp_aload_n dX6_readClause_78 rfl ?_
            obtain ⟨q17, e18, h⟩ := bnd h
            refine wp_callV (As := [.inr x1]) dX6_readClause_79 (sh_X6_readWall_ok (d := d + 5) e18) okX6_readWall nnX6_readWall vvX6_readWall ml_RX6_76 rfl (Nat.le_of_ble_eq_true rfl) ?_
            refine wp_goto (tgt := 107) dX6_readClause_82 (by decide) ?_
            exact wp_ls (lsN (lsN lsZ)) (X6_readClause_J107_ok h)
        · replace h := ite_f hc_ h
          refine wp_aload_n dX6_readClause_60 rfl ?_
          refine wp_aload_n dX6_readClause_61 rfl ?_
          obtain ⟨q19, e20, h⟩ := bnd h
          refine wp_callV (As := [.inr x1]) dX6_readClause_62 (sh_X6_readBind_ok (d := d + 5) e20) okX6_readBind nnX6_readBind vvX6_readBind ml_RX6_71 rfl (Nat.le_of_ble_eq_true rfl) ?_
          refine wp_goto (tgt := 107) dX6_readClause_65 (by decide) ?_
          exact wp_ls (lsN (lsN lsZ)) (X6_readClause_J107_ok h)
      · replace h := ite_f hc_ h
        refine wp_aload_n dX6_readClause_43 rfl ?_
        refine wp_aload_n dX6_readClause_44 rfl ?_
        obtain ⟨q21, e22, h⟩ := bnd h
        refine wp_callV (As := [.inr x1]) dX6_readClause_45 (sh_X6_readDevice_ok (d := d) e22) okX6_readDevice nnX6_readDevice vvX6_readDevice ml_RX6_66 rfl (Nat.le_of_ble_eq_true rfl) ?_
        refine wp_goto (tgt := 107) dX6_readClause_48 (by decide) ?_
        exact wp_ls (lsN (lsN lsZ)) (X6_readClause_J107_ok h)
    · replace h := ite_f hc_ h
      refine wp_aload_n dX6_readClause_26 rfl ?_
      refine wp_aload_n dX6_readClause_27 rfl ?_
      obtain ⟨q23, e24, h⟩ := bnd h
      refine wp_callV (As := [.inr x1]) dX6_readClause_28 (sh_X6_readTrip_ok (d := d) e24) okX6_readTrip nnX6_readTrip vvX6_readTrip ml_RX6_61 rfl (Nat.le_of_ble_eq_true rfl) ?_
      refine wp_goto (tgt := 107) dX6_readClause_31 (by decide) ?_
      exact wp_ls (lsN (lsN lsZ)) (X6_readClause_J107_ok h)
  · replace h := ite_f hc_ h
    refine wp_aload_n dX6_readClause_9 rfl ?_
    refine wp_aload_n dX6_readClause_10 rfl ?_
    obtain ⟨q25, e26, h⟩ := bnd h
    refine wp_callV (As := [.inr x1]) dX6_readClause_11 (sh_X6_readZone_ok (d := d) e26) okX6_readZone nnX6_readZone vvX6_readZone ml_RX6_56 rfl (Nat.le_of_ble_eq_true rfl) ?_
    refine wp_goto (tgt := 107) dX6_readClause_14 (by decide) ?_
    exact wp_ls (lsN (lsN lsZ)) (X6_readClause_J107_ok h)

theorem sh_X6_readClause_ok {w : Gw} {d : Nat} {x0 : Nat} {x1 : Nat} {M : Gm} {out : Gm} (h : sh_X6_readClause x0 x1 M = some out) : Ev w mdX6_readClause (d + 9) [.inr x0, .inr x1] M (.inl none) out := by
  obtain ⟨u, e0, h⟩ := bnd h
  exact ev_of okX6_readClause ⟨_, _, rfl, isO_of e0 (by decide), by decide⟩ (Nat.le_of_ble_eq_true rfl) (X6_readClause_F_ok h)

/-! HeatGovernor$Reader.readText(ILHeatGovernor$Plan;)I -/
def X6_readText_B34 (x0 : Nat) (x2 : Nat) (q : Int32 × Gm) : Option ((Int32 × Gm) ⊕ Gm) :=
  (gfI q.2 x0 6 1).bind fun v1 =>
  if v1 ≤ q.1 then
    some (.inr q.2)
  else
    (gfI q.2 x0 6 3).bind fun v3 =>
    if v3 = 0 then
      some (.inr q.2)
    else
      (gfI q.2 x0 6 5).bind fun v5 =>
      if v5 = 0 then
        (sh_X6_readClause x0 x2 q.2).bind fun q7 =>
        (sh_X6_nextToken x0 q7).bind fun q9 =>
        some (.inl (q.1 + 1, q9))
      else
        some (.inr q.2)
def X6_readText_J71 (x0 : Nat) (x2 : Nat) (M : Gm) : Option (Int32 × Gm) :=
  (sh_X5_findBindsOfTrips x2 M).bind fun q1 =>
  (gfI q1 x0 6 5).bind fun v3 =>
  some (v3, q1)
def X6_readText_F (x0 : Nat) (x1 : Int32) (x2 : Nat) (M : Gm) : Option (Int32 × Gm) :=
  (gfR M x0 6 0).bind fun v1 =>
  (alen M v1).bind fun v3 =>
  (sh_X11_within x1 0 v3 M).bind fun q5 =>
  (pfI M x0 6 1 q5).bind fun M7 =>
  (pfI M7 x0 6 2 0).bind fun M9 =>
  (pfI M9 x0 6 5 0).bind fun M11 =>
  (sh_X5_clear x2 M11).bind fun q13 =>
  (sh_X6_nextToken x0 q13).bind fun q15 =>
  (lp (X6_readText_B34 x0 x2) FU (0, q15)).bind fun r17 =>
  X6_readText_J71 x0 x2 r17
def sh_X6_readText (x0 : Nat) (x1 : Int32) (x2 : Nat) (M : Gm) : Option (Int32 × Gm) := (isO M x0 6).bind fun _ => X6_readText_F x0 x1 x2 M
theorem X6_readText_B34_ok {w : Gw} {d : Nat} {x0 : Nat} {x2 : Nat} {q : Int32 × Gm} {o : Go} {M' : Gm} {out : (Int32 × Gm) ⊕ Gm} (h : X6_readText_B34 x0 x2 q = some out) (hc : ∀ t : Int32 × Gm, out = .inl t → Wp w mdX6_readText (d + 10) 34 [some (.inr x0), none, some (.inr x2), some (.inl t.1)] [] t.2 o M') (he0 : ∀ t : Gm, out = .inr t → Wp w mdX6_readText (d + 10) 71 [some (.inr x0), none, some (.inr x2), none] [] t o M') : Wp w mdX6_readText (d + 10) 34 [some (.inr x0), none, some (.inr x2), some (.inl q.1)] [] q.2 o M' := by
  unfold X6_readText_B34 at h
  refine wp_iload_n dX6_readText_34 rfl ?_
  refine wp_aload_n dX6_readText_35 rfl ?_
  obtain ⟨v1, e2, h⟩ := bnd h
  refine wp_getI (c := 6) (k := 1) dX6_readText_36 e2 (by decide) (by decide) rfl fl_RX6_9 ?_
  refine wp_icmp_ge (tgt := 71) dX6_readText_39 (by decide) (fun hc_ => ?_) (fun hc_ => ?_)
  · replace h := ite_t hc_ h
    cases h
    exact wp_ls (lsS (lsN (lsS (lsN lsZ)))) (he0 q.2 rfl)
  · replace h := ite_f hc_ h
    refine wp_aload_n dX6_readText_42 rfl ?_
    obtain ⟨v3, e4, h⟩ := bnd h
    refine wp_getI (c := 6) (k := 3) dX6_readText_43 e4 (by decide) (by decide) rfl fl_RX6_18 ?_
    refine wp_if_eq (tgt := 71) dX6_readText_46 (by decide) (fun hc_ => ?_) (fun hc_ => ?_)
    · replace h := ite_t hc_ h
      cases h
      exact wp_ls (lsS (lsN (lsS (lsN lsZ)))) (he0 q.2 rfl)
    · replace h := ite_f hc_ h
      refine wp_aload_n dX6_readText_49 rfl ?_
      obtain ⟨v5, e6, h⟩ := bnd h
      refine wp_getI (c := 6) (k := 5) dX6_readText_50 e6 (by decide) (by decide) rfl fl_RX6_24 ?_
      refine wp_if_ne (tgt := 71) dX6_readText_53 (by decide) (fun hc_ => ?_) (fun hc_ => ?_)
      · replace h := ite_f hc_ h
        cases h
        exact wp_ls (lsS (lsN (lsS (lsN lsZ)))) (he0 q.2 rfl)
      · replace h := ite_t hc_ h
        refine wp_aload_n dX6_readText_56 rfl ?_
        refine wp_aload_n dX6_readText_57 rfl ?_
        obtain ⟨q7, e8, h⟩ := bnd h
        refine wp_callV (As := [.inr x2]) dX6_readText_58 (sh_X6_readClause_ok (d := d) e8) okX6_readClause nnX6_readClause vvX6_readClause ml_RX6_43 rfl (Nat.le_of_ble_eq_true rfl) ?_
        refine wp_aload_n dX6_readText_61 rfl ?_
        obtain ⟨q9, e10, h⟩ := bnd h
        refine wp_callV (As := []) dX6_readText_62 (sh_X6_nextToken_ok (d := d + 8) e10) okX6_nextToken nnX6_nextToken vvX6_nextToken ml_RX6_40 rfl (Nat.le_of_ble_eq_true rfl) ?_
        refine wp_iinc (v := q.1 + 1) dX6_readText_65 rfl rfl ?_
        refine wp_goto (tgt := 34) dX6_readText_68 (by decide) ?_
        cases h
        exact wp_ls (lsS (lsN (lsS (lsS lsZ)))) (hc (q.1 + 1, q9) rfl)

theorem X6_readText_B34_lp {w : Gw} {d : Nat} {x0 : Nat} {x2 : Nat} {o : Go} {M' : Gm} {r : Gm} : ∀ (n : Nat) (q : Int32 × Gm), lp (X6_readText_B34 x0 x2) n q = some r → (∀ t : Gm, r = t → Wp w mdX6_readText (d + 10) 71 [some (.inr x0), none, some (.inr x2), none] [] t o M') → Wp w mdX6_readText (d + 10) 34 [some (.inr x0), none, some (.inr x2), some (.inl q.1)] [] q.2 o M' := by
  intro n
  induction n with
  | zero => intro q h; cases h
  | succ n ih =>
    intro q h he0
    cases hb : X6_readText_B34 x0 x2 q with
    | none => rw [lp_succ, hb] at h; cases h
    | some out =>
      rw [lp_succ, hb] at h
      exact X6_readText_B34_ok hb (fun t e => ih t (by rw [e] at h; exact h) he0) (fun t e => he0 t (by rw [e] at h; cases h; rfl))
theorem X6_readText_J71_ok {w : Gw} {d : Nat} {x0 : Nat} {x2 : Nat} {M : Gm} {out : Int32 × Gm} (h : X6_readText_J71 x0 x2 M = some out) : Wp w mdX6_readText (d + 10) 71 [some (.inr x0), none, some (.inr x2), none] [] M (.inl (some (.inl out.1))) out.2 := by
  unfold X6_readText_J71 at h
  refine wp_aload_n dX6_readText_71 rfl ?_
  obtain ⟨q1, e2, h⟩ := bnd h
  refine wp_callV (As := []) dX6_readText_72 (sh_X5_findBindsOfTrips_ok (d := d + 9) e2) okX5_findBindsOfTrips nnX5_findBindsOfTrips vvX5_findBindsOfTrips ml_RX6_47 rfl (Nat.le_of_ble_eq_true rfl) ?_
  refine wp_aload_n dX6_readText_75 rfl ?_
  obtain ⟨v3, e4, h⟩ := bnd h
  refine wp_getI (c := 6) (k := 5) dX6_readText_76 e4 (by decide) (by decide) rfl fl_RX6_24 ?_
  cases h
  exact wp_iret dX6_readText_79 rfl

theorem X6_readText_F_ok {w : Gw} {d : Nat} {x0 : Nat} {x1 : Int32} {x2 : Nat} {M : Gm} {out : Int32 × Gm} (h : X6_readText_F x0 x1 x2 M = some out) : Wp w mdX6_readText (d + 10) 0 [some (.inr x0), some (.inl x1), some (.inr x2), none] [] M (.inl (some (.inl out.1))) out.2 := by
  unfold X6_readText_F at h
  refine wp_aload_n dX6_readText_0 rfl ?_
  refine wp_iload_n dX6_readText_1 rfl ?_
  refine wp_iconst (v := 0) dX6_readText_2 (by decide) ?_
  refine wp_aload_n dX6_readText_3 rfl ?_
  obtain ⟨v1, e2, h⟩ := bnd h
  refine wp_getR (c := 6) (k := 0) dX6_readText_4 e2 (by decide) (by decide) rfl fl_RX6_27 ?_
  obtain ⟨v3, e4, h⟩ := bnd h
  refine wp_alen dX6_readText_7 e4 ?_
  obtain ⟨q5, e6, h⟩ := bnd h
  refine wp_callSN (As := [.inl x1, .inl 0, .inl v3]) dX6_readText_8 (sh_X11_within_ok (d := d + 8) e6) okX11_within nnX11_within ssX11_within nl_RX6_31 rfl (Nat.le_of_ble_eq_true rfl) ?_
  obtain ⟨M7, e8, h⟩ := bnd h
  refine wp_putI (c := 6) (k := 1) dX6_readText_11 e8 (by decide) (by decide) rfl fl_RX6_9 (Or.inl rfl) ?_
  refine wp_aload_n dX6_readText_14 rfl ?_
  refine wp_iconst (v := 0) dX6_readText_15 (by decide) ?_
  obtain ⟨M9, e10, h⟩ := bnd h
  refine wp_putI (c := 6) (k := 2) dX6_readText_16 e10 (by decide) (by decide) rfl fl_RX6_15 (Or.inl rfl) ?_
  refine wp_aload_n dX6_readText_19 rfl ?_
  refine wp_iconst (v := 0) dX6_readText_20 (by decide) ?_
  obtain ⟨M11, e12, h⟩ := bnd h
  refine wp_putI (c := 6) (k := 5) dX6_readText_21 e12 (by decide) (by decide) rfl fl_RX6_24 (Or.inl rfl) ?_
  refine wp_aload_n dX6_readText_24 rfl ?_
  obtain ⟨q13, e14, h⟩ := bnd h
  refine wp_callV (As := []) dX6_readText_25 (sh_X5_clear_ok (d := d + 9) e14) okX5_clear nnX5_clear vvX5_clear ml_RX6_35 rfl (Nat.le_of_ble_eq_true rfl) ?_
  refine wp_aload_n dX6_readText_28 rfl ?_
  obtain ⟨q15, e16, h⟩ := bnd h
  refine wp_callV (As := []) dX6_readText_29 (sh_X6_nextToken_ok (d := d + 8) e16) okX6_nextToken nnX6_nextToken vvX6_nextToken ml_RX6_40 rfl (Nat.le_of_ble_eq_true rfl) ?_
  refine wp_iconst (v := 0) dX6_readText_32 (by decide) ?_
  refine wp_istore_n dX6_readText_33 (Nat.le_of_ble_eq_true rfl) ?_
  obtain ⟨r17, e18, h⟩ := bnd h
  refine wp_ls (lsS (lsN (lsS (lsS lsZ)))) (X6_readText_B34_lp FU _ e18 ?_)
  intro t_ ht_; cases ht_
  exact wp_ls (lsS (lsN (lsS (lsN lsZ)))) (X6_readText_J71_ok h)

theorem sh_X6_readText_ok {w : Gw} {d : Nat} {x0 : Nat} {x1 : Int32} {x2 : Nat} {M : Gm} {out : Int32 × Gm} (h : sh_X6_readText x0 x1 x2 M = some out) : Ev w mdX6_readText (d + 10) [.inr x0, .inl x1, .inr x2] M (.inl (some (.inl out.1))) out.2 := by
  obtain ⟨u, e0, h⟩ := bnd h
  exact ev_of okX6_readText ⟨_, _, rfl, isO_of e0 (by decide), by decide⟩ (Nat.le_of_ble_eq_true rfl) (X6_readText_F_ok h)

/-! HeatGovernor.plan(I)I -/
def X11_plan_J12 (M : Gm) : Option ((Int32 × Gm) ⊕ (Nat × Gm)) :=
  some (.inr (2, nwM M (14, 0)))
def X11_plan_F (x0 : Nat) (x1 : Int32) (M : Gm) : Option ((Int32 × Gm) ⊕ (Nat × Gm)) :=
  if x1 < 0 then
    X11_plan_J12 M
  else
    (gfI M x0 11 1).bind fun v1 =>
    if x1 ≤ v1 then
      (pfI M x0 11 1 0).bind fun M3 =>
      (gfR M3 x0 11 3).bind fun v5 =>
      (gfR M3 x0 11 5).bind fun v7 =>
      (sh_X6_readText v5 x1 v7 M3).bind fun q9 =>
      if q9.1 = 0 then
        (pfI q9.2 x0 11 2 ((-1))).bind fun M11 =>
        (gfR M11 x0 11 4).bind fun v13 =>
        (gfR M11 x0 11 5).bind fun v15 =>
        (pfR M11 x0 11 4 v15).bind fun M17 =>
        (pfR M17 x0 11 5 v13).bind fun M19 =>
        (gfR M19 x0 11 6).bind fun v21 =>
        (gfR M19 x0 11 4).bind fun v23 =>
        (sh_X4_begin v21 v23 M19).bind fun q25 =>
        (pfZ q25 x0 11 8 0).bind fun M27 =>
        some (.inl (0, M27))
      else
        (gfR q9.2 x0 11 3).bind fun v29 =>
        (sh_X6_faultPlace v29 q9.2).bind fun q31 =>
        (pfI q9.2 x0 11 2 q31).bind fun M33 =>
        (gfR M33 x0 11 6).bind fun v35 =>
        (gfR M33 v35 4 8).bind fun v37 =>
        (ldA M33 0 v37 0).bind fun v39 =>
        (stA M33 0 v37 0 (v39 + 1)).bind fun M41 =>
        some (.inl (q9.1, M41))
    else
      X11_plan_J12 M
def sh_X11_plan (x0 : Nat) (x1 : Int32) (M : Gm) : Option ((Int32 × Gm) ⊕ (Nat × Gm)) := (isO M x0 11).bind fun _ => X11_plan_F x0 x1 M
theorem X11_plan_J12_ok {w : Gw} {d : Nat} {M : Gm} {out : (Int32 × Gm) ⊕ (Nat × Gm)} (h : X11_plan_J12 M = some out) : Wp w mdX11_plan (d + 11) 12 [none, none, none, none] [] M (xoP out) (xmP out) := by
  unfold X11_plan_J12 at h
  cases h
  exact wp_throwS (tx := "the tape has not so many bytes") (sid := 2) ⟨rfl, rfl, rfl⟩ rfl rfl dX11_plan_12 dX11_plan_15 dX11_plan_16 dX11_plan_18 dX11_plan_21 cl_RX11_75 ini_IAE (by decide +kernel) (Nat.le_of_ble_eq_true rfl) (by omega)

theorem X11_plan_F_ok {w : Gw} {d : Nat} {x0 : Nat} {x1 : Int32} {M : Gm} {out : (Int32 × Gm) ⊕ (Nat × Gm)} (h : X11_plan_F x0 x1 M = some out) : Wp w mdX11_plan (d + 11) 0 [some (.inr x0), some (.inl x1), none, none] [] M (xoP out) (xmP out) := by
  unfold X11_plan_F at h
  refine wp_iload_n dX11_plan_0 rfl ?_
  refine wp_if_lt (tgt := 12) dX11_plan_1 (by decide) (fun hc_ => ?_) (fun hc_ => ?_)
  · replace h := ite_t hc_ h
    exact wp_ls (lsN (lsN (lsN (lsN lsZ)))) (X11_plan_J12_ok h)
  · replace h := ite_f hc_ h
    refine wp_iload_n dX11_plan_4 rfl ?_
    refine wp_aload_n dX11_plan_5 rfl ?_
    obtain ⟨v1, e2, h⟩ := bnd h
    refine wp_getI (c := 11) (k := 1) dX11_plan_6 e2 (by decide) (by decide) rfl fl_RX11_13 ?_
    refine wp_icmp_le (tgt := 22) dX11_plan_9 (by decide) (fun hc_ => ?_) (fun hc_ => ?_)
    · replace h := ite_t hc_ h
      refine wp_aload_n dX11_plan_22 rfl ?_
      refine wp_iconst (v := 0) dX11_plan_23 (by decide) ?_
      obtain ⟨M3, e4, h⟩ := bnd h
      refine wp_putI (c := 11) (k := 1) dX11_plan_24 e4 (by decide) (by decide) rfl fl_RX11_13 (Or.inl rfl) ?_
      refine wp_aload_n dX11_plan_27 rfl ?_
      obtain ⟨v5, e6, h⟩ := bnd h
      refine wp_getR (c := 11) (k := 3) dX11_plan_28 e6 (by decide) (by decide) rfl fl_RX11_25 ?_
      refine wp_iload_n dX11_plan_31 rfl ?_
      refine wp_aload_n dX11_plan_32 rfl ?_
      obtain ⟨v7, e8, h⟩ := bnd h
      refine wp_getR (c := 11) (k := 5) dX11_plan_33 e8 (by decide) (by decide) rfl fl_RX11_36 ?_
      obtain ⟨q9, e10, h⟩ := bnd h
      refine wp_callV (As := [.inl x1, .inr v7]) dX11_plan_36 (sh_X6_readText_ok (d := d) e10) okX6_readText nnX6_readText vvX6_readText ml_RX11_82 rfl (Nat.le_of_ble_eq_true rfl) ?_
      refine wp_istore_n dX11_plan_39 (Nat.le_of_ble_eq_true rfl) ?_
      refine wp_iload_n dX11_plan_40 rfl ?_
      refine wp_if_eq (tgt := 70) dX11_plan_41 (by decide) (fun hc_ => ?_) (fun hc_ => ?_)
      · replace h := ite_t hc_ h
        refine wp_aload_n dX11_plan_70 rfl ?_
        refine wp_iconst (v := (-1)) dX11_plan_71 (by decide) ?_
        obtain ⟨M11, e12, h⟩ := bnd h
        refine wp_putI (c := 11) (k := 2) dX11_plan_72 e12 (by decide) (by decide) rfl fl_RX11_17 (Or.inl rfl) ?_
        refine wp_aload_n dX11_plan_75 rfl ?_
        obtain ⟨v13, e14, h⟩ := bnd h
        refine wp_getR (c := 11) (k := 4) dX11_plan_76 e14 (by decide) (by decide) rfl fl_RX11_32 ?_
        refine wp_astore_n dX11_plan_79 (Nat.le_of_ble_eq_true rfl) ?_
        refine wp_aload_n dX11_plan_80 rfl ?_
        refine wp_aload_n dX11_plan_81 rfl ?_
        obtain ⟨v15, e16, h⟩ := bnd h
        refine wp_getR (c := 11) (k := 5) dX11_plan_82 e16 (by decide) (by decide) rfl fl_RX11_36 ?_
        obtain ⟨M17, e18, h⟩ := bnd h
        refine wp_putR (c := 11) (k := 4) dX11_plan_85 e18 (by decide) (by decide) rfl fl_RX11_32 (Or.inl rfl) ?_
        refine wp_aload_n dX11_plan_88 rfl ?_
        refine wp_aload_n dX11_plan_89 rfl ?_
        obtain ⟨M19, e20, h⟩ := bnd h
        refine wp_putR (c := 11) (k := 5) dX11_plan_90 e20 (by decide) (by decide) rfl fl_RX11_36 (Or.inl rfl) ?_
        refine wp_aload_n dX11_plan_93 rfl ?_
        obtain ⟨v21, e22, h⟩ := bnd h
        refine wp_getR (c := 11) (k := 6) dX11_plan_94 e22 (by decide) (by decide) rfl fl_RX11_44 ?_
        refine wp_aload_n dX11_plan_97 rfl ?_
        obtain ⟨v23, e24, h⟩ := bnd h
        refine wp_getR (c := 11) (k := 4) dX11_plan_98 e24 (by decide) (by decide) rfl fl_RX11_32 ?_
        obtain ⟨q25, e26, h⟩ := bnd h
        refine wp_callV (As := [.inr v23]) dX11_plan_101 (sh_X4_begin_ok (d := d + 8) e26) okX4_begin nnX4_begin vvX4_begin ml_RX11_93 rfl (Nat.le_of_ble_eq_true rfl) ?_
        refine wp_aload_n dX11_plan_104 rfl ?_
        refine wp_iconst (v := 0) dX11_plan_105 (by decide) ?_
        obtain ⟨M27, e28, h⟩ := bnd h
        refine wp_putZ (c := 11) (k := 8) dX11_plan_106 e28 (by decide) (by decide) rfl fl_RX11_51 (Or.inl rfl) ?_
        refine wp_iconst (v := 0) dX11_plan_109 (by decide) ?_
        cases h
        exact wp_iret dX11_plan_110 rfl
      · replace h := ite_f hc_ h
        refine wp_aload_n dX11_plan_44 rfl ?_
        refine wp_aload_n dX11_plan_45 rfl ?_
        obtain ⟨v29, e30, h⟩ := bnd h
        refine wp_getR (c := 11) (k := 3) dX11_plan_46 e30 (by decide) (by decide) rfl fl_RX11_25 ?_
        obtain ⟨q31, e32, h⟩ := bnd h
        refine wp_callV (As := []) dX11_plan_49 (sh_X6_faultPlace_ok (d := d + 10) e32) okX6_faultPlace nnX6_faultPlace vvX6_faultPlace ml_RX11_86 rfl (Nat.le_of_ble_eq_true rfl) ?_
        obtain ⟨M33, e34, h⟩ := bnd h
        refine wp_putI (c := 11) (k := 2) dX11_plan_52 e34 (by decide) (by decide) rfl fl_RX11_17 (Or.inl rfl) ?_
        refine wp_aload_n dX11_plan_55 rfl ?_
        obtain ⟨v35, e36, h⟩ := bnd h
        refine wp_getR (c := 11) (k := 6) dX11_plan_56 e36 (by decide) (by decide) rfl fl_RX11_44 ?_
        obtain ⟨v37, e38, h⟩ := bnd h
        refine wp_getR (c := 4) (k := 8) dX11_plan_59 e38 (by decide) (by decide) rfl fl_RX11_89 ?_
        refine wp_iconst (v := 0) dX11_plan_62 (by decide) ?_
        refine wp_dup2 dX11_plan_63 ?_
        obtain ⟨v39, e40, h⟩ := bnd h
        refine wp_iaload dX11_plan_64 e40 ?_
        refine wp_iconst (v := 1) dX11_plan_65 (by decide) ?_
        refine wp_iadd dX11_plan_66 ?_
        obtain ⟨M41, e42, h⟩ := bnd h
        refine wp_iastore dX11_plan_67 e42 ?_
        refine wp_iload_n dX11_plan_68 rfl ?_
        cases h
        exact wp_iret dX11_plan_69 rfl
    · replace h := ite_f hc_ h
      exact wp_ls (lsN (lsN (lsN (lsN lsZ)))) (X11_plan_J12_ok h)

theorem sh_X11_plan_ok {w : Gw} {d : Nat} {x0 : Nat} {x1 : Int32} {M : Gm} {out : (Int32 × Gm) ⊕ (Nat × Gm)} (h : sh_X11_plan x0 x1 M = some out) : Ev w mdX11_plan (d + 11) [.inr x0, .inl x1] M (xoP out) (xmP out) := by
  obtain ⟨u, e0, h⟩ := bnd h
  exact ev_of okX11_plan ⟨_, _, rfl, isO_of e0 (by decide), by decide⟩ (Nat.le_of_ble_eq_true rfl) (X11_plan_F_ok h)

/-! HeatGovernor$State.sameRows([I[II)Z -/
def X7_sameRows_B2 (x0 : Nat) (x1 : Nat) (x2 : Int32) (M : Gm) (q : Int32) : Option (Int32 ⊕ Unit ⊕ Unit) :=
  if x2 ≤ q then
    some (.inr (.inl ()))
  else
    (ldA M 0 x0 q).bind fun v1 =>
    (ldA M 0 x1 q).bind fun v3 =>
    if v1 = v3 then
      some (.inl (q + 1))
    else
      some (.inr (.inr ()))
def X7_sameRows_F (x0 : Nat) (x1 : Nat) (x2 : Int32) (M : Gm) : Option (Int32) :=
  (lp (X7_sameRows_B2 x0 x1 x2 M) FU 0).bind fun r1 =>
  Sum.elim (fun u3 =>
    (zck 1).bind fun z4 =>
    some z4) (fun u6 =>
    (zck 0).bind fun z7 =>
    some z7) r1
def sh_X7_sameRows (x0 : Nat) (x1 : Nat) (x2 : Int32) (M : Gm) : Option (Int32) := X7_sameRows_F x0 x1 x2 M
theorem X7_sameRows_B2_ok {w : Gw} {d : Nat} {x0 : Nat} {x1 : Nat} {x2 : Int32} {M : Gm} {q : Int32} {o : Go} {M' : Gm} {out : Int32 ⊕ Unit ⊕ Unit} (h : X7_sameRows_B2 x0 x1 x2 M q = some out) (hc : ∀ t : Int32, out = .inl t → Wp w mdX7_sameRows d 2 [some (.inr x0), some (.inr x1), some (.inl x2), some (.inl t)] [] M o M') (he0 : ∀ t : Unit, out = .inr (.inl t) → Wp w mdX7_sameRows d 24 [none, none, none, none] [] M o M') (he1 : ∀ t : Unit, out = .inr (.inr t) → Wp w mdX7_sameRows d 16 [none, none, none, none] [] M o M') : Wp w mdX7_sameRows d 2 [some (.inr x0), some (.inr x1), some (.inl x2), some (.inl q)] [] M o M' := by
  unfold X7_sameRows_B2 at h
  refine wp_iload_n dX7_sameRows_2 rfl ?_
  refine wp_iload_n dX7_sameRows_3 rfl ?_
  refine wp_icmp_ge (tgt := 24) dX7_sameRows_4 (by decide) (fun hc_ => ?_) (fun hc_ => ?_)
  · replace h := ite_t hc_ h
    cases h
    exact wp_ls (lsN (lsN (lsN (lsN lsZ)))) (he0 () rfl)
  · replace h := ite_f hc_ h
    refine wp_aload_n dX7_sameRows_7 rfl ?_
    refine wp_iload_n dX7_sameRows_8 rfl ?_
    obtain ⟨v1, e2, h⟩ := bnd h
    refine wp_iaload dX7_sameRows_9 e2 ?_
    refine wp_aload_n dX7_sameRows_10 rfl ?_
    refine wp_iload_n dX7_sameRows_11 rfl ?_
    obtain ⟨v3, e4, h⟩ := bnd h
    refine wp_iaload dX7_sameRows_12 e4 ?_
    refine wp_icmp_eq (tgt := 18) dX7_sameRows_13 (by decide) (fun hc_ => ?_) (fun hc_ => ?_)
    · replace h := ite_t hc_ h
      refine wp_iinc (v := q + 1) dX7_sameRows_18 rfl rfl ?_
      refine wp_goto (tgt := 2) dX7_sameRows_21 (by decide) ?_
      cases h
      exact wp_ls (lsS (lsS (lsS (lsS lsZ)))) (hc (q + 1) rfl)
    · replace h := ite_f hc_ h
      cases h
      exact wp_ls (lsN (lsN (lsN (lsN lsZ)))) (he1 () rfl)

theorem X7_sameRows_B2_lp {w : Gw} {d : Nat} {x0 : Nat} {x1 : Nat} {x2 : Int32} {M : Gm} {o : Go} {M' : Gm} {r : Unit ⊕ Unit} : ∀ (n : Nat) (q : Int32), lp (X7_sameRows_B2 x0 x1 x2 M) n q = some r → (∀ t : Unit, r = (.inl t) → Wp w mdX7_sameRows d 24 [none, none, none, none] [] M o M') → (∀ t : Unit, r = (.inr t) → Wp w mdX7_sameRows d 16 [none, none, none, none] [] M o M') → Wp w mdX7_sameRows d 2 [some (.inr x0), some (.inr x1), some (.inl x2), some (.inl q)] [] M o M' := by
  intro n
  induction n with
  | zero => intro q h; cases h
  | succ n ih =>
    intro q h he0 he1
    cases hb : X7_sameRows_B2 x0 x1 x2 M q with
    | none => rw [lp_succ, hb] at h; cases h
    | some out =>
      rw [lp_succ, hb] at h
      exact X7_sameRows_B2_ok hb (fun t e => ih t (by rw [e] at h; exact h) he0 he1) (fun t e => he0 t (by rw [e] at h; cases h; rfl)) (fun t e => he1 t (by rw [e] at h; cases h; rfl))
theorem X7_sameRows_F_ok {w : Gw} {d : Nat} {x0 : Nat} {x1 : Nat} {x2 : Int32} {M : Gm} {out : Int32} (h : X7_sameRows_F x0 x1 x2 M = some out) : Wp w mdX7_sameRows d 0 [some (.inr x0), some (.inr x1), some (.inl x2), none] [] M (.inl (some (.inl out))) M := by
  unfold X7_sameRows_F at h
  refine wp_iconst (v := 0) dX7_sameRows_0 (by decide) ?_
  refine wp_istore_n dX7_sameRows_1 (Nat.le_of_ble_eq_true rfl) ?_
  obtain ⟨r1, e2, h⟩ := bnd h
  refine wp_ls (lsS (lsS (lsS (lsS lsZ)))) (X7_sameRows_B2_lp FU _ e2 ?_ ?_)
  · intro y3 ht_; subst ht_
    replace h := elim_l h
    refine wp_iconst (v := 1) dX7_sameRows_24 (by decide) ?_
    obtain ⟨z4, e5, h⟩ := bnd h
    obtain ⟨hz_, rfl⟩ := zck_of e5
    cases h
    exact wp_zret dX7_sameRows_25 rfl hz_
  · intro y6 ht_; subst ht_
    replace h := elim_r h
    refine wp_iconst (v := 0) dX7_sameRows_16 (by decide) ?_
    obtain ⟨z7, e8, h⟩ := bnd h
    obtain ⟨hz_, rfl⟩ := zck_of e8
    cases h
    exact wp_zret dX7_sameRows_17 rfl hz_

theorem sh_X7_sameRows_ok {w : Gw} {d : Nat} {x0 : Nat} {x1 : Nat} {x2 : Int32} {M : Gm} {out : Int32} (h : sh_X7_sameRows x0 x1 x2 M = some out) : Ev w mdX7_sameRows d [.inr x0, .inr x1, .inl x2] M (.inl (some (.inl out))) M := ev_of okX7_sameRows trivial (Nat.le_of_ble_eq_true rfl) (X7_sameRows_F_ok h)

/-! HeatGovernor$Zone.window()I -/
def X10_window_J24 (s0 : Int32) (M : Gm) : Option (Int32) :=
  some s0
def X10_window_J16 (x0 : Nat) (M : Gm) : Option (Int32) :=
  (gfI M x0 10 3).bind fun v1 =>
  X10_window_J24 v1 M
def X10_window_F (x0 : Nat) (M : Gm) : Option (Int32) :=
  (gfI M x0 10 2).bind fun v1 =>
  if v1 = 1 then
    X10_window_J16 x0 M
  else
    (gfI M x0 10 2).bind fun v3 =>
    if v3 = 2 then
      X10_window_J16 x0 M
    else
      X10_window_J24 1 M
def sh_X10_window (x0 : Nat) (M : Gm) : Option (Int32) := (isO M x0 10).bind fun _ => X10_window_F x0 M
theorem X10_window_J24_ok {w : Gw} {d : Nat} {s0 : Int32} {M : Gm} {out : Int32} (h : X10_window_J24 s0 M = some out) : Wp w mdX10_window d 24 [none] [.inl s0] M (.inl (some (.inl out))) M := by
  unfold X10_window_J24 at h
  cases h
  exact wp_iret dX10_window_24 rfl

theorem X10_window_J16_ok {w : Gw} {d : Nat} {x0 : Nat} {M : Gm} {out : Int32} (h : X10_window_J16 x0 M = some out) : Wp w mdX10_window d 16 [some (.inr x0)] [] M (.inl (some (.inl out))) M := by
  unfold X10_window_J16 at h
  refine wp_aload_n dX10_window_16 rfl ?_
  obtain ⟨v1, e2, h⟩ := bnd h
  refine wp_getI (c := 10) (k := 3) dX10_window_17 e2 (by decide) (by decide) rfl fl_RX10_21 ?_
  refine wp_goto (tgt := 24) dX10_window_20 (by decide) ?_
  exact wp_ls (lsN lsZ) (X10_window_J24_ok h)

theorem X10_window_F_ok {w : Gw} {d : Nat} {x0 : Nat} {M : Gm} {out : Int32} (h : X10_window_F x0 M = some out) : Wp w mdX10_window d 0 [some (.inr x0)] [] M (.inl (some (.inl out))) M := by
  unfold X10_window_F at h
  refine wp_aload_n dX10_window_0 rfl ?_
  obtain ⟨v1, e2, h⟩ := bnd h
  refine wp_getI (c := 10) (k := 2) dX10_window_1 e2 (by decide) (by decide) rfl fl_RX10_18 ?_
  refine wp_iconst (v := 1) dX10_window_4 (by decide) ?_
  refine wp_icmp_eq (tgt := 16) dX10_window_5 (by decide) (fun hc_ => ?_) (fun hc_ => ?_)
  · replace h := ite_t hc_ h
    exact wp_ls (lsS lsZ) (X10_window_J16_ok h)
  · replace h := ite_f hc_ h
    refine wp_aload_n dX10_window_8 rfl ?_
    obtain ⟨v3, e4, h⟩ := bnd h
    refine wp_getI (c := 10) (k := 2) dX10_window_9 e4 (by decide) (by decide) rfl fl_RX10_18 ?_
    refine wp_iconst (v := 2) dX10_window_12 (by decide) ?_
    refine wp_icmp_ne (tgt := 23) dX10_window_13 (by decide) (fun hc_ => ?_) (fun hc_ => ?_)
    · replace h := ite_f hc_ h
      refine wp_iconst (v := 1) dX10_window_23 (by decide) ?_
      exact wp_ls (lsN lsZ) (X10_window_J24_ok h)
    · replace h := ite_t hc_ h
      exact wp_ls (lsS lsZ) (X10_window_J16_ok h)

theorem sh_X10_window_ok {w : Gw} {d : Nat} {x0 : Nat} {M : Gm} {out : Int32} (h : sh_X10_window x0 M = some out) : Ev w mdX10_window d [.inr x0] M (.inl (some (.inl out))) M := by
  obtain ⟨u, e0, h⟩ := bnd h
  exact ev_of okX10_window ⟨_, _, rfl, isO_of e0 (by decide), by decide⟩ (Nat.le_of_ble_eq_true rfl) (X10_window_F_ok h)

/-! HeatGovernor$State.readingsLike(LHeatGovernor$State;I)Z -/
def X7_readingsLike_B7 (x0 : Nat) (x1 : Nat) (x2 : Int32) (x3 : Int32) (M : Gm) (q : Int32) : Option (Int32 ⊕ Unit ⊕ Unit) :=
  (gfR M x0 7 0).bind fun v1 =>
  (gfR M v1 5 0).bind fun v3 =>
  (ldR M 4 v3 x2).bind fun v5 =>
  (sh_X10_window v5 M).bind fun q7 =>
  if (x3 + q7) ≤ q then
    some (.inr (.inl ()))
  else
    (gfR M x0 7 9).bind fun v9 =>
    (ldA M 0 v9 q).bind fun v11 =>
    (gfR M x1 7 9).bind fun v13 =>
    (ldA M 0 v13 q).bind fun v15 =>
    if v11 = v15 then
      some (.inl (q + 1))
    else
      some (.inr (.inr ()))
def X7_readingsLike_F (x0 : Nat) (x1 : Nat) (x2 : Int32) (M : Gm) : Option (Int32) :=
  (lp (X7_readingsLike_B7 x0 x1 x2 (x2 * 4) M) FU (x2 * 4)).bind fun r1 =>
  Sum.elim (fun u3 =>
    (zck 1).bind fun z4 =>
    some z4) (fun u6 =>
    (zck 0).bind fun z7 =>
    some z7) r1
def sh_X7_readingsLike (x0 : Nat) (x1 : Nat) (x2 : Int32) (M : Gm) : Option (Int32) := (isO M x0 7).bind fun _ => X7_readingsLike_F x0 x1 x2 M
theorem X7_readingsLike_B7_ok {w : Gw} {d : Nat} {x0 : Nat} {x1 : Nat} {x2 : Int32} {x3 : Int32} {M : Gm} {q : Int32} {o : Go} {M' : Gm} {out : Int32 ⊕ Unit ⊕ Unit} (h : X7_readingsLike_B7 x0 x1 x2 x3 M q = some out) (hc : ∀ t : Int32, out = .inl t → Wp w mdX7_readingsLike (d + 1) 7 [some (.inr x0), some (.inr x1), some (.inl x2), some (.inl x3), some (.inl t)] [] M o M') (he0 : ∀ t : Unit, out = .inr (.inl t) → Wp w mdX7_readingsLike (d + 1) 51 [none, none, none, none, none] [] M o M') (he1 : ∀ t : Unit, out = .inr (.inr t) → Wp w mdX7_readingsLike (d + 1) 43 [none, none, none, none, none] [] M o M') : Wp w mdX7_readingsLike (d + 1) 7 [some (.inr x0), some (.inr x1), some (.inl x2), some (.inl x3), some (.inl q)] [] M o M' := by
  unfold X7_readingsLike_B7 at h
  refine wp_iload dX7_readingsLike_7 rfl ?_
  refine wp_iload_n dX7_readingsLike_9 rfl ?_
  refine wp_aload_n dX7_readingsLike_10 rfl ?_
  obtain ⟨v1, e2, h⟩ := bnd h
  refine wp_getR (c := 7) (k := 0) dX7_readingsLike_11 e2 (by decide) (by decide) rfl fl_RX7_70 ?_
  obtain ⟨v3, e4, h⟩ := bnd h
  refine wp_getR (c := 5) (k := 0) dX7_readingsLike_14 e4 (by decide) (by decide) rfl fl_RX7_80 ?_
  refine wp_iload_n dX7_readingsLike_17 rfl ?_
  obtain ⟨v5, e6, h⟩ := bnd h
  refine wp_aaload (t := 4) dX7_readingsLike_18 (by decide) rfl e6 ?_
  obtain ⟨q7, e8, h⟩ := bnd h
  refine wp_callV (As := []) dX7_readingsLike_19 (sh_X10_window_ok (d := d) e8) okX10_window nnX10_window vvX10_window ml_RX7_196 rfl (Nat.le_of_ble_eq_true rfl) ?_
  refine wp_iadd dX7_readingsLike_22 ?_
  refine wp_icmp_ge (tgt := 51) dX7_readingsLike_23 (by decide) (fun hc_ => ?_) (fun hc_ => ?_)
  · replace h := ite_t hc_ h
    cases h
    exact wp_ls (lsN (lsN (lsN (lsN (lsN lsZ))))) (he0 () rfl)
  · replace h := ite_f hc_ h
    refine wp_aload_n dX7_readingsLike_26 rfl ?_
    obtain ⟨v9, e10, h⟩ := bnd h
    refine wp_getR (c := 7) (k := 9) dX7_readingsLike_27 e10 (by decide) (by decide) rfl fl_RX7_37 ?_
    refine wp_iload dX7_readingsLike_30 rfl ?_
    obtain ⟨v11, e12, h⟩ := bnd h
    refine wp_iaload dX7_readingsLike_32 e12 ?_
    refine wp_aload_n dX7_readingsLike_33 rfl ?_
    obtain ⟨v13, e14, h⟩ := bnd h
    refine wp_getR (c := 7) (k := 9) dX7_readingsLike_34 e14 (by decide) (by decide) rfl fl_RX7_37 ?_
    refine wp_iload dX7_readingsLike_37 rfl ?_
    obtain ⟨v15, e16, h⟩ := bnd h
    refine wp_iaload dX7_readingsLike_39 e16 ?_
    refine wp_icmp_eq (tgt := 45) dX7_readingsLike_40 (by decide) (fun hc_ => ?_) (fun hc_ => ?_)
    · replace h := ite_t hc_ h
      refine wp_iinc (v := q + 1) dX7_readingsLike_45 rfl rfl ?_
      refine wp_goto (tgt := 7) dX7_readingsLike_48 (by decide) ?_
      cases h
      exact wp_ls (lsS (lsS (lsS (lsS (lsS lsZ))))) (hc (q + 1) rfl)
    · replace h := ite_f hc_ h
      cases h
      exact wp_ls (lsN (lsN (lsN (lsN (lsN lsZ))))) (he1 () rfl)

theorem X7_readingsLike_B7_lp {w : Gw} {d : Nat} {x0 : Nat} {x1 : Nat} {x2 : Int32} {x3 : Int32} {M : Gm} {o : Go} {M' : Gm} {r : Unit ⊕ Unit} : ∀ (n : Nat) (q : Int32), lp (X7_readingsLike_B7 x0 x1 x2 x3 M) n q = some r → (∀ t : Unit, r = (.inl t) → Wp w mdX7_readingsLike (d + 1) 51 [none, none, none, none, none] [] M o M') → (∀ t : Unit, r = (.inr t) → Wp w mdX7_readingsLike (d + 1) 43 [none, none, none, none, none] [] M o M') → Wp w mdX7_readingsLike (d + 1) 7 [some (.inr x0), some (.inr x1), some (.inl x2), some (.inl x3), some (.inl q)] [] M o M' := by
  intro n
  induction n with
  | zero => intro q h; cases h
  | succ n ih =>
    intro q h he0 he1
    cases hb : X7_readingsLike_B7 x0 x1 x2 x3 M q with
    | none => rw [lp_succ, hb] at h; cases h
    | some out =>
      rw [lp_succ, hb] at h
      exact X7_readingsLike_B7_ok hb (fun t e => ih t (by rw [e] at h; exact h) he0 he1) (fun t e => he0 t (by rw [e] at h; cases h; rfl)) (fun t e => he1 t (by rw [e] at h; cases h; rfl))
theorem X7_readingsLike_F_ok {w : Gw} {d : Nat} {x0 : Nat} {x1 : Nat} {x2 : Int32} {M : Gm} {out : Int32} (h : X7_readingsLike_F x0 x1 x2 M = some out) : Wp w mdX7_readingsLike (d + 1) 0 [some (.inr x0), some (.inr x1), some (.inl x2), none, none] [] M (.inl (some (.inl out))) M := by
  unfold X7_readingsLike_F at h
  refine wp_iload_n dX7_readingsLike_0 rfl ?_
  refine wp_iconst (v := 4) dX7_readingsLike_1 (by decide) ?_
  refine wp_imul dX7_readingsLike_2 ?_
  refine wp_istore_n dX7_readingsLike_3 (Nat.le_of_ble_eq_true rfl) ?_
  refine wp_iload_n dX7_readingsLike_4 rfl ?_
  refine wp_istore dX7_readingsLike_5 (Nat.le_of_ble_eq_true rfl) ?_
  obtain ⟨r1, e2, h⟩ := bnd h
  refine wp_ls (lsS (lsS (lsS (lsS (lsS lsZ))))) (X7_readingsLike_B7_lp FU _ e2 ?_ ?_)
  · intro y3 ht_; subst ht_
    replace h := elim_l h
    refine wp_iconst (v := 1) dX7_readingsLike_51 (by decide) ?_
    obtain ⟨z4, e5, h⟩ := bnd h
    obtain ⟨hz_, rfl⟩ := zck_of e5
    cases h
    exact wp_zret dX7_readingsLike_52 rfl hz_
  · intro y6 ht_; subst ht_
    replace h := elim_r h
    refine wp_iconst (v := 0) dX7_readingsLike_43 (by decide) ?_
    obtain ⟨z7, e8, h⟩ := bnd h
    obtain ⟨hz_, rfl⟩ := zck_of e8
    cases h
    exact wp_zret dX7_readingsLike_44 rfl hz_

theorem sh_X7_readingsLike_ok {w : Gw} {d : Nat} {x0 : Nat} {x1 : Nat} {x2 : Int32} {M : Gm} {out : Int32} (h : sh_X7_readingsLike x0 x1 x2 M = some out) : Ev w mdX7_readingsLike (d + 1) [.inr x0, .inr x1, .inl x2] M (.inl (some (.inl out))) M := by
  obtain ⟨u, e0, h⟩ := bnd h
  exact ev_of okX7_readingsLike ⟨_, _, rfl, isO_of e0 (by decide), by decide⟩ (Nat.le_of_ble_eq_true rfl) (X7_readingsLike_F_ok h)

/-! HeatGovernor$State.zonesLike(LHeatGovernor$State;)Z -/
def X7_zonesLike_J42 (M : Gm) : Option (Int32) :=
  (zck 0).bind fun z1 =>
  some z1
def X7_zonesLike_B46 (x0 : Nat) (x1 : Nat) (M : Gm) (q : Int32) : Option (Int32 ⊕ Unit ⊕ Unit) :=
  (gfR M x0 7 0).bind fun v1 =>
  (gfI M v1 5 5).bind fun v3 =>
  if v3 ≤ q then
    some (.inr (.inl ()))
  else
    (sh_X7_isShut x0 q M).bind fun q5 =>
    (sh_X7_isShut x1 q M).bind fun q7 =>
    if q5 = q7 then
      (sh_X7_readingsLike x0 x1 q M).bind fun q9 =>
      if q9 = 0 then
        some (.inr (.inr ()))
      else
        some (.inl (q + 1))
    else
      some (.inr (.inr ()))
def X7_zonesLike_J79 (M : Gm) : Option (Int32) :=
  (zck 0).bind fun z1 =>
  some z1
def X7_zonesLike_F (x0 : Nat) (x1 : Nat) (M : Gm) : Option (Int32) :=
  (gfR M x0 7 3).bind fun v1 =>
  (gfR M x1 7 3).bind fun v3 =>
  (gfR M x0 7 0).bind fun v5 =>
  (gfI M v5 5 5).bind fun v7 =>
  (sh_X7_sameRows v1 v3 v7 M).bind fun q9 =>
  if q9 = 0 then
    X7_zonesLike_J42 M
  else
    (gfR M x0 7 6).bind fun v11 =>
    (gfR M x1 7 6).bind fun v13 =>
    (gfR M x0 7 0).bind fun v15 =>
    (gfI M v15 5 5).bind fun v17 =>
    (sh_X7_sameRows v11 v13 v17 M).bind fun q19 =>
    if q19 = 0 then
      X7_zonesLike_J42 M
    else
      (lp (X7_zonesLike_B46 x0 x1 M) FU 0).bind fun r21 =>
      Sum.elim (fun u23 =>
        (zck 1).bind fun z24 =>
        some z24) (fun u26 =>
        X7_zonesLike_J79 M) r21
def sh_X7_zonesLike (x0 : Nat) (x1 : Nat) (M : Gm) : Option (Int32) := (isO M x0 7).bind fun _ => X7_zonesLike_F x0 x1 M
theorem X7_zonesLike_J42_ok {w : Gw} {d : Nat} {M : Gm} {out : Int32} (h : X7_zonesLike_J42 M = some out) : Wp w mdX7_zonesLike (d + 2) 42 [none, none, none] [] M (.inl (some (.inl out))) M := by
  unfold X7_zonesLike_J42 at h
  refine wp_iconst (v := 0) dX7_zonesLike_42 (by decide) ?_
  obtain ⟨z1, e2, h⟩ := bnd h
  obtain ⟨hz_, rfl⟩ := zck_of e2
  cases h
  exact wp_zret dX7_zonesLike_43 rfl hz_

theorem X7_zonesLike_B46_ok {w : Gw} {d : Nat} {x0 : Nat} {x1 : Nat} {M : Gm} {q : Int32} {o : Go} {M' : Gm} {out : Int32 ⊕ Unit ⊕ Unit} (h : X7_zonesLike_B46 x0 x1 M q = some out) (hc : ∀ t : Int32, out = .inl t → Wp w mdX7_zonesLike (d + 2) 46 [some (.inr x0), some (.inr x1), some (.inl t)] [] M o M') (he0 : ∀ t : Unit, out = .inr (.inl t) → Wp w mdX7_zonesLike (d + 2) 87 [none, none, none] [] M o M') (he1 : ∀ t : Unit, out = .inr (.inr t) → Wp w mdX7_zonesLike (d + 2) 79 [none, none, none] [] M o M') : Wp w mdX7_zonesLike (d + 2) 46 [some (.inr x0), some (.inr x1), some (.inl q)] [] M o M' := by
  unfold X7_zonesLike_B46 at h
  refine wp_iload_n dX7_zonesLike_46 rfl ?_
  refine wp_aload_n dX7_zonesLike_47 rfl ?_
  obtain ⟨v1, e2, h⟩ := bnd h
  refine wp_getR (c := 7) (k := 0) dX7_zonesLike_48 e2 (by decide) (by decide) rfl fl_RX7_70 ?_
  obtain ⟨v3, e4, h⟩ := bnd h
  refine wp_getI (c := 5) (k := 5) dX7_zonesLike_51 e4 (by decide) (by decide) rfl fl_RX7_77 ?_
  refine wp_icmp_ge (tgt := 87) dX7_zonesLike_54 (by decide) (fun hc_ => ?_) (fun hc_ => ?_)
  · replace h := ite_t hc_ h
    cases h
    exact wp_ls (lsN (lsN (lsN lsZ))) (he0 () rfl)
  · replace h := ite_f hc_ h
    refine wp_aload_n dX7_zonesLike_57 rfl ?_
    refine wp_iload_n dX7_zonesLike_58 rfl ?_
    obtain ⟨q5, e6, h⟩ := bnd h
    refine wp_callV (As := [.inl q]) dX7_zonesLike_59 (sh_X7_isShut_ok (d := d + 1) e6) okX7_isShut nnX7_isShut vvX7_isShut ml_RX7_123 rfl (Nat.le_of_ble_eq_true rfl) ?_
    refine wp_aload_n dX7_zonesLike_62 rfl ?_
    refine wp_iload_n dX7_zonesLike_63 rfl ?_
    obtain ⟨q7, e8, h⟩ := bnd h
    refine wp_callV (As := [.inl q]) dX7_zonesLike_64 (sh_X7_isShut_ok (d := d + 1) e8) okX7_isShut nnX7_isShut vvX7_isShut ml_RX7_123 rfl (Nat.le_of_ble_eq_true rfl) ?_
    refine wp_icmp_ne (tgt := 79) dX7_zonesLike_67 (by decide) (fun hc_ => ?_) (fun hc_ => ?_)
    · replace h := ite_f hc_ h
      cases h
      exact wp_ls (lsN (lsN (lsN lsZ))) (he1 () rfl)
    · replace h := ite_t hc_ h
      refine wp_aload_n dX7_zonesLike_70 rfl ?_
      refine wp_aload_n dX7_zonesLike_71 rfl ?_
      refine wp_iload_n dX7_zonesLike_72 rfl ?_
      obtain ⟨q9, e10, h⟩ := bnd h
      refine wp_callV (As := [.inr x1, .inl q]) dX7_zonesLike_73 (sh_X7_readingsLike_ok (d := d) e10) okX7_readingsLike nnX7_readingsLike vvX7_readingsLike ml_RX7_192 rfl (Nat.le_of_ble_eq_true rfl) ?_
      refine wp_if_ne (tgt := 81) dX7_zonesLike_76 (by decide) (fun hc_ => ?_) (fun hc_ => ?_)
      · replace h := ite_f hc_ h
        refine wp_iinc (v := q + 1) dX7_zonesLike_81 rfl rfl ?_
        refine wp_goto (tgt := 46) dX7_zonesLike_84 (by decide) ?_
        cases h
        exact wp_ls (lsS (lsS (lsS lsZ))) (hc (q + 1) rfl)
      · replace h := ite_t hc_ h
        cases h
        exact wp_ls (lsN (lsN (lsN lsZ))) (he1 () rfl)

theorem X7_zonesLike_B46_lp {w : Gw} {d : Nat} {x0 : Nat} {x1 : Nat} {M : Gm} {o : Go} {M' : Gm} {r : Unit ⊕ Unit} : ∀ (n : Nat) (q : Int32), lp (X7_zonesLike_B46 x0 x1 M) n q = some r → (∀ t : Unit, r = (.inl t) → Wp w mdX7_zonesLike (d + 2) 87 [none, none, none] [] M o M') → (∀ t : Unit, r = (.inr t) → Wp w mdX7_zonesLike (d + 2) 79 [none, none, none] [] M o M') → Wp w mdX7_zonesLike (d + 2) 46 [some (.inr x0), some (.inr x1), some (.inl q)] [] M o M' := by
  intro n
  induction n with
  | zero => intro q h; cases h
  | succ n ih =>
    intro q h he0 he1
    cases hb : X7_zonesLike_B46 x0 x1 M q with
    | none => rw [lp_succ, hb] at h; cases h
    | some out =>
      rw [lp_succ, hb] at h
      exact X7_zonesLike_B46_ok hb (fun t e => ih t (by rw [e] at h; exact h) he0 he1) (fun t e => he0 t (by rw [e] at h; cases h; rfl)) (fun t e => he1 t (by rw [e] at h; cases h; rfl))
theorem X7_zonesLike_J79_ok {w : Gw} {d : Nat} {M : Gm} {out : Int32} (h : X7_zonesLike_J79 M = some out) : Wp w mdX7_zonesLike (d + 2) 79 [none, none, none] [] M (.inl (some (.inl out))) M := by
  unfold X7_zonesLike_J79 at h
  refine wp_iconst (v := 0) dX7_zonesLike_79 (by decide) ?_
  obtain ⟨z1, e2, h⟩ := bnd h
  obtain ⟨hz_, rfl⟩ := zck_of e2
  cases h
  exact wp_zret dX7_zonesLike_80 rfl hz_

theorem X7_zonesLike_F_ok {w : Gw} {d : Nat} {x0 : Nat} {x1 : Nat} {M : Gm} {out : Int32} (h : X7_zonesLike_F x0 x1 M = some out) : Wp w mdX7_zonesLike (d + 2) 0 [some (.inr x0), some (.inr x1), none] [] M (.inl (some (.inl out))) M := by
  unfold X7_zonesLike_F at h
  refine wp_aload_n dX7_zonesLike_0 rfl ?_
  obtain ⟨v1, e2, h⟩ := bnd h
  refine wp_getR (c := 7) (k := 3) dX7_zonesLike_1 e2 (by decide) (by decide) rfl fl_RX7_18 ?_
  refine wp_aload_n dX7_zonesLike_4 rfl ?_
  obtain ⟨v3, e4, h⟩ := bnd h
  refine wp_getR (c := 7) (k := 3) dX7_zonesLike_5 e4 (by decide) (by decide) rfl fl_RX7_18 ?_
  refine wp_aload_n dX7_zonesLike_8 rfl ?_
  obtain ⟨v5, e6, h⟩ := bnd h
  refine wp_getR (c := 7) (k := 0) dX7_zonesLike_9 e6 (by decide) (by decide) rfl fl_RX7_70 ?_
  obtain ⟨v7, e8, h⟩ := bnd h
  refine wp_getI (c := 5) (k := 5) dX7_zonesLike_12 e8 (by decide) (by decide) rfl fl_RX7_77 ?_
  obtain ⟨q9, e10, h⟩ := bnd h
  refine wp_callS (As := [.inr v1, .inr v3, .inl v7]) dX7_zonesLike_15 (sh_X7_sameRows_ok (d := d + 1) e10) okX7_sameRows nnX7_sameRows ssX7_sameRows ml_RX7_188 rfl (Nat.le_of_ble_eq_true rfl) ?_
  refine wp_if_eq (tgt := 42) dX7_zonesLike_18 (by decide) (fun hc_ => ?_) (fun hc_ => ?_)
  · replace h := ite_t hc_ h
    exact wp_ls (lsN (lsN (lsN lsZ))) (X7_zonesLike_J42_ok h)
  · replace h := ite_f hc_ h
    refine wp_aload_n dX7_zonesLike_21 rfl ?_
    obtain ⟨v11, e12, h⟩ := bnd h
    refine wp_getR (c := 7) (k := 6) dX7_zonesLike_22 e12 (by decide) (by decide) rfl fl_RX7_28 ?_
    refine wp_aload_n dX7_zonesLike_25 rfl ?_
    obtain ⟨v13, e14, h⟩ := bnd h
    refine wp_getR (c := 7) (k := 6) dX7_zonesLike_26 e14 (by decide) (by decide) rfl fl_RX7_28 ?_
    refine wp_aload_n dX7_zonesLike_29 rfl ?_
    obtain ⟨v15, e16, h⟩ := bnd h
    refine wp_getR (c := 7) (k := 0) dX7_zonesLike_30 e16 (by decide) (by decide) rfl fl_RX7_70 ?_
    obtain ⟨v17, e18, h⟩ := bnd h
    refine wp_getI (c := 5) (k := 5) dX7_zonesLike_33 e18 (by decide) (by decide) rfl fl_RX7_77 ?_
    obtain ⟨q19, e20, h⟩ := bnd h
    refine wp_callS (As := [.inr v11, .inr v13, .inl v17]) dX7_zonesLike_36 (sh_X7_sameRows_ok (d := d + 1) e20) okX7_sameRows nnX7_sameRows ssX7_sameRows ml_RX7_188 rfl (Nat.le_of_ble_eq_true rfl) ?_
    refine wp_if_ne (tgt := 44) dX7_zonesLike_39 (by decide) (fun hc_ => ?_) (fun hc_ => ?_)
    · replace h := ite_f hc_ h
      refine wp_iconst (v := 0) dX7_zonesLike_44 (by decide) ?_
      refine wp_istore_n dX7_zonesLike_45 (Nat.le_of_ble_eq_true rfl) ?_
      obtain ⟨r21, e22, h⟩ := bnd h
      refine wp_ls (lsS (lsS (lsS lsZ))) (X7_zonesLike_B46_lp FU _ e22 ?_ ?_)
      · intro y23 ht_; subst ht_
        replace h := elim_l h
        refine wp_iconst (v := 1) dX7_zonesLike_87 (by decide) ?_
        obtain ⟨z24, e25, h⟩ := bnd h
        obtain ⟨hz_, rfl⟩ := zck_of e25
        cases h
        exact wp_zret dX7_zonesLike_88 rfl hz_
      · intro y26 ht_; subst ht_
        replace h := elim_r h
        exact wp_ls (lsN (lsN (lsN lsZ))) (X7_zonesLike_J79_ok h)
    · replace h := ite_t hc_ h
      exact wp_ls (lsN (lsN (lsN lsZ))) (X7_zonesLike_J42_ok h)

theorem sh_X7_zonesLike_ok {w : Gw} {d : Nat} {x0 : Nat} {x1 : Nat} {M : Gm} {out : Int32} (h : sh_X7_zonesLike x0 x1 M = some out) : Ev w mdX7_zonesLike (d + 2) [.inr x0, .inr x1] M (.inl (some (.inl out))) M := by
  obtain ⟨u, e0, h⟩ := bnd h
  exact ev_of okX7_zonesLike ⟨_, _, rfl, isO_of e0 (by decide), by decide⟩ (Nat.le_of_ble_eq_true rfl) (X7_zonesLike_F_ok h)

/-! HeatGovernor$State.isLike(LHeatGovernor$State;)Z -/
def X7_isLike_J76 (s0 : Int32) (M : Gm) : Option (Int32) :=
  (zck s0).bind fun z1 =>
  some z1
def X7_isLike_J75 (M : Gm) : Option (Int32) :=
  X7_isLike_J76 0 M
def X7_isLike_F (x0 : Nat) (x1 : Nat) (M : Gm) : Option (Int32) :=
  (sh_X7_zonesLike x0 x1 M).bind fun q1 =>
  if q1 = 0 then
    X7_isLike_J75 M
  else
    (gfR M x0 7 10).bind fun v3 =>
    (gfR M x1 7 10).bind fun v5 =>
    (gfR M x0 7 0).bind fun v7 =>
    (gfI M v7 5 6).bind fun v9 =>
    (sh_X7_sameRows v3 v5 v9 M).bind fun q11 =>
    if q11 = 0 then
      X7_isLike_J75 M
    else
      (gfR M x0 7 12).bind fun v13 =>
      (gfR M x1 7 12).bind fun v15 =>
      (gfR M x0 7 0).bind fun v17 =>
      (gfI M v17 5 7).bind fun v19 =>
      (sh_X7_sameRows v13 v15 v19 M).bind fun q21 =>
      if q21 = 0 then
        X7_isLike_J75 M
      else
        (gfR M x0 7 15).bind fun v23 =>
        (gfR M x1 7 15).bind fun v25 =>
        (gfR M x0 7 0).bind fun v27 =>
        (gfI M v27 5 8).bind fun v29 =>
        (sh_X7_sameRows v23 v25 v29 M).bind fun q31 =>
        if q31 = 0 then
          X7_isLike_J75 M
        else
          X7_isLike_J76 1 M
def sh_X7_isLike (x0 : Nat) (x1 : Nat) (M : Gm) : Option (Int32) := (isO M x0 7).bind fun _ => X7_isLike_F x0 x1 M
theorem X7_isLike_J76_ok {w : Gw} {d : Nat} {s0 : Int32} {M : Gm} {out : Int32} (h : X7_isLike_J76 s0 M = some out) : Wp w mdX7_isLike (d + 3) 76 [none, none] [.inl s0] M (.inl (some (.inl out))) M := by
  unfold X7_isLike_J76 at h
  obtain ⟨z1, e2, h⟩ := bnd h
  obtain ⟨hz_, rfl⟩ := zck_of e2
  cases h
  exact wp_zret dX7_isLike_76 rfl hz_

theorem X7_isLike_J75_ok {w : Gw} {d : Nat} {M : Gm} {out : Int32} (h : X7_isLike_J75 M = some out) : Wp w mdX7_isLike (d + 3) 75 [none, none] [] M (.inl (some (.inl out))) M := by
  unfold X7_isLike_J75 at h
  refine wp_iconst (v := 0) dX7_isLike_75 (by decide) ?_
  exact wp_ls (lsN (lsN lsZ)) (X7_isLike_J76_ok h)

theorem X7_isLike_F_ok {w : Gw} {d : Nat} {x0 : Nat} {x1 : Nat} {M : Gm} {out : Int32} (h : X7_isLike_F x0 x1 M = some out) : Wp w mdX7_isLike (d + 3) 0 [some (.inr x0), some (.inr x1)] [] M (.inl (some (.inl out))) M := by
  unfold X7_isLike_F at h
  refine wp_aload_n dX7_isLike_0 rfl ?_
  refine wp_aload_n dX7_isLike_1 rfl ?_
  obtain ⟨q1, e2, h⟩ := bnd h
  refine wp_callV (As := [.inr x1]) dX7_isLike_2 (sh_X7_zonesLike_ok (d := d) e2) okX7_zonesLike nnX7_zonesLike vvX7_zonesLike ml_RX7_184 rfl (Nat.le_of_ble_eq_true rfl) ?_
  refine wp_if_eq (tgt := 75) dX7_isLike_5 (by decide) (fun hc_ => ?_) (fun hc_ => ?_)
  · replace h := ite_t hc_ h
    exact wp_ls (lsN (lsN lsZ)) (X7_isLike_J75_ok h)
  · replace h := ite_f hc_ h
    refine wp_aload_n dX7_isLike_8 rfl ?_
    obtain ⟨v3, e4, h⟩ := bnd h
    refine wp_getR (c := 7) (k := 10) dX7_isLike_9 e4 (by decide) (by decide) rfl fl_RX7_40 ?_
    refine wp_aload_n dX7_isLike_12 rfl ?_
    obtain ⟨v5, e6, h⟩ := bnd h
    refine wp_getR (c := 7) (k := 10) dX7_isLike_13 e6 (by decide) (by decide) rfl fl_RX7_40 ?_
    refine wp_aload_n dX7_isLike_16 rfl ?_
    obtain ⟨v7, e8, h⟩ := bnd h
    refine wp_getR (c := 7) (k := 0) dX7_isLike_17 e8 (by decide) (by decide) rfl fl_RX7_70 ?_
    obtain ⟨v9, e10, h⟩ := bnd h
    refine wp_getI (c := 5) (k := 6) dX7_isLike_20 e10 (by decide) (by decide) rfl fl_RX7_127 ?_
    obtain ⟨q11, e12, h⟩ := bnd h
    refine wp_callS (As := [.inr v3, .inr v5, .inl v9]) dX7_isLike_23 (sh_X7_sameRows_ok (d := d + 2) e12) okX7_sameRows nnX7_sameRows ssX7_sameRows ml_RX7_188 rfl (Nat.le_of_ble_eq_true rfl) ?_
    refine wp_if_eq (tgt := 75) dX7_isLike_26 (by decide) (fun hc_ => ?_) (fun hc_ => ?_)
    · replace h := ite_t hc_ h
      exact wp_ls (lsN (lsN lsZ)) (X7_isLike_J75_ok h)
    · replace h := ite_f hc_ h
      refine wp_aload_n dX7_isLike_29 rfl ?_
      obtain ⟨v13, e14, h⟩ := bnd h
      refine wp_getR (c := 7) (k := 12) dX7_isLike_30 e14 (by decide) (by decide) rfl fl_RX7_46 ?_
      refine wp_aload_n dX7_isLike_33 rfl ?_
      obtain ⟨v15, e16, h⟩ := bnd h
      refine wp_getR (c := 7) (k := 12) dX7_isLike_34 e16 (by decide) (by decide) rfl fl_RX7_46 ?_
      refine wp_aload_n dX7_isLike_37 rfl ?_
      obtain ⟨v17, e18, h⟩ := bnd h
      refine wp_getR (c := 7) (k := 0) dX7_isLike_38 e18 (by decide) (by decide) rfl fl_RX7_70 ?_
      obtain ⟨v19, e20, h⟩ := bnd h
      refine wp_getI (c := 5) (k := 7) dX7_isLike_41 e20 (by decide) (by decide) rfl fl_RX7_96 ?_
      obtain ⟨q21, e22, h⟩ := bnd h
      refine wp_callS (As := [.inr v13, .inr v15, .inl v19]) dX7_isLike_44 (sh_X7_sameRows_ok (d := d + 2) e22) okX7_sameRows nnX7_sameRows ssX7_sameRows ml_RX7_188 rfl (Nat.le_of_ble_eq_true rfl) ?_
      refine wp_if_eq (tgt := 75) dX7_isLike_47 (by decide) (fun hc_ => ?_) (fun hc_ => ?_)
      · replace h := ite_t hc_ h
        exact wp_ls (lsN (lsN lsZ)) (X7_isLike_J75_ok h)
      · replace h := ite_f hc_ h
        refine wp_aload_n dX7_isLike_50 rfl ?_
        obtain ⟨v23, e24, h⟩ := bnd h
        refine wp_getR (c := 7) (k := 15) dX7_isLike_51 e24 (by decide) (by decide) rfl fl_RX7_55 ?_
        refine wp_aload_n dX7_isLike_54 rfl ?_
        obtain ⟨v25, e26, h⟩ := bnd h
        refine wp_getR (c := 7) (k := 15) dX7_isLike_55 e26 (by decide) (by decide) rfl fl_RX7_55 ?_
        refine wp_aload_n dX7_isLike_58 rfl ?_
        obtain ⟨v27, e28, h⟩ := bnd h
        refine wp_getR (c := 7) (k := 0) dX7_isLike_59 e28 (by decide) (by decide) rfl fl_RX7_70 ?_
        obtain ⟨v29, e30, h⟩ := bnd h
        refine wp_getI (c := 5) (k := 8) dX7_isLike_62 e30 (by decide) (by decide) rfl fl_RX7_174 ?_
        obtain ⟨q31, e32, h⟩ := bnd h
        refine wp_callS (As := [.inr v23, .inr v25, .inl v29]) dX7_isLike_65 (sh_X7_sameRows_ok (d := d + 2) e32) okX7_sameRows nnX7_sameRows ssX7_sameRows ml_RX7_188 rfl (Nat.le_of_ble_eq_true rfl) ?_
        refine wp_if_eq (tgt := 75) dX7_isLike_68 (by decide) (fun hc_ => ?_) (fun hc_ => ?_)
        · replace h := ite_t hc_ h
          exact wp_ls (lsN (lsN lsZ)) (X7_isLike_J75_ok h)
        · replace h := ite_f hc_ h
          refine wp_iconst (v := 1) dX7_isLike_71 (by decide) ?_
          refine wp_goto (tgt := 76) dX7_isLike_72 (by decide) ?_
          exact wp_ls (lsN (lsN lsZ)) (X7_isLike_J76_ok h)

theorem sh_X7_isLike_ok {w : Gw} {d : Nat} {x0 : Nat} {x1 : Nat} {M : Gm} {out : Int32} (h : sh_X7_isLike x0 x1 M = some out) : Ev w mdX7_isLike (d + 3) [.inr x0, .inr x1] M (.inl (some (.inl out))) M := by
  obtain ⟨u, e0, h⟩ := bnd h
  exact ev_of okX7_isLike ⟨_, _, rfl, isO_of e0 (by decide), by decide⟩ (Nat.le_of_ble_eq_true rfl) (X7_isLike_F_ok h)

/-! HeatGovernor$Foresight.againMinutes(LHeatGovernor$State;)I -/
def X3_againMinutes_B10 (x0 : Nat) (x1 : Nat) (q : Int32 × Gm) : Option ((Int32 × Gm) ⊕ Gm ⊕ (Int32 × Gm)) :=
  if 200 < q.1 then
    some (.inr (.inl q.2))
  else
    (gfR q.2 x0 3 5).bind fun v1 =>
    (gfR q.2 x0 3 0).bind fun v3 =>
    (sh_X1_passMinute v1 v3 q.2).bind fun q5 =>
    (gfR q5 x0 3 0).bind fun v7 =>
    (sh_X7_isLike v7 x1 q5).bind fun q9 =>
    if q9 = 0 then
      some (.inl (q.1 + 1, q5))
    else
      some (.inr (.inr ((q.1, q5))))
def X3_againMinutes_F (x0 : Nat) (x1 : Nat) (M : Gm) : Option (Int32 × Gm) :=
  (gfR M x0 3 0).bind fun v1 =>
  (sh_X7_copyFrom v1 x1 M).bind fun q3 =>
  (lp (X3_againMinutes_B10 x0 x1) FU (1, q3)).bind fun r5 =>
  Sum.elim (fun u7 =>
    some ((-1), u7)) (fun u8 =>
    some (u8.1, u8.2)) r5
def sh_X3_againMinutes (x0 : Nat) (x1 : Nat) (M : Gm) : Option (Int32 × Gm) := (isO M x0 3).bind fun _ => X3_againMinutes_F x0 x1 M
theorem X3_againMinutes_B10_ok {w : Gw} {d : Nat} {x0 : Nat} {x1 : Nat} {q : Int32 × Gm} {o : Go} {M' : Gm} {out : (Int32 × Gm) ⊕ Gm ⊕ (Int32 × Gm)} (h : X3_againMinutes_B10 x0 x1 q = some out) (hc : ∀ t : Int32 × Gm, out = .inl t → Wp w mdX3_againMinutes (d + 5) 10 [some (.inr x0), some (.inr x1), some (.inl t.1)] [] t.2 o M') (he0 : ∀ t : Gm, out = .inr (.inl t) → Wp w mdX3_againMinutes (d + 5) 47 [none, none, none] [] t o M') (he1 : ∀ t : Int32 × Gm, out = .inr (.inr t) → Wp w mdX3_againMinutes (d + 5) 39 [none, none, some (.inl t.1)] [] t.2 o M') : Wp w mdX3_againMinutes (d + 5) 10 [some (.inr x0), some (.inr x1), some (.inl q.1)] [] q.2 o M' := by
  unfold X3_againMinutes_B10 at h
  refine wp_iload_n dX3_againMinutes_10 rfl ?_
  refine wp_sipush (v := 200) dX3_againMinutes_11 (by decide) ?_
  refine wp_icmp_gt (tgt := 47) dX3_againMinutes_14 (by decide) (fun hc_ => ?_) (fun hc_ => ?_)
  · replace h := ite_t hc_ h
    cases h
    exact wp_ls (lsN (lsN (lsN lsZ))) (he0 q.2 rfl)
  · replace h := ite_f hc_ h
    refine wp_aload_n dX3_againMinutes_17 rfl ?_
    obtain ⟨v1, e2, h⟩ := bnd h
    refine wp_getR (c := 3) (k := 5) dX3_againMinutes_18 e2 (by decide) (by decide) rfl fl_RX3_40 ?_
    refine wp_aload_n dX3_againMinutes_21 rfl ?_
    obtain ⟨v3, e4, h⟩ := bnd h
    refine wp_getR (c := 3) (k := 0) dX3_againMinutes_22 e4 (by decide) (by decide) rfl fl_RX3_36 ?_
    obtain ⟨q5, e6, h⟩ := bnd h
    refine wp_callV (As := [.inr v3]) dX3_againMinutes_25 (sh_X1_passMinute_ok (d := d) e6) okX1_passMinute nnX1_passMinute vvX1_passMinute ml_RX3_48 rfl (Nat.le_of_ble_eq_true rfl) ?_
    refine wp_aload_n dX3_againMinutes_28 rfl ?_
    obtain ⟨v7, e8, h⟩ := bnd h
    refine wp_getR (c := 3) (k := 0) dX3_againMinutes_29 e8 (by decide) (by decide) rfl fl_RX3_36 ?_
    refine wp_aload_n dX3_againMinutes_32 rfl ?_
    obtain ⟨q9, e10, h⟩ := bnd h
    refine wp_callV (As := [.inr x1]) dX3_againMinutes_33 (sh_X7_isLike_ok (d := d + 1) e10) okX7_isLike nnX7_isLike vvX7_isLike ml_RX3_91 rfl (Nat.le_of_ble_eq_true rfl) ?_
    refine wp_if_eq (tgt := 41) dX3_againMinutes_36 (by decide) (fun hc_ => ?_) (fun hc_ => ?_)
    · replace h := ite_t hc_ h
      refine wp_iinc (v := q.1 + 1) dX3_againMinutes_41 rfl rfl ?_
      refine wp_goto (tgt := 10) dX3_againMinutes_44 (by decide) ?_
      cases h
      exact wp_ls (lsS (lsS (lsS lsZ))) (hc (q.1 + 1, q5) rfl)
    · replace h := ite_f hc_ h
      cases h
      exact wp_ls (lsN (lsN (lsS lsZ))) (he1 (q.1, q5) rfl)

theorem X3_againMinutes_B10_lp {w : Gw} {d : Nat} {x0 : Nat} {x1 : Nat} {o : Go} {M' : Gm} {r : Gm ⊕ (Int32 × Gm)} : ∀ (n : Nat) (q : Int32 × Gm), lp (X3_againMinutes_B10 x0 x1) n q = some r → (∀ t : Gm, r = (.inl t) → Wp w mdX3_againMinutes (d + 5) 47 [none, none, none] [] t o M') → (∀ t : Int32 × Gm, r = (.inr t) → Wp w mdX3_againMinutes (d + 5) 39 [none, none, some (.inl t.1)] [] t.2 o M') → Wp w mdX3_againMinutes (d + 5) 10 [some (.inr x0), some (.inr x1), some (.inl q.1)] [] q.2 o M' := by
  intro n
  induction n with
  | zero => intro q h; cases h
  | succ n ih =>
    intro q h he0 he1
    cases hb : X3_againMinutes_B10 x0 x1 q with
    | none => rw [lp_succ, hb] at h; cases h
    | some out =>
      rw [lp_succ, hb] at h
      exact X3_againMinutes_B10_ok hb (fun t e => ih t (by rw [e] at h; exact h) he0 he1) (fun t e => he0 t (by rw [e] at h; cases h; rfl)) (fun t e => he1 t (by rw [e] at h; cases h; rfl))
theorem X3_againMinutes_F_ok {w : Gw} {d : Nat} {x0 : Nat} {x1 : Nat} {M : Gm} {out : Int32 × Gm} (h : X3_againMinutes_F x0 x1 M = some out) : Wp w mdX3_againMinutes (d + 5) 0 [some (.inr x0), some (.inr x1), none] [] M (.inl (some (.inl out.1))) out.2 := by
  unfold X3_againMinutes_F at h
  refine wp_aload_n dX3_againMinutes_0 rfl ?_
  obtain ⟨v1, e2, h⟩ := bnd h
  refine wp_getR (c := 3) (k := 0) dX3_againMinutes_1 e2 (by decide) (by decide) rfl fl_RX3_36 ?_
  refine wp_aload_n dX3_againMinutes_4 rfl ?_
  obtain ⟨q3, e4, h⟩ := bnd h
  refine wp_callV (As := [.inr x1]) dX3_againMinutes_5 (sh_X7_copyFrom_ok (d := d + 2) e4) okX7_copyFrom nnX7_copyFrom vvX7_copyFrom ml_RX3_44 rfl (Nat.le_of_ble_eq_true rfl) ?_
  refine wp_iconst (v := 1) dX3_againMinutes_8 (by decide) ?_
  refine wp_istore_n dX3_againMinutes_9 (Nat.le_of_ble_eq_true rfl) ?_
  obtain ⟨r5, e6, h⟩ := bnd h
  refine wp_ls (lsS (lsS (lsS lsZ))) (X3_againMinutes_B10_lp FU _ e6 ?_ ?_)
  · intro y7 ht_; subst ht_
    replace h := elim_l h
    refine wp_iconst (v := (-1)) dX3_againMinutes_47 (by decide) ?_
    cases h
    exact wp_iret dX3_againMinutes_48 rfl
  · intro y8 ht_; subst ht_
    replace h := elim_r h
    refine wp_iload_n dX3_againMinutes_39 rfl ?_
    cases h
    exact wp_iret dX3_againMinutes_40 rfl

theorem sh_X3_againMinutes_ok {w : Gw} {d : Nat} {x0 : Nat} {x1 : Nat} {M : Gm} {out : Int32 × Gm} (h : sh_X3_againMinutes x0 x1 M = some out) : Ev w mdX3_againMinutes (d + 5) [.inr x0, .inr x1] M (.inl (some (.inl out.1))) out.2 := by
  obtain ⟨u, e0, h⟩ := bnd h
  exact ev_of okX3_againMinutes ⟨_, _, rfl, isO_of e0 (by decide), by decide⟩ (Nat.le_of_ble_eq_true rfl) (X3_againMinutes_F_ok h)

/-! HeatGovernor$State.shutBits()I -/
def X7_shutBits_J31 (x0 : Nat) (x2 : Int32) (s0 : Int32) (s1 : Int32) (M : Gm) : Option ((Int32 × Int32) ⊕ Int32) :=
  some (.inl (s0 ||| s1, x2 + 1))
def X7_shutBits_B4 (x0 : Nat) (M : Gm) (q : Int32 × Int32) : Option ((Int32 × Int32) ⊕ Int32) :=
  (gfR M x0 7 0).bind fun v1 =>
  (gfI M v1 5 5).bind fun v3 =>
  if v3 ≤ q.2 then
    some (.inr q.1)
  else
    (sh_X7_isShut x0 q.2 M).bind fun q5 =>
    if q5 = 0 then
      X7_shutBits_J31 x0 q.2 q.1 0 M
    else
      X7_shutBits_J31 x0 q.2 q.1 (1 <<< (q.2 &&& 31)) M
def X7_shutBits_F (x0 : Nat) (M : Gm) : Option (Int32) :=
  (lp (X7_shutBits_B4 x0 M) FU (0, 0)).bind fun r1 =>
  some r1
def sh_X7_shutBits (x0 : Nat) (M : Gm) : Option (Int32) := (isO M x0 7).bind fun _ => X7_shutBits_F x0 M
theorem X7_shutBits_J31_ok {w : Gw} {d : Nat} {x0 : Nat} {x2 : Int32} {s0 : Int32} {s1 : Int32} {M : Gm} {o : Go} {M' : Gm} {out : (Int32 × Int32) ⊕ Int32} (h : X7_shutBits_J31 x0 x2 s0 s1 M = some out) (hc : ∀ t : Int32 × Int32, out = .inl t → Wp w mdX7_shutBits (d + 1) 4 [some (.inr x0), some (.inl t.1), some (.inl t.2)] [] M o M') (he0 : ∀ t : Int32, out = .inr t → Wp w mdX7_shutBits (d + 1) 39 [none, some (.inl t), none] [] M o M') : Wp w mdX7_shutBits (d + 1) 31 [some (.inr x0), none, some (.inl x2)] [.inl s1, .inl s0] M o M' := by
  unfold X7_shutBits_J31 at h
  refine wp_ior dX7_shutBits_31 ?_
  refine wp_istore_n dX7_shutBits_32 (Nat.le_of_ble_eq_true rfl) ?_
  refine wp_iinc (v := x2 + 1) dX7_shutBits_33 rfl rfl ?_
  refine wp_goto (tgt := 4) dX7_shutBits_36 (by decide) ?_
  cases h
  exact wp_ls (lsS (lsS (lsS lsZ))) (hc (s0 ||| s1, x2 + 1) rfl)

theorem X7_shutBits_B4_ok {w : Gw} {d : Nat} {x0 : Nat} {M : Gm} {q : Int32 × Int32} {o : Go} {M' : Gm} {out : (Int32 × Int32) ⊕ Int32} (h : X7_shutBits_B4 x0 M q = some out) (hc : ∀ t : Int32 × Int32, out = .inl t → Wp w mdX7_shutBits (d + 1) 4 [some (.inr x0), some (.inl t.1), some (.inl t.2)] [] M o M') (he0 : ∀ t : Int32, out = .inr t → Wp w mdX7_shutBits (d + 1) 39 [none, some (.inl t), none] [] M o M') : Wp w mdX7_shutBits (d + 1) 4 [some (.inr x0), some (.inl q.1), some (.inl q.2)] [] M o M' := by
  unfold X7_shutBits_B4 at h
  refine wp_iload_n dX7_shutBits_4 rfl ?_
  refine wp_aload_n dX7_shutBits_5 rfl ?_
  obtain ⟨v1, e2, h⟩ := bnd h
  refine wp_getR (c := 7) (k := 0) dX7_shutBits_6 e2 (by decide) (by decide) rfl fl_RX7_70 ?_
  obtain ⟨v3, e4, h⟩ := bnd h
  refine wp_getI (c := 5) (k := 5) dX7_shutBits_9 e4 (by decide) (by decide) rfl fl_RX7_77 ?_
  refine wp_icmp_ge (tgt := 39) dX7_shutBits_12 (by decide) (fun hc_ => ?_) (fun hc_ => ?_)
  · replace h := ite_t hc_ h
    cases h
    exact wp_ls (lsN (lsS (lsN lsZ))) (he0 q.1 rfl)
  · replace h := ite_f hc_ h
    refine wp_iload_n dX7_shutBits_15 rfl ?_
    refine wp_aload_n dX7_shutBits_16 rfl ?_
    refine wp_iload_n dX7_shutBits_17 rfl ?_
    obtain ⟨q5, e6, h⟩ := bnd h
    refine wp_callV (As := [.inl q.2]) dX7_shutBits_18 (sh_X7_isShut_ok (d := d) e6) okX7_isShut nnX7_isShut vvX7_isShut ml_RX7_123 rfl (Nat.le_of_ble_eq_true rfl) ?_
    refine wp_if_eq (tgt := 30) dX7_shutBits_21 (by decide) (fun hc_ => ?_) (fun hc_ => ?_)
    · replace h := ite_t hc_ h
      refine wp_iconst (v := 0) dX7_shutBits_30 (by decide) ?_
      exact wp_ls (lsS (lsN (lsS lsZ))) (X7_shutBits_J31_ok h hc he0)
    · replace h := ite_f hc_ h
      refine wp_iconst (v := 1) dX7_shutBits_24 (by decide) ?_
      refine wp_iload_n dX7_shutBits_25 rfl ?_
      refine wp_ishl dX7_shutBits_26 ?_
      refine wp_goto (tgt := 31) dX7_shutBits_27 (by decide) ?_
      exact wp_ls (lsS (lsN (lsS lsZ))) (X7_shutBits_J31_ok h hc he0)

theorem X7_shutBits_B4_lp {w : Gw} {d : Nat} {x0 : Nat} {M : Gm} {o : Go} {M' : Gm} {r : Int32} : ∀ (n : Nat) (q : Int32 × Int32), lp (X7_shutBits_B4 x0 M) n q = some r → (∀ t : Int32, r = t → Wp w mdX7_shutBits (d + 1) 39 [none, some (.inl t), none] [] M o M') → Wp w mdX7_shutBits (d + 1) 4 [some (.inr x0), some (.inl q.1), some (.inl q.2)] [] M o M' := by
  intro n
  induction n with
  | zero => intro q h; cases h
  | succ n ih =>
    intro q h he0
    cases hb : X7_shutBits_B4 x0 M q with
    | none => rw [lp_succ, hb] at h; cases h
    | some out =>
      rw [lp_succ, hb] at h
      exact X7_shutBits_B4_ok hb (fun t e => ih t (by rw [e] at h; exact h) he0) (fun t e => he0 t (by rw [e] at h; cases h; rfl))
theorem X7_shutBits_F_ok {w : Gw} {d : Nat} {x0 : Nat} {M : Gm} {out : Int32} (h : X7_shutBits_F x0 M = some out) : Wp w mdX7_shutBits (d + 1) 0 [some (.inr x0), none, none] [] M (.inl (some (.inl out))) M := by
  unfold X7_shutBits_F at h
  refine wp_iconst (v := 0) dX7_shutBits_0 (by decide) ?_
  refine wp_istore_n dX7_shutBits_1 (Nat.le_of_ble_eq_true rfl) ?_
  refine wp_iconst (v := 0) dX7_shutBits_2 (by decide) ?_
  refine wp_istore_n dX7_shutBits_3 (Nat.le_of_ble_eq_true rfl) ?_
  obtain ⟨r1, e2, h⟩ := bnd h
  refine wp_ls (lsS (lsS (lsS lsZ))) (X7_shutBits_B4_lp FU _ e2 ?_)
  intro t_ ht_; cases ht_
  refine wp_iload_n dX7_shutBits_39 rfl ?_
  cases h
  exact wp_iret dX7_shutBits_40 rfl

theorem sh_X7_shutBits_ok {w : Gw} {d : Nat} {x0 : Nat} {M : Gm} {out : Int32} (h : sh_X7_shutBits x0 M = some out) : Ev w mdX7_shutBits (d + 1) [.inr x0] M (.inl (some (.inl out))) M := by
  obtain ⟨u, e0, h⟩ := bnd h
  exact ev_of okX7_shutBits ⟨_, _, rfl, isO_of e0 (by decide), by decide⟩ (Nat.le_of_ble_eq_true rfl) (X7_shutBits_F_ok h)

/-! HeatGovernor$Foresight.untilShutMore()I -/
def X3_untilShutMore_B10 (x0 : Nat) (x1 : Int32) (q : Int32 × Gm) : Option ((Int32 × Gm) ⊕ Gm ⊕ (Int32 × Gm)) :=
  if 200 < q.1 then
    some (.inr (.inl q.2))
  else
    (gfR q.2 x0 3 5).bind fun v1 =>
    (gfR q.2 x0 3 0).bind fun v3 =>
    (sh_X1_passMinute v1 v3 q.2).bind fun q5 =>
    (gfR q5 x0 3 0).bind fun v7 =>
    (sh_X7_shutBits v7 q5).bind fun q9 =>
    if q9 = x1 then
      some (.inl (q.1 + 1, q5))
    else
      some (.inr (.inr ((q.1, q5))))
def X3_untilShutMore_F (x0 : Nat) (M : Gm) : Option (Int32 × Gm) :=
  (gfR M x0 3 0).bind fun v1 =>
  (sh_X7_shutBits v1 M).bind fun q3 =>
  (lp (X3_untilShutMore_B10 x0 q3) FU (1, M)).bind fun r5 =>
  Sum.elim (fun u7 =>
    some ((-1), u7)) (fun u8 =>
    some (u8.1, u8.2)) r5
def sh_X3_untilShutMore (x0 : Nat) (M : Gm) : Option (Int32 × Gm) := (isO M x0 3).bind fun _ => X3_untilShutMore_F x0 M
theorem X3_untilShutMore_B10_ok {w : Gw} {d : Nat} {x0 : Nat} {x1 : Int32} {q : Int32 × Gm} {o : Go} {M' : Gm} {out : (Int32 × Gm) ⊕ Gm ⊕ (Int32 × Gm)} (h : X3_untilShutMore_B10 x0 x1 q = some out) (hc : ∀ t : Int32 × Gm, out = .inl t → Wp w mdX3_untilShutMore (d + 5) 10 [some (.inr x0), some (.inl x1), some (.inl t.1)] [] t.2 o M') (he0 : ∀ t : Gm, out = .inr (.inl t) → Wp w mdX3_untilShutMore (d + 5) 47 [none, none, none] [] t o M') (he1 : ∀ t : Int32 × Gm, out = .inr (.inr t) → Wp w mdX3_untilShutMore (d + 5) 39 [none, none, some (.inl t.1)] [] t.2 o M') : Wp w mdX3_untilShutMore (d + 5) 10 [some (.inr x0), some (.inl x1), some (.inl q.1)] [] q.2 o M' := by
  unfold X3_untilShutMore_B10 at h
  refine wp_iload_n dX3_untilShutMore_10 rfl ?_
  refine wp_sipush (v := 200) dX3_untilShutMore_11 (by decide) ?_
  refine wp_icmp_gt (tgt := 47) dX3_untilShutMore_14 (by decide) (fun hc_ => ?_) (fun hc_ => ?_)
  · replace h := ite_t hc_ h
    cases h
    exact wp_ls (lsN (lsN (lsN lsZ))) (he0 q.2 rfl)
  · replace h := ite_f hc_ h
    refine wp_aload_n dX3_untilShutMore_17 rfl ?_
    obtain ⟨v1, e2, h⟩ := bnd h
    refine wp_getR (c := 3) (k := 5) dX3_untilShutMore_18 e2 (by decide) (by decide) rfl fl_RX3_40 ?_
    refine wp_aload_n dX3_untilShutMore_21 rfl ?_
    obtain ⟨v3, e4, h⟩ := bnd h
    refine wp_getR (c := 3) (k := 0) dX3_untilShutMore_22 e4 (by decide) (by decide) rfl fl_RX3_36 ?_
    obtain ⟨q5, e6, h⟩ := bnd h
    refine wp_callV (As := [.inr v3]) dX3_untilShutMore_25 (sh_X1_passMinute_ok (d := d) e6) okX1_passMinute nnX1_passMinute vvX1_passMinute ml_RX3_48 rfl (Nat.le_of_ble_eq_true rfl) ?_
    refine wp_aload_n dX3_untilShutMore_28 rfl ?_
    obtain ⟨v7, e8, h⟩ := bnd h
    refine wp_getR (c := 3) (k := 0) dX3_untilShutMore_29 e8 (by decide) (by decide) rfl fl_RX3_36 ?_
    obtain ⟨q9, e10, h⟩ := bnd h
    refine wp_callV (As := []) dX3_untilShutMore_32 (sh_X7_shutBits_ok (d := d + 3) e10) okX7_shutBits nnX7_shutBits vvX7_shutBits ml_RX3_88 rfl (Nat.le_of_ble_eq_true rfl) ?_
    refine wp_iload_n dX3_untilShutMore_35 rfl ?_
    refine wp_icmp_eq (tgt := 41) dX3_untilShutMore_36 (by decide) (fun hc_ => ?_) (fun hc_ => ?_)
    · replace h := ite_t hc_ h
      refine wp_iinc (v := q.1 + 1) dX3_untilShutMore_41 rfl rfl ?_
      refine wp_goto (tgt := 10) dX3_untilShutMore_44 (by decide) ?_
      cases h
      exact wp_ls (lsS (lsS (lsS lsZ))) (hc (q.1 + 1, q5) rfl)
    · replace h := ite_f hc_ h
      cases h
      exact wp_ls (lsN (lsN (lsS lsZ))) (he1 (q.1, q5) rfl)

theorem X3_untilShutMore_B10_lp {w : Gw} {d : Nat} {x0 : Nat} {x1 : Int32} {o : Go} {M' : Gm} {r : Gm ⊕ (Int32 × Gm)} : ∀ (n : Nat) (q : Int32 × Gm), lp (X3_untilShutMore_B10 x0 x1) n q = some r → (∀ t : Gm, r = (.inl t) → Wp w mdX3_untilShutMore (d + 5) 47 [none, none, none] [] t o M') → (∀ t : Int32 × Gm, r = (.inr t) → Wp w mdX3_untilShutMore (d + 5) 39 [none, none, some (.inl t.1)] [] t.2 o M') → Wp w mdX3_untilShutMore (d + 5) 10 [some (.inr x0), some (.inl x1), some (.inl q.1)] [] q.2 o M' := by
  intro n
  induction n with
  | zero => intro q h; cases h
  | succ n ih =>
    intro q h he0 he1
    cases hb : X3_untilShutMore_B10 x0 x1 q with
    | none => rw [lp_succ, hb] at h; cases h
    | some out =>
      rw [lp_succ, hb] at h
      exact X3_untilShutMore_B10_ok hb (fun t e => ih t (by rw [e] at h; exact h) he0 he1) (fun t e => he0 t (by rw [e] at h; cases h; rfl)) (fun t e => he1 t (by rw [e] at h; cases h; rfl))
theorem X3_untilShutMore_F_ok {w : Gw} {d : Nat} {x0 : Nat} {M : Gm} {out : Int32 × Gm} (h : X3_untilShutMore_F x0 M = some out) : Wp w mdX3_untilShutMore (d + 5) 0 [some (.inr x0), none, none] [] M (.inl (some (.inl out.1))) out.2 := by
  unfold X3_untilShutMore_F at h
  refine wp_aload_n dX3_untilShutMore_0 rfl ?_
  obtain ⟨v1, e2, h⟩ := bnd h
  refine wp_getR (c := 3) (k := 0) dX3_untilShutMore_1 e2 (by decide) (by decide) rfl fl_RX3_36 ?_
  obtain ⟨q3, e4, h⟩ := bnd h
  refine wp_callV (As := []) dX3_untilShutMore_4 (sh_X7_shutBits_ok (d := d + 3) e4) okX7_shutBits nnX7_shutBits vvX7_shutBits ml_RX3_88 rfl (Nat.le_of_ble_eq_true rfl) ?_
  refine wp_istore_n dX3_untilShutMore_7 (Nat.le_of_ble_eq_true rfl) ?_
  refine wp_iconst (v := 1) dX3_untilShutMore_8 (by decide) ?_
  refine wp_istore_n dX3_untilShutMore_9 (Nat.le_of_ble_eq_true rfl) ?_
  obtain ⟨r5, e6, h⟩ := bnd h
  refine wp_ls (lsS (lsS (lsS lsZ))) (X3_untilShutMore_B10_lp FU _ e6 ?_ ?_)
  · intro y7 ht_; subst ht_
    replace h := elim_l h
    refine wp_iconst (v := (-1)) dX3_untilShutMore_47 (by decide) ?_
    cases h
    exact wp_iret dX3_untilShutMore_48 rfl
  · intro y8 ht_; subst ht_
    replace h := elim_r h
    refine wp_iload_n dX3_untilShutMore_39 rfl ?_
    cases h
    exact wp_iret dX3_untilShutMore_40 rfl

theorem sh_X3_untilShutMore_ok {w : Gw} {d : Nat} {x0 : Nat} {M : Gm} {out : Int32 × Gm} (h : sh_X3_untilShutMore x0 M = some out) : Ev w mdX3_untilShutMore (d + 5) [.inr x0] M (.inl (some (.inl out.1))) out.2 := by
  obtain ⟨u, e0, h⟩ := bnd h
  exact ev_of okX3_untilShutMore ⟨_, _, rfl, isO_of e0 (by decide), by decide⟩ (Nat.le_of_ble_eq_true rfl) (X3_untilShutMore_F_ok h)

/-! HeatGovernor$Foresight.firstMinutes(LHeatGovernor$State;)I -/
def X3_firstMinutes_F (x0 : Nat) (x1 : Nat) (M : Gm) : Option (Int32 × Gm) :=
  (gfR M x0 3 0).bind fun v1 =>
  (sh_X7_copyFrom v1 x1 M).bind fun q3 =>
  (sh_X3_untilShutMore x0 q3).bind fun q5 =>
  some (q5.1, q5.2)
def sh_X3_firstMinutes (x0 : Nat) (x1 : Nat) (M : Gm) : Option (Int32 × Gm) := (isO M x0 3).bind fun _ => X3_firstMinutes_F x0 x1 M
theorem X3_firstMinutes_F_ok {w : Gw} {d : Nat} {x0 : Nat} {x1 : Nat} {M : Gm} {out : Int32 × Gm} (h : X3_firstMinutes_F x0 x1 M = some out) : Wp w mdX3_firstMinutes (d + 6) 0 [some (.inr x0), some (.inr x1)] [] M (.inl (some (.inl out.1))) out.2 := by
  unfold X3_firstMinutes_F at h
  refine wp_aload_n dX3_firstMinutes_0 rfl ?_
  obtain ⟨v1, e2, h⟩ := bnd h
  refine wp_getR (c := 3) (k := 0) dX3_firstMinutes_1 e2 (by decide) (by decide) rfl fl_RX3_36 ?_
  refine wp_aload_n dX3_firstMinutes_4 rfl ?_
  obtain ⟨q3, e4, h⟩ := bnd h
  refine wp_callV (As := [.inr x1]) dX3_firstMinutes_5 (sh_X7_copyFrom_ok (d := d + 3) e4) okX7_copyFrom nnX7_copyFrom vvX7_copyFrom ml_RX3_44 rfl (Nat.le_of_ble_eq_true rfl) ?_
  refine wp_aload_n dX3_firstMinutes_8 rfl ?_
  obtain ⟨q5, e6, h⟩ := bnd h
  refine wp_callV (As := []) dX3_firstMinutes_9 (sh_X3_untilShutMore_ok (d := d) e6) okX3_untilShutMore nnX3_untilShutMore vvX3_untilShutMore ml_RX3_65 rfl (Nat.le_of_ble_eq_true rfl) ?_
  cases h
  exact wp_iret dX3_firstMinutes_12 rfl

theorem sh_X3_firstMinutes_ok {w : Gw} {d : Nat} {x0 : Nat} {x1 : Nat} {M : Gm} {out : Int32 × Gm} (h : sh_X3_firstMinutes x0 x1 M = some out) : Ev w mdX3_firstMinutes (d + 6) [.inr x0, .inr x1] M (.inl (some (.inl out.1))) out.2 := by
  obtain ⟨u, e0, h⟩ := bnd h
  exact ev_of okX3_firstMinutes ⟨_, _, rfl, isO_of e0 (by decide), by decide⟩ (Nat.le_of_ble_eq_true rfl) (X3_firstMinutes_F_ok h)

/-! HeatGovernor$Foresight.firstZone(LHeatGovernor$State;)I -/
def X3_firstZone_J47 (x0 : Nat) (x1 : Nat) (x2 : Int32) (M : Gm) : Option (Int32 ⊕ Unit ⊕ Int32) :=
  some (.inl (x2 + 1))
def X3_firstZone_B15 (x0 : Nat) (x1 : Nat) (M : Gm) (q : Int32) : Option (Int32 ⊕ Unit ⊕ Int32) :=
  (gfR M x1 7 0).bind fun v1 =>
  (gfI M v1 5 5).bind fun v3 =>
  if v3 ≤ q then
    some (.inr (.inl ()))
  else
    (gfR M x0 3 0).bind fun v5 =>
    (sh_X7_isShut v5 q M).bind fun q7 =>
    if q7 = 0 then
      X3_firstZone_J47 x0 x1 q M
    else
      (sh_X7_isShut x1 q M).bind fun q9 =>
      if q9 = 0 then
        some (.inr (.inr q))
      else
        X3_firstZone_J47 x0 x1 q M
def X3_firstZone_F (x0 : Nat) (x1 : Nat) (M : Gm) : Option (Int32 × Gm) :=
  (gfR M x0 3 0).bind fun v1 =>
  (sh_X7_copyFrom v1 x1 M).bind fun q3 =>
  (sh_X3_untilShutMore x0 q3).bind fun q5 =>
  (lp (X3_firstZone_B15 x0 x1 q5.2) FU 0).bind fun r7 =>
  Sum.elim (fun u9 =>
    some ((-1), q5.2)) (fun u10 =>
    some (u10, q5.2)) r7
def sh_X3_firstZone (x0 : Nat) (x1 : Nat) (M : Gm) : Option (Int32 × Gm) := (isO M x0 3).bind fun _ => X3_firstZone_F x0 x1 M
theorem X3_firstZone_J47_ok {w : Gw} {d : Nat} {x0 : Nat} {x1 : Nat} {x2 : Int32} {M : Gm} {o : Go} {M' : Gm} {out : Int32 ⊕ Unit ⊕ Int32} (h : X3_firstZone_J47 x0 x1 x2 M = some out) (hc : ∀ t : Int32, out = .inl t → Wp w mdX3_firstZone (d + 6) 15 [some (.inr x0), some (.inr x1), some (.inl t)] [] M o M') (he0 : ∀ t : Unit, out = .inr (.inl t) → Wp w mdX3_firstZone (d + 6) 53 [none, none, none] [] M o M') (he1 : ∀ t : Int32, out = .inr (.inr t) → Wp w mdX3_firstZone (d + 6) 45 [none, none, some (.inl t)] [] M o M') : Wp w mdX3_firstZone (d + 6) 47 [some (.inr x0), some (.inr x1), some (.inl x2)] [] M o M' := by
  unfold X3_firstZone_J47 at h
  refine wp_iinc (v := x2 + 1) dX3_firstZone_47 rfl rfl ?_
  refine wp_goto (tgt := 15) dX3_firstZone_50 (by decide) ?_
  cases h
  exact wp_ls (lsS (lsS (lsS lsZ))) (hc (x2 + 1) rfl)

theorem X3_firstZone_B15_ok {w : Gw} {d : Nat} {x0 : Nat} {x1 : Nat} {M : Gm} {q : Int32} {o : Go} {M' : Gm} {out : Int32 ⊕ Unit ⊕ Int32} (h : X3_firstZone_B15 x0 x1 M q = some out) (hc : ∀ t : Int32, out = .inl t → Wp w mdX3_firstZone (d + 6) 15 [some (.inr x0), some (.inr x1), some (.inl t)] [] M o M') (he0 : ∀ t : Unit, out = .inr (.inl t) → Wp w mdX3_firstZone (d + 6) 53 [none, none, none] [] M o M') (he1 : ∀ t : Int32, out = .inr (.inr t) → Wp w mdX3_firstZone (d + 6) 45 [none, none, some (.inl t)] [] M o M') : Wp w mdX3_firstZone (d + 6) 15 [some (.inr x0), some (.inr x1), some (.inl q)] [] M o M' := by
  unfold X3_firstZone_B15 at h
  refine wp_iload_n dX3_firstZone_15 rfl ?_
  refine wp_aload_n dX3_firstZone_16 rfl ?_
  obtain ⟨v1, e2, h⟩ := bnd h
  refine wp_getR (c := 7) (k := 0) dX3_firstZone_17 e2 (by decide) (by decide) rfl fl_RX3_69 ?_
  obtain ⟨v3, e4, h⟩ := bnd h
  refine wp_getI (c := 5) (k := 5) dX3_firstZone_20 e4 (by decide) (by decide) rfl fl_RX3_73 ?_
  refine wp_icmp_ge (tgt := 53) dX3_firstZone_23 (by decide) (fun hc_ => ?_) (fun hc_ => ?_)
  · replace h := ite_t hc_ h
    cases h
    exact wp_ls (lsN (lsN (lsN lsZ))) (he0 () rfl)
  · replace h := ite_f hc_ h
    refine wp_aload_n dX3_firstZone_26 rfl ?_
    obtain ⟨v5, e6, h⟩ := bnd h
    refine wp_getR (c := 3) (k := 0) dX3_firstZone_27 e6 (by decide) (by decide) rfl fl_RX3_36 ?_
    refine wp_iload_n dX3_firstZone_30 rfl ?_
    obtain ⟨q7, e8, h⟩ := bnd h
    refine wp_callV (As := [.inl q]) dX3_firstZone_31 (sh_X7_isShut_ok (d := d + 5) e8) okX7_isShut nnX7_isShut vvX7_isShut ml_RX3_78 rfl (Nat.le_of_ble_eq_true rfl) ?_
    refine wp_if_eq (tgt := 47) dX3_firstZone_34 (by decide) (fun hc_ => ?_) (fun hc_ => ?_)
    · replace h := ite_t hc_ h
      exact wp_ls (lsS (lsS (lsS lsZ))) (X3_firstZone_J47_ok h hc he0 he1)
    · replace h := ite_f hc_ h
      refine wp_aload_n dX3_firstZone_37 rfl ?_
      refine wp_iload_n dX3_firstZone_38 rfl ?_
      obtain ⟨q9, e10, h⟩ := bnd h
      refine wp_callV (As := [.inl q]) dX3_firstZone_39 (sh_X7_isShut_ok (d := d + 5) e10) okX7_isShut nnX7_isShut vvX7_isShut ml_RX3_78 rfl (Nat.le_of_ble_eq_true rfl) ?_
      refine wp_if_ne (tgt := 47) dX3_firstZone_42 (by decide) (fun hc_ => ?_) (fun hc_ => ?_)
      · replace h := ite_f hc_ h
        exact wp_ls (lsS (lsS (lsS lsZ))) (X3_firstZone_J47_ok h hc he0 he1)
      · replace h := ite_t hc_ h
        cases h
        exact wp_ls (lsN (lsN (lsS lsZ))) (he1 q rfl)

theorem X3_firstZone_B15_lp {w : Gw} {d : Nat} {x0 : Nat} {x1 : Nat} {M : Gm} {o : Go} {M' : Gm} {r : Unit ⊕ Int32} : ∀ (n : Nat) (q : Int32), lp (X3_firstZone_B15 x0 x1 M) n q = some r → (∀ t : Unit, r = (.inl t) → Wp w mdX3_firstZone (d + 6) 53 [none, none, none] [] M o M') → (∀ t : Int32, r = (.inr t) → Wp w mdX3_firstZone (d + 6) 45 [none, none, some (.inl t)] [] M o M') → Wp w mdX3_firstZone (d + 6) 15 [some (.inr x0), some (.inr x1), some (.inl q)] [] M o M' := by
  intro n
  induction n with
  | zero => intro q h; cases h
  | succ n ih =>
    intro q h he0 he1
    cases hb : X3_firstZone_B15 x0 x1 M q with
    | none => rw [lp_succ, hb] at h; cases h
    | some out =>
      rw [lp_succ, hb] at h
      exact X3_firstZone_B15_ok hb (fun t e => ih t (by rw [e] at h; exact h) he0 he1) (fun t e => he0 t (by rw [e] at h; cases h; rfl)) (fun t e => he1 t (by rw [e] at h; cases h; rfl))
theorem X3_firstZone_F_ok {w : Gw} {d : Nat} {x0 : Nat} {x1 : Nat} {M : Gm} {out : Int32 × Gm} (h : X3_firstZone_F x0 x1 M = some out) : Wp w mdX3_firstZone (d + 6) 0 [some (.inr x0), some (.inr x1), none] [] M (.inl (some (.inl out.1))) out.2 := by
  unfold X3_firstZone_F at h
  refine wp_aload_n dX3_firstZone_0 rfl ?_
  obtain ⟨v1, e2, h⟩ := bnd h
  refine wp_getR (c := 3) (k := 0) dX3_firstZone_1 e2 (by decide) (by decide) rfl fl_RX3_36 ?_
  refine wp_aload_n dX3_firstZone_4 rfl ?_
  obtain ⟨q3, e4, h⟩ := bnd h
  refine wp_callV (As := [.inr x1]) dX3_firstZone_5 (sh_X7_copyFrom_ok (d := d + 3) e4) okX7_copyFrom nnX7_copyFrom vvX7_copyFrom ml_RX3_44 rfl (Nat.le_of_ble_eq_true rfl) ?_
  refine wp_aload_n dX3_firstZone_8 rfl ?_
  obtain ⟨q5, e6, h⟩ := bnd h
  refine wp_callV (As := []) dX3_firstZone_9 (sh_X3_untilShutMore_ok (d := d) e6) okX3_untilShutMore nnX3_untilShutMore vvX3_untilShutMore ml_RX3_65 rfl (Nat.le_of_ble_eq_true rfl) ?_
  refine wp_pop dX3_firstZone_12 ?_
  refine wp_iconst (v := 0) dX3_firstZone_13 (by decide) ?_
  refine wp_istore_n dX3_firstZone_14 (Nat.le_of_ble_eq_true rfl) ?_
  obtain ⟨r7, e8, h⟩ := bnd h
  refine wp_ls (lsS (lsS (lsS lsZ))) (X3_firstZone_B15_lp FU _ e8 ?_ ?_)
  · intro y9 ht_; subst ht_
    replace h := elim_l h
    refine wp_iconst (v := (-1)) dX3_firstZone_53 (by decide) ?_
    cases h
    exact wp_iret dX3_firstZone_54 rfl
  · intro y10 ht_; subst ht_
    replace h := elim_r h
    refine wp_iload_n dX3_firstZone_45 rfl ?_
    cases h
    exact wp_iret dX3_firstZone_46 rfl

theorem sh_X3_firstZone_ok {w : Gw} {d : Nat} {x0 : Nat} {x1 : Nat} {M : Gm} {out : Int32 × Gm} (h : sh_X3_firstZone x0 x1 M = some out) : Ev w mdX3_firstZone (d + 6) [.inr x0, .inr x1] M (.inl (some (.inl out.1))) out.2 := by
  obtain ⟨u, e0, h⟩ := bnd h
  exact ev_of okX3_firstZone ⟨_, _, rfl, isO_of e0 (by decide), by decide⟩ (Nat.le_of_ble_eq_true rfl) (X3_firstZone_F_ok h)

/-! HeatGovernor$Foresight.neededDevice(LHeatGovernor$State;)I -/
def X3_neededDevice_J64 (x0 : Nat) (x1 : Nat) (x2 : Int32) (x3 : Int32) (x4 : Int32) (M : Gm) : Option ((Int32 × Int32 × Int32 × Gm) ⊕ (Int32 × Gm)) :=
  some (.inl (x2, x3, x4 + 1, M))
def X3_neededDevice_B9 (x0 : Nat) (x1 : Nat) (q : Int32 × Int32 × Int32 × Gm) : Option ((Int32 × Int32 × Int32 × Gm) ⊕ (Int32 × Gm)) :=
  (gfR q.2.2.2 x1 7 0).bind fun v1 =>
  (gfI q.2.2.2 v1 5 7).bind fun v3 =>
  if v3 ≤ q.2.2.1 then
    some (.inr (q.1, q.2.2.2))
  else
    (gfR q.2.2.2 x0 3 0).bind fun v5 =>
    (sh_X7_copyFrom v5 x1 q.2.2.2).bind fun q7 =>
    (gfR q7 x0 3 0).bind fun v9 =>
    (gfR q7 v9 7 14).bind fun v11 =>
    (stA q7 0 v11 q.2.2.1 0).bind fun M13 =>
    (sh_X3_untilShutMore x0 M13).bind fun q15 =>
    if q15.1 = ((-1)) then
      X3_neededDevice_J64 x0 x1 q.1 q.2.1 q.2.2.1 q15.2
    else
      if q.2.1 ≤ q15.1 then
        X3_neededDevice_J64 x0 x1 q.1 q.2.1 q.2.2.1 q15.2
      else
        X3_neededDevice_J64 x0 x1 q.2.2.1 q15.1 q.2.2.1 q15.2
def X3_neededDevice_F (x0 : Nat) (x1 : Nat) (M : Gm) : Option (Int32 × Gm) :=
  (lp (X3_neededDevice_B9 x0 x1) FU ((-1), 201, 0, M)).bind fun r1 =>
  some (r1.1, r1.2)
def sh_X3_neededDevice (x0 : Nat) (x1 : Nat) (M : Gm) : Option (Int32 × Gm) := (isO M x0 3).bind fun _ => X3_neededDevice_F x0 x1 M
theorem X3_neededDevice_J64_ok {w : Gw} {d : Nat} {x0 : Nat} {x1 : Nat} {x2 : Int32} {x3 : Int32} {x4 : Int32} {M : Gm} {o : Go} {M' : Gm} {out : (Int32 × Int32 × Int32 × Gm) ⊕ (Int32 × Gm)} (h : X3_neededDevice_J64 x0 x1 x2 x3 x4 M = some out) (hc : ∀ t : Int32 × Int32 × Int32 × Gm, out = .inl t → Wp w mdX3_neededDevice (d + 6) 9 [some (.inr x0), some (.inr x1), some (.inl t.1), some (.inl t.2.1), some (.inl t.2.2.1), none] [] t.2.2.2 o M') (he0 : ∀ t : Int32 × Gm, out = .inr t → Wp w mdX3_neededDevice (d + 6) 70 [none, none, some (.inl t.1), none, none, none] [] t.2 o M') : Wp w mdX3_neededDevice (d + 6) 64 [some (.inr x0), some (.inr x1), some (.inl x2), some (.inl x3), some (.inl x4), none] [] M o M' := by
  unfold X3_neededDevice_J64 at h
  refine wp_iinc (v := x4 + 1) dX3_neededDevice_64 rfl rfl ?_
  refine wp_goto (tgt := 9) dX3_neededDevice_67 (by decide) ?_
  cases h
  exact wp_ls (lsS (lsS (lsS (lsS (lsS (lsN lsZ)))))) (hc (x2, x3, x4 + 1, M) rfl)

theorem X3_neededDevice_B9_ok {w : Gw} {d : Nat} {x0 : Nat} {x1 : Nat} {q : Int32 × Int32 × Int32 × Gm} {o : Go} {M' : Gm} {out : (Int32 × Int32 × Int32 × Gm) ⊕ (Int32 × Gm)} (h : X3_neededDevice_B9 x0 x1 q = some out) (hc : ∀ t : Int32 × Int32 × Int32 × Gm, out = .inl t → Wp w mdX3_neededDevice (d + 6) 9 [some (.inr x0), some (.inr x1), some (.inl t.1), some (.inl t.2.1), some (.inl t.2.2.1), none] [] t.2.2.2 o M') (he0 : ∀ t : Int32 × Gm, out = .inr t → Wp w mdX3_neededDevice (d + 6) 70 [none, none, some (.inl t.1), none, none, none] [] t.2 o M') : Wp w mdX3_neededDevice (d + 6) 9 [some (.inr x0), some (.inr x1), some (.inl q.1), some (.inl q.2.1), some (.inl q.2.2.1), none] [] q.2.2.2 o M' := by
  unfold X3_neededDevice_B9 at h
  refine wp_iload dX3_neededDevice_9 rfl ?_
  refine wp_aload_n dX3_neededDevice_11 rfl ?_
  obtain ⟨v1, e2, h⟩ := bnd h
  refine wp_getR (c := 7) (k := 0) dX3_neededDevice_12 e2 (by decide) (by decide) rfl fl_RX3_69 ?_
  obtain ⟨v3, e4, h⟩ := bnd h
  refine wp_getI (c := 5) (k := 7) dX3_neededDevice_15 e4 (by decide) (by decide) rfl fl_RX3_82 ?_
  refine wp_icmp_ge (tgt := 70) dX3_neededDevice_18 (by decide) (fun hc_ => ?_) (fun hc_ => ?_)
  · replace h := ite_t hc_ h
    cases h
    exact wp_ls (lsN (lsN (lsS (lsN (lsN (lsN lsZ)))))) (he0 (q.1, q.2.2.2) rfl)
  · replace h := ite_f hc_ h
    refine wp_aload_n dX3_neededDevice_21 rfl ?_
    obtain ⟨v5, e6, h⟩ := bnd h
    refine wp_getR (c := 3) (k := 0) dX3_neededDevice_22 e6 (by decide) (by decide) rfl fl_RX3_36 ?_
    refine wp_aload_n dX3_neededDevice_25 rfl ?_
    obtain ⟨q7, e8, h⟩ := bnd h
    refine wp_callV (As := [.inr x1]) dX3_neededDevice_26 (sh_X7_copyFrom_ok (d := d + 3) e8) okX7_copyFrom nnX7_copyFrom vvX7_copyFrom ml_RX3_44 rfl (Nat.le_of_ble_eq_true rfl) ?_
    refine wp_aload_n dX3_neededDevice_29 rfl ?_
    obtain ⟨v9, e10, h⟩ := bnd h
    refine wp_getR (c := 3) (k := 0) dX3_neededDevice_30 e10 (by decide) (by decide) rfl fl_RX3_36 ?_
    obtain ⟨v11, e12, h⟩ := bnd h
    refine wp_getR (c := 7) (k := 14) dX3_neededDevice_33 e12 (by decide) (by decide) rfl fl_RX3_85 ?_
    refine wp_iload dX3_neededDevice_36 rfl ?_
    refine wp_iconst (v := 0) dX3_neededDevice_38 (by decide) ?_
    obtain ⟨M13, e14, h⟩ := bnd h
    refine wp_iastore dX3_neededDevice_39 e14 ?_
    refine wp_aload_n dX3_neededDevice_40 rfl ?_
    obtain ⟨q15, e16, h⟩ := bnd h
    refine wp_callV (As := []) dX3_neededDevice_41 (sh_X3_untilShutMore_ok (d := d) e16) okX3_untilShutMore nnX3_untilShutMore vvX3_untilShutMore ml_RX3_65 rfl (Nat.le_of_ble_eq_true rfl) ?_
    refine wp_istore dX3_neededDevice_44 (Nat.le_of_ble_eq_true rfl) ?_
    refine wp_iload dX3_neededDevice_46 rfl ?_
    refine wp_iconst (v := (-1)) dX3_neededDevice_48 (by decide) ?_
    refine wp_icmp_eq (tgt := 64) dX3_neededDevice_49 (by decide) (fun hc_ => ?_) (fun hc_ => ?_)
    · replace h := ite_t hc_ h
      exact wp_ls (lsS (lsS (lsS (lsS (lsS (lsN lsZ)))))) (X3_neededDevice_J64_ok h hc he0)
    · replace h := ite_f hc_ h
      refine wp_iload dX3_neededDevice_52 rfl ?_
      refine wp_iload_n dX3_neededDevice_54 rfl ?_
      refine wp_icmp_ge (tgt := 64) dX3_neededDevice_55 (by decide) (fun hc_ => ?_) (fun hc_ => ?_)
      · replace h := ite_t hc_ h
        exact wp_ls (lsS (lsS (lsS (lsS (lsS (lsN lsZ)))))) (X3_neededDevice_J64_ok h hc he0)
      · replace h := ite_f hc_ h
        refine wp_iload dX3_neededDevice_58 rfl ?_
        refine wp_istore_n dX3_neededDevice_60 (Nat.le_of_ble_eq_true rfl) ?_
        refine wp_iload dX3_neededDevice_61 rfl ?_
        refine wp_istore_n dX3_neededDevice_63 (Nat.le_of_ble_eq_true rfl) ?_
        exact wp_ls (lsS (lsS (lsS (lsS (lsS (lsN lsZ)))))) (X3_neededDevice_J64_ok h hc he0)

theorem X3_neededDevice_B9_lp {w : Gw} {d : Nat} {x0 : Nat} {x1 : Nat} {o : Go} {M' : Gm} {r : (Int32 × Gm)} : ∀ (n : Nat) (q : Int32 × Int32 × Int32 × Gm), lp (X3_neededDevice_B9 x0 x1) n q = some r → (∀ t : Int32 × Gm, r = t → Wp w mdX3_neededDevice (d + 6) 70 [none, none, some (.inl t.1), none, none, none] [] t.2 o M') → Wp w mdX3_neededDevice (d + 6) 9 [some (.inr x0), some (.inr x1), some (.inl q.1), some (.inl q.2.1), some (.inl q.2.2.1), none] [] q.2.2.2 o M' := by
  intro n
  induction n with
  | zero => intro q h; cases h
  | succ n ih =>
    intro q h he0
    cases hb : X3_neededDevice_B9 x0 x1 q with
    | none => rw [lp_succ, hb] at h; cases h
    | some out =>
      rw [lp_succ, hb] at h
      exact X3_neededDevice_B9_ok hb (fun t e => ih t (by rw [e] at h; exact h) he0) (fun t e => he0 t (by rw [e] at h; cases h; rfl))
theorem X3_neededDevice_F_ok {w : Gw} {d : Nat} {x0 : Nat} {x1 : Nat} {M : Gm} {out : Int32 × Gm} (h : X3_neededDevice_F x0 x1 M = some out) : Wp w mdX3_neededDevice (d + 6) 0 [some (.inr x0), some (.inr x1), none, none, none, none] [] M (.inl (some (.inl out.1))) out.2 := by
  unfold X3_neededDevice_F at h
  refine wp_iconst (v := (-1)) dX3_neededDevice_0 (by decide) ?_
  refine wp_istore_n dX3_neededDevice_1 (Nat.le_of_ble_eq_true rfl) ?_
  refine wp_sipush (v := 201) dX3_neededDevice_2 (by decide) ?_
  refine wp_istore_n dX3_neededDevice_5 (Nat.le_of_ble_eq_true rfl) ?_
  refine wp_iconst (v := 0) dX3_neededDevice_6 (by decide) ?_
  refine wp_istore dX3_neededDevice_7 (Nat.le_of_ble_eq_true rfl) ?_
  obtain ⟨r1, e2, h⟩ := bnd h
  refine wp_ls (lsS (lsS (lsS (lsS (lsS (lsN lsZ)))))) (X3_neededDevice_B9_lp FU _ e2 ?_)
  intro t_ ht_; cases ht_
  refine wp_iload_n dX3_neededDevice_70 rfl ?_
  cases h
  exact wp_iret dX3_neededDevice_71 rfl

theorem sh_X3_neededDevice_ok {w : Gw} {d : Nat} {x0 : Nat} {x1 : Nat} {M : Gm} {out : Int32 × Gm} (h : sh_X3_neededDevice x0 x1 M = some out) : Ev w mdX3_neededDevice (d + 6) [.inr x0, .inr x1] M (.inl (some (.inl out.1))) out.2 := by
  obtain ⟨u, e0, h⟩ := bnd h
  exact ev_of okX3_neededDevice ⟨_, _, rfl, isO_of e0 (by decide), by decide⟩ (Nat.le_of_ble_eq_true rfl) (X3_neededDevice_F_ok h)

/-! HeatGovernor$State.onBits()I -/
def X7_onBits_B4 (x0 : Nat) (M : Gm) (q : Int32 × Int32) : Option ((Int32 × Int32) ⊕ Int32) :=
  (gfR M x0 7 0).bind fun v1 =>
  (gfI M v1 5 6).bind fun v3 =>
  if v3 ≤ q.2 then
    some (.inr q.1)
  else
    (gfR M x0 7 10).bind fun v5 =>
    (ldA M 0 v5 q.2).bind fun v7 =>
    some (.inl (q.1 ||| (v7 <<< (q.2 &&& 31)), q.2 + 1))
def X7_onBits_F (x0 : Nat) (M : Gm) : Option (Int32) :=
  (lp (X7_onBits_B4 x0 M) FU (0, 0)).bind fun r1 =>
  some r1
def sh_X7_onBits (x0 : Nat) (M : Gm) : Option (Int32) := (isO M x0 7).bind fun _ => X7_onBits_F x0 M
theorem X7_onBits_B4_ok {w : Gw} {d : Nat} {x0 : Nat} {M : Gm} {q : Int32 × Int32} {o : Go} {M' : Gm} {out : (Int32 × Int32) ⊕ Int32} (h : X7_onBits_B4 x0 M q = some out) (hc : ∀ t : Int32 × Int32, out = .inl t → Wp w mdX7_onBits d 4 [some (.inr x0), some (.inl t.1), some (.inl t.2)] [] M o M') (he0 : ∀ t : Int32, out = .inr t → Wp w mdX7_onBits d 32 [none, some (.inl t), none] [] M o M') : Wp w mdX7_onBits d 4 [some (.inr x0), some (.inl q.1), some (.inl q.2)] [] M o M' := by
  unfold X7_onBits_B4 at h
  refine wp_iload_n dX7_onBits_4 rfl ?_
  refine wp_aload_n dX7_onBits_5 rfl ?_
  obtain ⟨v1, e2, h⟩ := bnd h
  refine wp_getR (c := 7) (k := 0) dX7_onBits_6 e2 (by decide) (by decide) rfl fl_RX7_70 ?_
  obtain ⟨v3, e4, h⟩ := bnd h
  refine wp_getI (c := 5) (k := 6) dX7_onBits_9 e4 (by decide) (by decide) rfl fl_RX7_127 ?_
  refine wp_icmp_ge (tgt := 32) dX7_onBits_12 (by decide) (fun hc_ => ?_) (fun hc_ => ?_)
  · replace h := ite_t hc_ h
    cases h
    exact wp_ls (lsN (lsS (lsN lsZ))) (he0 q.1 rfl)
  · replace h := ite_f hc_ h
    refine wp_iload_n dX7_onBits_15 rfl ?_
    refine wp_aload_n dX7_onBits_16 rfl ?_
    obtain ⟨v5, e6, h⟩ := bnd h
    refine wp_getR (c := 7) (k := 10) dX7_onBits_17 e6 (by decide) (by decide) rfl fl_RX7_40 ?_
    refine wp_iload_n dX7_onBits_20 rfl ?_
    obtain ⟨v7, e8, h⟩ := bnd h
    refine wp_iaload dX7_onBits_21 e8 ?_
    refine wp_iload_n dX7_onBits_22 rfl ?_
    refine wp_ishl dX7_onBits_23 ?_
    refine wp_ior dX7_onBits_24 ?_
    refine wp_istore_n dX7_onBits_25 (Nat.le_of_ble_eq_true rfl) ?_
    refine wp_iinc (v := q.2 + 1) dX7_onBits_26 rfl rfl ?_
    refine wp_goto (tgt := 4) dX7_onBits_29 (by decide) ?_
    cases h
    exact wp_ls (lsS (lsS (lsS lsZ))) (hc (q.1 ||| (v7 <<< (q.2 &&& 31)), q.2 + 1) rfl)

theorem X7_onBits_B4_lp {w : Gw} {d : Nat} {x0 : Nat} {M : Gm} {o : Go} {M' : Gm} {r : Int32} : ∀ (n : Nat) (q : Int32 × Int32), lp (X7_onBits_B4 x0 M) n q = some r → (∀ t : Int32, r = t → Wp w mdX7_onBits d 32 [none, some (.inl t), none] [] M o M') → Wp w mdX7_onBits d 4 [some (.inr x0), some (.inl q.1), some (.inl q.2)] [] M o M' := by
  intro n
  induction n with
  | zero => intro q h; cases h
  | succ n ih =>
    intro q h he0
    cases hb : X7_onBits_B4 x0 M q with
    | none => rw [lp_succ, hb] at h; cases h
    | some out =>
      rw [lp_succ, hb] at h
      exact X7_onBits_B4_ok hb (fun t e => ih t (by rw [e] at h; exact h) he0) (fun t e => he0 t (by rw [e] at h; cases h; rfl))
theorem X7_onBits_F_ok {w : Gw} {d : Nat} {x0 : Nat} {M : Gm} {out : Int32} (h : X7_onBits_F x0 M = some out) : Wp w mdX7_onBits d 0 [some (.inr x0), none, none] [] M (.inl (some (.inl out))) M := by
  unfold X7_onBits_F at h
  refine wp_iconst (v := 0) dX7_onBits_0 (by decide) ?_
  refine wp_istore_n dX7_onBits_1 (Nat.le_of_ble_eq_true rfl) ?_
  refine wp_iconst (v := 0) dX7_onBits_2 (by decide) ?_
  refine wp_istore_n dX7_onBits_3 (Nat.le_of_ble_eq_true rfl) ?_
  obtain ⟨r1, e2, h⟩ := bnd h
  refine wp_ls (lsS (lsS (lsS lsZ))) (X7_onBits_B4_lp FU _ e2 ?_)
  intro t_ ht_; cases ht_
  refine wp_iload_n dX7_onBits_32 rfl ?_
  cases h
  exact wp_iret dX7_onBits_33 rfl

theorem sh_X7_onBits_ok {w : Gw} {d : Nat} {x0 : Nat} {M : Gm} {out : Int32} (h : sh_X7_onBits x0 M = some out) : Ev w mdX7_onBits d [.inr x0] M (.inl (some (.inl out))) M := by
  obtain ⟨u, e0, h⟩ := bnd h
  exact ev_of okX7_onBits ⟨_, _, rfl, isO_of e0 (by decide), by decide⟩ (Nat.le_of_ble_eq_true rfl) (X7_onBits_F_ok h)

/-! HeatGovernor.count(I)I -/
def X11_count_F (x0 : Nat) (x1 : Int32) (M : Gm) : Option ((Int32 × Gm) ⊕ (Nat × Gm)) :=
  (gfR M x0 11 6).bind fun v1 =>
  (gfR M v1 4 0).bind fun v3 =>
  if x1 = 0 then
    (gfR M x0 11 4).bind fun v5 =>
    (gfI M v5 5 5).bind fun v7 =>
    some (.inl (v7, M))
  else if x1 = 1 then
    (gfR M x0 11 4).bind fun v9 =>
    (gfI M v9 5 6).bind fun v11 =>
    some (.inl (v11, M))
  else if x1 = 2 then
    (gfR M x0 11 4).bind fun v13 =>
    (gfI M v13 5 7).bind fun v15 =>
    some (.inl (v15, M))
  else if x1 = 3 then
    (gfR M x0 11 4).bind fun v17 =>
    (gfI M v17 5 8).bind fun v19 =>
    some (.inl (v19, M))
  else if x1 = 4 then
    (gfR M x0 11 4).bind fun v21 =>
    (gfI M v21 5 9).bind fun v23 =>
    some (.inl (v23, M))
  else if x1 = 5 then
    (gfI M v3 7 1).bind fun v25 =>
    some (.inl (v25, M))
  else if x1 = 6 then
    (gfI M v3 7 2).bind fun v27 =>
    some (.inl (v27, M))
  else if x1 = 7 then
    (sh_X7_shutBits v3 M).bind fun q29 =>
    some (.inl (q29, M))
  else if x1 = 8 then
    (sh_X7_onBits v3 M).bind fun q31 =>
    some (.inl (q31, M))
  else if x1 = 9 then
    (gfR M x0 11 10).bind fun v33 =>
    (sh_X3_firstMinutes v33 v3 M).bind fun q35 =>
    some (.inl (q35.1, q35.2))
  else if x1 = 10 then
    (gfR M x0 11 10).bind fun v37 =>
    (sh_X3_firstZone v37 v3 M).bind fun q39 =>
    some (.inl (q39.1, q39.2))
  else if x1 = 11 then
    (gfR M x0 11 10).bind fun v41 =>
    (sh_X3_neededDevice v41 v3 M).bind fun q43 =>
    some (.inl (q43.1, q43.2))
  else if x1 = 12 then
    (gfR M x0 11 10).bind fun v45 =>
    (sh_X3_againMinutes v45 v3 M).bind fun q47 =>
    some (.inl (q47.1, q47.2))
  else if x1 = 13 then
    (gfI M v3 7 18).bind fun v49 =>
    some (.inl (v49, M))
  else if x1 = 14 then
    (gfR M x0 11 6).bind fun v51 =>
    (gfI M v51 4 3).bind fun v53 =>
    some (.inl (v53, M))
  else if x1 = 15 then
    (gfR M x0 11 6).bind fun v55 =>
    (gfI M v55 4 7).bind fun v57 =>
    some (.inl (v57, M))
  else if x1 = 16 then
    (gfI M x0 11 1).bind fun v59 =>
    some (.inl (v59, M))
  else if x1 = 17 then
    (gfR M x0 11 6).bind fun v61 =>
    (gfR M v61 4 8).bind fun v63 =>
    (ldA M 0 v63 0).bind fun v65 =>
    some (.inl (v65, M))
  else if x1 = 18 then
    (gfR M x0 11 6).bind fun v67 =>
    (gfR M v67 4 8).bind fun v69 =>
    (ldA M 0 v69 1).bind fun v71 =>
    some (.inl (v71, M))
  else if x1 = 19 then
    (gfR M x0 11 6).bind fun v73 =>
    (gfR M v73 4 8).bind fun v75 =>
    (ldA M 0 v75 2).bind fun v77 =>
    some (.inl (v77, M))
  else
    some (.inr (1, nwM M (13, 0)))
def sh_X11_count (x0 : Nat) (x1 : Int32) (M : Gm) : Option ((Int32 × Gm) ⊕ (Nat × Gm)) := (isO M x0 11).bind fun _ => X11_count_F x0 x1 M
theorem X11_count_F_ok {w : Gw} {d : Nat} {x0 : Nat} {x1 : Int32} {M : Gm} {out : (Int32 × Gm) ⊕ (Nat × Gm)} (h : X11_count_F x0 x1 M = some out) : Wp w mdX11_count (d + 7) 0 [some (.inr x0), some (.inl x1), none] [] M (xoP out) (xmP out) := by
  unfold X11_count_F at h
  refine wp_aload_n dX11_count_0 rfl ?_
  obtain ⟨v1, e2, h⟩ := bnd h
  refine wp_getR (c := 11) (k := 6) dX11_count_1 e2 (by decide) (by decide) rfl fl_RX11_44 ?_
  obtain ⟨v3, e4, h⟩ := bnd h
  refine wp_getR (c := 4) (k := 0) dX11_count_4 e4 (by decide) (by decide) rfl fl_RX11_96 ?_
  refine wp_astore_n dX11_count_7 (Nat.le_of_ble_eq_true rfl) ?_
  refine wp_iload_n dX11_count_8 rfl ?_
  by_cases cz0 : x1 = 0
  · replace h := ite_t cz0 h
    refine wp_tableIn (tgt := 104) dX11_count_9 0 (by rw [cz0]; decide) (by decide) rfl (by decide) ?_
    refine wp_aload_n dX11_count_104 rfl ?_
    obtain ⟨v5, e6, h⟩ := bnd h
    refine wp_getR (c := 11) (k := 4) dX11_count_105 e6 (by decide) (by decide) rfl fl_RX11_32 ?_
    obtain ⟨v7, e8, h⟩ := bnd h
    refine wp_getI (c := 5) (k := 5) dX11_count_108 e8 (by decide) (by decide) rfl fl_RX11_100 ?_
    cases h
    exact wp_iret dX11_count_111 rfl
  replace h := ite_f cz0 h
  by_cases cz1 : x1 = 1
  · replace h := ite_t cz1 h
    refine wp_tableIn (tgt := 112) dX11_count_9 1 (by rw [cz1]; decide) (by decide) rfl (by decide) ?_
    refine wp_aload_n dX11_count_112 rfl ?_
    obtain ⟨v9, e10, h⟩ := bnd h
    refine wp_getR (c := 11) (k := 4) dX11_count_113 e10 (by decide) (by decide) rfl fl_RX11_32 ?_
    obtain ⟨v11, e12, h⟩ := bnd h
    refine wp_getI (c := 5) (k := 6) dX11_count_116 e12 (by decide) (by decide) rfl fl_RX11_103 ?_
    cases h
    exact wp_iret dX11_count_119 rfl
  replace h := ite_f cz1 h
  by_cases cz2 : x1 = 2
  · replace h := ite_t cz2 h
    refine wp_tableIn (tgt := 120) dX11_count_9 2 (by rw [cz2]; decide) (by decide) rfl (by decide) ?_
    refine wp_aload_n dX11_count_120 rfl ?_
    obtain ⟨v13, e14, h⟩ := bnd h
    refine wp_getR (c := 11) (k := 4) dX11_count_121 e14 (by decide) (by decide) rfl fl_RX11_32 ?_
    obtain ⟨v15, e16, h⟩ := bnd h
    refine wp_getI (c := 5) (k := 7) dX11_count_124 e16 (by decide) (by decide) rfl fl_RX11_106 ?_
    cases h
    exact wp_iret dX11_count_127 rfl
  replace h := ite_f cz2 h
  by_cases cz3 : x1 = 3
  · replace h := ite_t cz3 h
    refine wp_tableIn (tgt := 128) dX11_count_9 3 (by rw [cz3]; decide) (by decide) rfl (by decide) ?_
    refine wp_aload_n dX11_count_128 rfl ?_
    obtain ⟨v17, e18, h⟩ := bnd h
    refine wp_getR (c := 11) (k := 4) dX11_count_129 e18 (by decide) (by decide) rfl fl_RX11_32 ?_
    obtain ⟨v19, e20, h⟩ := bnd h
    refine wp_getI (c := 5) (k := 8) dX11_count_132 e20 (by decide) (by decide) rfl fl_RX11_109 ?_
    cases h
    exact wp_iret dX11_count_135 rfl
  replace h := ite_f cz3 h
  by_cases cz4 : x1 = 4
  · replace h := ite_t cz4 h
    refine wp_tableIn (tgt := 136) dX11_count_9 4 (by rw [cz4]; decide) (by decide) rfl (by decide) ?_
    refine wp_aload_n dX11_count_136 rfl ?_
    obtain ⟨v21, e22, h⟩ := bnd h
    refine wp_getR (c := 11) (k := 4) dX11_count_137 e22 (by decide) (by decide) rfl fl_RX11_32 ?_
    obtain ⟨v23, e24, h⟩ := bnd h
    refine wp_getI (c := 5) (k := 9) dX11_count_140 e24 (by decide) (by decide) rfl fl_RX11_112 ?_
    cases h
    exact wp_iret dX11_count_143 rfl
  replace h := ite_f cz4 h
  by_cases cz5 : x1 = 5
  · replace h := ite_t cz5 h
    refine wp_tableIn (tgt := 144) dX11_count_9 5 (by rw [cz5]; decide) (by decide) rfl (by decide) ?_
    refine wp_aload_n dX11_count_144 rfl ?_
    obtain ⟨v25, e26, h⟩ := bnd h
    refine wp_getI (c := 7) (k := 1) dX11_count_145 e26 (by decide) (by decide) rfl fl_RX11_115 ?_
    cases h
    exact wp_iret dX11_count_148 rfl
  replace h := ite_f cz5 h
  by_cases cz6 : x1 = 6
  · replace h := ite_t cz6 h
    refine wp_tableIn (tgt := 149) dX11_count_9 6 (by rw [cz6]; decide) (by decide) rfl (by decide) ?_
    refine wp_aload_n dX11_count_149 rfl ?_
    obtain ⟨v27, e28, h⟩ := bnd h
    refine wp_getI (c := 7) (k := 2) dX11_count_150 e28 (by decide) (by decide) rfl fl_RX11_120 ?_
    cases h
    exact wp_iret dX11_count_153 rfl
  replace h := ite_f cz6 h
  by_cases cz7 : x1 = 7
  · replace h := ite_t cz7 h
    refine wp_tableIn (tgt := 154) dX11_count_9 7 (by rw [cz7]; decide) (by decide) rfl (by decide) ?_
    refine wp_aload_n dX11_count_154 rfl ?_
    obtain ⟨q29, e30, h⟩ := bnd h
    refine wp_callV (As := []) dX11_count_155 (sh_X7_shutBits_ok (d := d + 5) e30) okX7_shutBits nnX7_shutBits vvX7_shutBits ml_RX11_123 rfl (Nat.le_of_ble_eq_true rfl) ?_
    cases h
    exact wp_iret dX11_count_158 rfl
  replace h := ite_f cz7 h
  by_cases cz8 : x1 = 8
  · replace h := ite_t cz8 h
    refine wp_tableIn (tgt := 159) dX11_count_9 8 (by rw [cz8]; decide) (by decide) rfl (by decide) ?_
    refine wp_aload_n dX11_count_159 rfl ?_
    obtain ⟨q31, e32, h⟩ := bnd h
    refine wp_callV (As := []) dX11_count_160 (sh_X7_onBits_ok (d := d + 6) e32) okX7_onBits nnX7_onBits vvX7_onBits ml_RX11_126 rfl (Nat.le_of_ble_eq_true rfl) ?_
    cases h
    exact wp_iret dX11_count_163 rfl
  replace h := ite_f cz8 h
  by_cases cz9 : x1 = 9
  · replace h := ite_t cz9 h
    refine wp_tableIn (tgt := 164) dX11_count_9 9 (by rw [cz9]; decide) (by decide) rfl (by decide) ?_
    refine wp_aload_n dX11_count_164 rfl ?_
    obtain ⟨v33, e34, h⟩ := bnd h
    refine wp_getR (c := 11) (k := 10) dX11_count_165 e34 (by decide) (by decide) rfl fl_RX11_67 ?_
    refine wp_aload_n dX11_count_168 rfl ?_
    obtain ⟨q35, e36, h⟩ := bnd h
    refine wp_callV (As := [.inr v3]) dX11_count_169 (sh_X3_firstMinutes_ok (d := d) e36) okX3_firstMinutes nnX3_firstMinutes vvX3_firstMinutes ml_RX11_129 rfl (Nat.le_of_ble_eq_true rfl) ?_
    cases h
    exact wp_iret dX11_count_172 rfl
  replace h := ite_f cz9 h
  by_cases cz10 : x1 = 10
  · replace h := ite_t cz10 h
    refine wp_tableIn (tgt := 173) dX11_count_9 10 (by rw [cz10]; decide) (by decide) rfl (by decide) ?_
    refine wp_aload_n dX11_count_173 rfl ?_
    obtain ⟨v37, e38, h⟩ := bnd h
    refine wp_getR (c := 11) (k := 10) dX11_count_174 e38 (by decide) (by decide) rfl fl_RX11_67 ?_
    refine wp_aload_n dX11_count_177 rfl ?_
    obtain ⟨q39, e40, h⟩ := bnd h
    refine wp_callV (As := [.inr v3]) dX11_count_178 (sh_X3_firstZone_ok (d := d) e40) okX3_firstZone nnX3_firstZone vvX3_firstZone ml_RX11_133 rfl (Nat.le_of_ble_eq_true rfl) ?_
    cases h
    exact wp_iret dX11_count_181 rfl
  replace h := ite_f cz10 h
  by_cases cz11 : x1 = 11
  · replace h := ite_t cz11 h
    refine wp_tableIn (tgt := 182) dX11_count_9 11 (by rw [cz11]; decide) (by decide) rfl (by decide) ?_
    refine wp_aload_n dX11_count_182 rfl ?_
    obtain ⟨v41, e42, h⟩ := bnd h
    refine wp_getR (c := 11) (k := 10) dX11_count_183 e42 (by decide) (by decide) rfl fl_RX11_67 ?_
    refine wp_aload_n dX11_count_186 rfl ?_
    obtain ⟨q43, e44, h⟩ := bnd h
    refine wp_callV (As := [.inr v3]) dX11_count_187 (sh_X3_neededDevice_ok (d := d) e44) okX3_neededDevice nnX3_neededDevice vvX3_neededDevice ml_RX11_136 rfl (Nat.le_of_ble_eq_true rfl) ?_
    cases h
    exact wp_iret dX11_count_190 rfl
  replace h := ite_f cz11 h
  by_cases cz12 : x1 = 12
  · replace h := ite_t cz12 h
    refine wp_tableIn (tgt := 191) dX11_count_9 12 (by rw [cz12]; decide) (by decide) rfl (by decide) ?_
    refine wp_aload_n dX11_count_191 rfl ?_
    obtain ⟨v45, e46, h⟩ := bnd h
    refine wp_getR (c := 11) (k := 10) dX11_count_192 e46 (by decide) (by decide) rfl fl_RX11_67 ?_
    refine wp_aload_n dX11_count_195 rfl ?_
    obtain ⟨q47, e48, h⟩ := bnd h
    refine wp_callV (As := [.inr v3]) dX11_count_196 (sh_X3_againMinutes_ok (d := d + 1) e48) okX3_againMinutes nnX3_againMinutes vvX3_againMinutes ml_RX11_139 rfl (Nat.le_of_ble_eq_true rfl) ?_
    cases h
    exact wp_iret dX11_count_199 rfl
  replace h := ite_f cz12 h
  by_cases cz13 : x1 = 13
  · replace h := ite_t cz13 h
    refine wp_tableIn (tgt := 200) dX11_count_9 13 (by rw [cz13]; decide) (by decide) rfl (by decide) ?_
    refine wp_aload_n dX11_count_200 rfl ?_
    obtain ⟨v49, e50, h⟩ := bnd h
    refine wp_getI (c := 7) (k := 18) dX11_count_201 e50 (by decide) (by decide) rfl fl_RX11_142 ?_
    cases h
    exact wp_iret dX11_count_204 rfl
  replace h := ite_f cz13 h
  by_cases cz14 : x1 = 14
  · replace h := ite_t cz14 h
    refine wp_tableIn (tgt := 205) dX11_count_9 14 (by rw [cz14]; decide) (by decide) rfl (by decide) ?_
    refine wp_aload_n dX11_count_205 rfl ?_
    obtain ⟨v51, e52, h⟩ := bnd h
    refine wp_getR (c := 11) (k := 6) dX11_count_206 e52 (by decide) (by decide) rfl fl_RX11_44 ?_
    obtain ⟨v53, e54, h⟩ := bnd h
    refine wp_getI (c := 4) (k := 3) dX11_count_209 e54 (by decide) (by decide) rfl fl_RX11_145 ?_
    cases h
    exact wp_iret dX11_count_212 rfl
  replace h := ite_f cz14 h
  by_cases cz15 : x1 = 15
  · replace h := ite_t cz15 h
    refine wp_tableIn (tgt := 213) dX11_count_9 15 (by rw [cz15]; decide) (by decide) rfl (by decide) ?_
    refine wp_aload_n dX11_count_213 rfl ?_
    obtain ⟨v55, e56, h⟩ := bnd h
    refine wp_getR (c := 11) (k := 6) dX11_count_214 e56 (by decide) (by decide) rfl fl_RX11_44 ?_
    obtain ⟨v57, e58, h⟩ := bnd h
    refine wp_getI (c := 4) (k := 7) dX11_count_217 e58 (by decide) (by decide) rfl fl_RX11_148 ?_
    cases h
    exact wp_iret dX11_count_220 rfl
  replace h := ite_f cz15 h
  by_cases cz16 : x1 = 16
  · replace h := ite_t cz16 h
    refine wp_tableIn (tgt := 221) dX11_count_9 16 (by rw [cz16]; decide) (by decide) rfl (by decide) ?_
    refine wp_aload_n dX11_count_221 rfl ?_
    obtain ⟨v59, e60, h⟩ := bnd h
    refine wp_getI (c := 11) (k := 1) dX11_count_222 e60 (by decide) (by decide) rfl fl_RX11_13 ?_
    cases h
    exact wp_iret dX11_count_225 rfl
  replace h := ite_f cz16 h
  by_cases cz17 : x1 = 17
  · replace h := ite_t cz17 h
    refine wp_tableIn (tgt := 226) dX11_count_9 17 (by rw [cz17]; decide) (by decide) rfl (by decide) ?_
    refine wp_aload_n dX11_count_226 rfl ?_
    obtain ⟨v61, e62, h⟩ := bnd h
    refine wp_getR (c := 11) (k := 6) dX11_count_227 e62 (by decide) (by decide) rfl fl_RX11_44 ?_
    obtain ⟨v63, e64, h⟩ := bnd h
    refine wp_getR (c := 4) (k := 8) dX11_count_230 e64 (by decide) (by decide) rfl fl_RX11_89 ?_
    refine wp_iconst (v := 0) dX11_count_233 (by decide) ?_
    obtain ⟨v65, e66, h⟩ := bnd h
    refine wp_iaload dX11_count_234 e66 ?_
    cases h
    exact wp_iret dX11_count_235 rfl
  replace h := ite_f cz17 h
  by_cases cz18 : x1 = 18
  · replace h := ite_t cz18 h
    refine wp_tableIn (tgt := 236) dX11_count_9 18 (by rw [cz18]; decide) (by decide) rfl (by decide) ?_
    refine wp_aload_n dX11_count_236 rfl ?_
    obtain ⟨v67, e68, h⟩ := bnd h
    refine wp_getR (c := 11) (k := 6) dX11_count_237 e68 (by decide) (by decide) rfl fl_RX11_44 ?_
    obtain ⟨v69, e70, h⟩ := bnd h
    refine wp_getR (c := 4) (k := 8) dX11_count_240 e70 (by decide) (by decide) rfl fl_RX11_89 ?_
    refine wp_iconst (v := 1) dX11_count_243 (by decide) ?_
    obtain ⟨v71, e72, h⟩ := bnd h
    refine wp_iaload dX11_count_244 e72 ?_
    cases h
    exact wp_iret dX11_count_245 rfl
  replace h := ite_f cz18 h
  by_cases cz19 : x1 = 19
  · replace h := ite_t cz19 h
    refine wp_tableIn (tgt := 246) dX11_count_9 19 (by rw [cz19]; decide) (by decide) rfl (by decide) ?_
    refine wp_aload_n dX11_count_246 rfl ?_
    obtain ⟨v73, e74, h⟩ := bnd h
    refine wp_getR (c := 11) (k := 6) dX11_count_247 e74 (by decide) (by decide) rfl fl_RX11_44 ?_
    obtain ⟨v75, e76, h⟩ := bnd h
    refine wp_getR (c := 4) (k := 8) dX11_count_250 e76 (by decide) (by decide) rfl fl_RX11_89 ?_
    refine wp_iconst (v := 2) dX11_count_253 (by decide) ?_
    obtain ⟨v77, e78, h⟩ := bnd h
    refine wp_iaload dX11_count_254 e78 ?_
    cases h
    exact wp_iret dX11_count_255 rfl
  replace h := ite_f cz19 h
  refine wp_tableOut (tgt := 256) dX11_count_9 (by have g0 := lv_neT cz0 (show (0 : Int32).toInt = 0 by decide); have g1 := lv_neT cz1 (show (1 : Int32).toInt = 1 by decide); have g2 := lv_neT cz2 (show (2 : Int32).toInt = 2 by decide); have g3 := lv_neT cz3 (show (3 : Int32).toInt = 3 by decide); have g4 := lv_neT cz4 (show (4 : Int32).toInt = 4 by decide); have g5 := lv_neT cz5 (show (5 : Int32).toInt = 5 by decide); have g6 := lv_neT cz6 (show (6 : Int32).toInt = 6 by decide); have g7 := lv_neT cz7 (show (7 : Int32).toInt = 7 by decide); have g8 := lv_neT cz8 (show (8 : Int32).toInt = 8 by decide); have g9 := lv_neT cz9 (show (9 : Int32).toInt = 9 by decide); have g10 := lv_neT cz10 (show (10 : Int32).toInt = 10 by decide); have g11 := lv_neT cz11 (show (11 : Int32).toInt = 11 by decide); have g12 := lv_neT cz12 (show (12 : Int32).toInt = 12 by decide); have g13 := lv_neT cz13 (show (13 : Int32).toInt = 13 by decide); have g14 := lv_neT cz14 (show (14 : Int32).toInt = 14 by decide); have g15 := lv_neT cz15 (show (15 : Int32).toInt = 15 by decide); have g16 := lv_neT cz16 (show (16 : Int32).toInt = 16 by decide); have g17 := lv_neT cz17 (show (17 : Int32).toInt = 17 by decide); have g18 := lv_neT cz18 (show (18 : Int32).toInt = 18 by decide); have g19 := lv_neT cz19 (show (19 : Int32).toInt = 19 by decide); omega) (by decide) ?_
  cases h
  exact wp_throwN (tx := "no such what") (sid := 19) rfl rfl dX11_count_256 dX11_count_259 dX11_count_260 dX11_count_262 dX11_count_265 cl_RX11_151 ini_NSE (by decide +kernel) (Nat.le_of_ble_eq_true rfl) (by omega)

theorem sh_X11_count_ok {w : Gw} {d : Nat} {x0 : Nat} {x1 : Int32} {M : Gm} {out : (Int32 × Gm) ⊕ (Nat × Gm)} (h : sh_X11_count x0 x1 M = some out) : Ev w mdX11_count (d + 7) [.inr x0, .inl x1] M (xoP out) (xmP out) := by
  obtain ⟨u, e0, h⟩ := bnd h
  exact ev_of okX11_count ⟨_, _, rfl, isO_of e0 (by decide), by decide⟩ (Nat.le_of_ble_eq_true rfl) (X11_count_F_ok h)

/-! HeatGovernor.needZone(I)V -/
def X11_needZone_F (x0 : Nat) (x1 : Int32) (M : Gm) : Option (Unit ⊕ (Nat × Gm)) :=
  (gfR M x0 11 4).bind fun v1 =>
  (sh_X5_hasZone v1 x1 M).bind fun q3 =>
  if q3 = 0 then
    some (.inr (1, nwM M (13, 0)))
  else
    some (.inl ())
def sh_X11_needZone (x0 : Nat) (x1 : Int32) (M : Gm) : Option (Unit ⊕ (Nat × Gm)) := (isO M x0 11).bind fun _ => X11_needZone_F x0 x1 M
theorem X11_needZone_F_ok {w : Gw} {d : Nat} {x0 : Nat} {x1 : Int32} {M : Gm} {out : Unit ⊕ (Nat × Gm)} (h : X11_needZone_F x0 x1 M = some out) : Wp w mdX11_needZone (d + 6) 0 [some (.inr x0), some (.inl x1)] [] M (xoV out) (xmV M out) := by
  unfold X11_needZone_F at h
  refine wp_aload_n dX11_needZone_0 rfl ?_
  obtain ⟨v1, e2, h⟩ := bnd h
  refine wp_getR (c := 11) (k := 4) dX11_needZone_1 e2 (by decide) (by decide) rfl fl_RX11_32 ?_
  refine wp_iload_n dX11_needZone_4 rfl ?_
  obtain ⟨q3, e4, h⟩ := bnd h
  refine wp_callV (As := [.inl x1]) dX11_needZone_5 (sh_X5_hasZone_ok (d := d + 5) e4) okX5_hasZone nnX5_hasZone vvX5_hasZone ml_RX11_317 rfl (Nat.le_of_ble_eq_true rfl) ?_
  refine wp_if_ne (tgt := 22) dX11_needZone_8 (by decide) (fun hc_ => ?_) (fun hc_ => ?_)
  · replace h := ite_f hc_ h
    cases h
    exact wp_ret dX11_needZone_22 rfl
  · replace h := ite_t hc_ h
    cases h
    exact wp_throwNW (tx := "no such zone") (sid := 20) rfl rfl dX11_needZone_11 dX11_needZone_14 dX11_needZone_15 dX11_needZone_18 dX11_needZone_21 cl_RX11_151 ini_NSE (by decide +kernel) (Nat.le_of_ble_eq_true rfl) (by omega)

theorem sh_X11_needZone_ok {w : Gw} {d : Nat} {x0 : Nat} {x1 : Int32} {M : Gm} {out : Unit ⊕ (Nat × Gm)} (h : sh_X11_needZone x0 x1 M = some out) : Ev w mdX11_needZone (d + 6) [.inr x0, .inl x1] M (xoV out) (xmV M out) := by
  obtain ⟨u, e0, h⟩ := bnd h
  exact ev_of okX11_needZone ⟨_, _, rfl, isO_of e0 (by decide), by decide⟩ (Nat.le_of_ble_eq_true rfl) (X11_needZone_F_ok h)

/-! HeatGovernor$State.cooling(I)I -/
def X7_cooling_J49 (x0 : Nat) (x1 : Int32) (x3 : Int32) (s0 : Int32) (s1 : Int32) (M : Gm) : Option ((Int32 × Int32) ⊕ Int32) :=
  some (.inl (s0 + s1, x3 + 1))
def X7_cooling_B4 (x0 : Nat) (x1 : Int32) (M : Gm) (q : Int32 × Int32) : Option ((Int32 × Int32) ⊕ Int32) :=
  (gfR M x0 7 0).bind fun v1 =>
  (gfI M v1 5 7).bind fun v3 =>
  if v3 ≤ q.2 then
    some (.inr q.1)
  else
    (gfR M x0 7 0).bind fun v5 =>
    (gfR M v5 5 2).bind fun v7 =>
    (ldR M 6 v7 q.2).bind fun v9 =>
    (gfI M v9 2 1).bind fun v11 =>
    if v11 = x1 then
      (gfR M x0 7 12).bind fun v13 =>
      (ldA M 0 v13 q.2).bind fun v15 =>
      (gfR M x0 7 14).bind fun v17 =>
      (ldA M 0 v17 q.2).bind fun v19 =>
      X7_cooling_J49 x0 x1 q.2 q.1 (v15 * v19) M
    else
      X7_cooling_J49 x0 x1 q.2 q.1 0 M
def X7_cooling_F (x0 : Nat) (x1 : Int32) (M : Gm) : Option (Int32) :=
  (lp (X7_cooling_B4 x0 x1 M) FU (0, 0)).bind fun r1 =>
  some r1
def sh_X7_cooling (x0 : Nat) (x1 : Int32) (M : Gm) : Option (Int32) := (isO M x0 7).bind fun _ => X7_cooling_F x0 x1 M
theorem X7_cooling_J49_ok {w : Gw} {d : Nat} {x0 : Nat} {x1 : Int32} {x3 : Int32} {s0 : Int32} {s1 : Int32} {M : Gm} {o : Go} {M' : Gm} {out : (Int32 × Int32) ⊕ Int32} (h : X7_cooling_J49 x0 x1 x3 s0 s1 M = some out) (hc : ∀ t : Int32 × Int32, out = .inl t → Wp w mdX7_cooling d 4 [some (.inr x0), some (.inl x1), some (.inl t.1), some (.inl t.2)] [] M o M') (he0 : ∀ t : Int32, out = .inr t → Wp w mdX7_cooling d 57 [none, none, some (.inl t), none] [] M o M') : Wp w mdX7_cooling d 49 [some (.inr x0), some (.inl x1), none, some (.inl x3)] [.inl s1, .inl s0] M o M' := by
  unfold X7_cooling_J49 at h
  refine wp_iadd dX7_cooling_49 ?_
  refine wp_istore_n dX7_cooling_50 (Nat.le_of_ble_eq_true rfl) ?_
  refine wp_iinc (v := x3 + 1) dX7_cooling_51 rfl rfl ?_
  refine wp_goto (tgt := 4) dX7_cooling_54 (by decide) ?_
  cases h
  exact wp_ls (lsS (lsS (lsS (lsS lsZ)))) (hc (s0 + s1, x3 + 1) rfl)

theorem X7_cooling_B4_ok {w : Gw} {d : Nat} {x0 : Nat} {x1 : Int32} {M : Gm} {q : Int32 × Int32} {o : Go} {M' : Gm} {out : (Int32 × Int32) ⊕ Int32} (h : X7_cooling_B4 x0 x1 M q = some out) (hc : ∀ t : Int32 × Int32, out = .inl t → Wp w mdX7_cooling d 4 [some (.inr x0), some (.inl x1), some (.inl t.1), some (.inl t.2)] [] M o M') (he0 : ∀ t : Int32, out = .inr t → Wp w mdX7_cooling d 57 [none, none, some (.inl t), none] [] M o M') : Wp w mdX7_cooling d 4 [some (.inr x0), some (.inl x1), some (.inl q.1), some (.inl q.2)] [] M o M' := by
  unfold X7_cooling_B4 at h
  refine wp_iload_n dX7_cooling_4 rfl ?_
  refine wp_aload_n dX7_cooling_5 rfl ?_
  obtain ⟨v1, e2, h⟩ := bnd h
  refine wp_getR (c := 7) (k := 0) dX7_cooling_6 e2 (by decide) (by decide) rfl fl_RX7_70 ?_
  obtain ⟨v3, e4, h⟩ := bnd h
  refine wp_getI (c := 5) (k := 7) dX7_cooling_9 e4 (by decide) (by decide) rfl fl_RX7_96 ?_
  refine wp_icmp_ge (tgt := 57) dX7_cooling_12 (by decide) (fun hc_ => ?_) (fun hc_ => ?_)
  · replace h := ite_t hc_ h
    cases h
    exact wp_ls (lsN (lsN (lsS (lsN lsZ)))) (he0 q.1 rfl)
  · replace h := ite_f hc_ h
    refine wp_iload_n dX7_cooling_15 rfl ?_
    refine wp_aload_n dX7_cooling_16 rfl ?_
    obtain ⟨v5, e6, h⟩ := bnd h
    refine wp_getR (c := 7) (k := 0) dX7_cooling_17 e6 (by decide) (by decide) rfl fl_RX7_70 ?_
    obtain ⟨v7, e8, h⟩ := bnd h
    refine wp_getR (c := 5) (k := 2) dX7_cooling_20 e8 (by decide) (by decide) rfl fl_RX7_99 ?_
    refine wp_iload_n dX7_cooling_23 rfl ?_
    obtain ⟨v9, e10, h⟩ := bnd h
    refine wp_aaload (t := 6) dX7_cooling_24 (by decide) rfl e10 ?_
    obtain ⟨v11, e12, h⟩ := bnd h
    refine wp_getI (c := 2) (k := 1) dX7_cooling_25 e12 (by decide) (by decide) rfl fl_RX7_146 ?_
    refine wp_iload_n dX7_cooling_28 rfl ?_
    refine wp_icmp_ne (tgt := 48) dX7_cooling_29 (by decide) (fun hc_ => ?_) (fun hc_ => ?_)
    · replace h := ite_f hc_ h
      refine wp_iconst (v := 0) dX7_cooling_48 (by decide) ?_
      exact wp_ls (lsS (lsS (lsN (lsS lsZ)))) (X7_cooling_J49_ok h hc he0)
    · replace h := ite_t hc_ h
      refine wp_aload_n dX7_cooling_32 rfl ?_
      obtain ⟨v13, e14, h⟩ := bnd h
      refine wp_getR (c := 7) (k := 12) dX7_cooling_33 e14 (by decide) (by decide) rfl fl_RX7_46 ?_
      refine wp_iload_n dX7_cooling_36 rfl ?_
      obtain ⟨v15, e16, h⟩ := bnd h
      refine wp_iaload dX7_cooling_37 e16 ?_
      refine wp_aload_n dX7_cooling_38 rfl ?_
      obtain ⟨v17, e18, h⟩ := bnd h
      refine wp_getR (c := 7) (k := 14) dX7_cooling_39 e18 (by decide) (by decide) rfl fl_RX7_52 ?_
      refine wp_iload_n dX7_cooling_42 rfl ?_
      obtain ⟨v19, e20, h⟩ := bnd h
      refine wp_iaload dX7_cooling_43 e20 ?_
      refine wp_imul dX7_cooling_44 ?_
      refine wp_goto (tgt := 49) dX7_cooling_45 (by decide) ?_
      exact wp_ls (lsS (lsS (lsN (lsS lsZ)))) (X7_cooling_J49_ok h hc he0)

theorem X7_cooling_B4_lp {w : Gw} {d : Nat} {x0 : Nat} {x1 : Int32} {M : Gm} {o : Go} {M' : Gm} {r : Int32} : ∀ (n : Nat) (q : Int32 × Int32), lp (X7_cooling_B4 x0 x1 M) n q = some r → (∀ t : Int32, r = t → Wp w mdX7_cooling d 57 [none, none, some (.inl t), none] [] M o M') → Wp w mdX7_cooling d 4 [some (.inr x0), some (.inl x1), some (.inl q.1), some (.inl q.2)] [] M o M' := by
  intro n
  induction n with
  | zero => intro q h; cases h
  | succ n ih =>
    intro q h he0
    cases hb : X7_cooling_B4 x0 x1 M q with
    | none => rw [lp_succ, hb] at h; cases h
    | some out =>
      rw [lp_succ, hb] at h
      exact X7_cooling_B4_ok hb (fun t e => ih t (by rw [e] at h; exact h) he0) (fun t e => he0 t (by rw [e] at h; cases h; rfl))
theorem X7_cooling_F_ok {w : Gw} {d : Nat} {x0 : Nat} {x1 : Int32} {M : Gm} {out : Int32} (h : X7_cooling_F x0 x1 M = some out) : Wp w mdX7_cooling d 0 [some (.inr x0), some (.inl x1), none, none] [] M (.inl (some (.inl out))) M := by
  unfold X7_cooling_F at h
  refine wp_iconst (v := 0) dX7_cooling_0 (by decide) ?_
  refine wp_istore_n dX7_cooling_1 (Nat.le_of_ble_eq_true rfl) ?_
  refine wp_iconst (v := 0) dX7_cooling_2 (by decide) ?_
  refine wp_istore_n dX7_cooling_3 (Nat.le_of_ble_eq_true rfl) ?_
  obtain ⟨r1, e2, h⟩ := bnd h
  refine wp_ls (lsS (lsS (lsS (lsS lsZ)))) (X7_cooling_B4_lp FU _ e2 ?_)
  intro t_ ht_; cases ht_
  refine wp_iload_n dX7_cooling_57 rfl ?_
  cases h
  exact wp_iret dX7_cooling_58 rfl

theorem sh_X7_cooling_ok {w : Gw} {d : Nat} {x0 : Nat} {x1 : Int32} {M : Gm} {out : Int32} (h : sh_X7_cooling x0 x1 M = some out) : Ev w mdX7_cooling d [.inr x0, .inl x1] M (.inl (some (.inl out))) M := by
  obtain ⟨u, e0, h⟩ := bnd h
  exact ev_of okX7_cooling ⟨_, _, rfl, isO_of e0 (by decide), by decide⟩ (Nat.le_of_ble_eq_true rfl) (X7_cooling_F_ok h)

/-! HeatGovernor$State.margin(I)I -/
def X7_margin_J75 (x0 : Nat) (x1 : Int32) (x2 : Int32) (x3 : Int32) (M : Gm) : Option ((Int32 × Int32) ⊕ Int32) :=
  some (.inl (x2, x3 + 1))
def X7_margin_J74 (x0 : Nat) (x1 : Int32) (x3 : Int32) (s0 : Int32) (M : Gm) : Option ((Int32 × Int32) ⊕ Int32) :=
  X7_margin_J75 x0 x1 s0 x3 M
def X7_margin_B4 (x0 : Nat) (x1 : Int32) (M : Gm) (q : Int32 × Int32) : Option ((Int32 × Int32) ⊕ Int32) :=
  (gfR M x0 7 0).bind fun v1 =>
  (gfI M v1 5 6).bind fun v3 =>
  if v3 ≤ q.2 then
    some (.inr q.1)
  else
    (gfR M x0 7 0).bind fun v5 =>
    (gfR M v5 5 1).bind fun v7 =>
    (ldR M 5 v7 q.2).bind fun v9 =>
    (gfI M v9 8 0).bind fun v11 =>
    if v11 = x1 then
      (gfR M x0 7 10).bind fun v13 =>
      (ldA M 0 v13 q.2).bind fun v15 =>
      if v15 = 0 then
        (gfI M v9 8 2).bind fun v17 =>
        (gfR M x0 7 6).bind fun v19 =>
        (ldA M 0 v19 x1).bind fun v21 =>
        if q.1 = ((-1)) then
          X7_margin_J74 x0 x1 q.2 (v17 - v21) M
        else
          (sh_J9_min_7cf53 q.1 (v17 - v21) M).bind fun q23 =>
          X7_margin_J74 x0 x1 q.2 q23 M
      else
        X7_margin_J75 x0 x1 q.1 q.2 M
    else
      X7_margin_J75 x0 x1 q.1 q.2 M
def X7_margin_F (x0 : Nat) (x1 : Int32) (M : Gm) : Option (Int32) :=
  (lp (X7_margin_B4 x0 x1 M) FU ((-1), 0)).bind fun r1 =>
  some r1
def sh_X7_margin (x0 : Nat) (x1 : Int32) (M : Gm) : Option (Int32) := (isO M x0 7).bind fun _ => X7_margin_F x0 x1 M
theorem X7_margin_J75_ok {w : Gw} {d : Nat} {x0 : Nat} {x1 : Int32} {x2 : Int32} {x3 : Int32} {M : Gm} {o : Go} {M' : Gm} {out : (Int32 × Int32) ⊕ Int32} (h : X7_margin_J75 x0 x1 x2 x3 M = some out) (hc : ∀ t : Int32 × Int32, out = .inl t → Wp w mdX7_margin (d + 1) 4 [some (.inr x0), some (.inl x1), some (.inl t.1), some (.inl t.2), none, none] [] M o M') (he0 : ∀ t : Int32, out = .inr t → Wp w mdX7_margin (d + 1) 81 [none, none, some (.inl t), none, none, none] [] M o M') : Wp w mdX7_margin (d + 1) 75 [some (.inr x0), some (.inl x1), some (.inl x2), some (.inl x3), none, none] [] M o M' := by
  unfold X7_margin_J75 at h
  refine wp_iinc (v := x3 + 1) dX7_margin_75 rfl rfl ?_
  refine wp_goto (tgt := 4) dX7_margin_78 (by decide) ?_
  cases h
  exact wp_ls (lsS (lsS (lsS (lsS (lsN (lsN lsZ)))))) (hc (x2, x3 + 1) rfl)

theorem X7_margin_J74_ok {w : Gw} {d : Nat} {x0 : Nat} {x1 : Int32} {x3 : Int32} {s0 : Int32} {M : Gm} {o : Go} {M' : Gm} {out : (Int32 × Int32) ⊕ Int32} (h : X7_margin_J74 x0 x1 x3 s0 M = some out) (hc : ∀ t : Int32 × Int32, out = .inl t → Wp w mdX7_margin (d + 1) 4 [some (.inr x0), some (.inl x1), some (.inl t.1), some (.inl t.2), none, none] [] M o M') (he0 : ∀ t : Int32, out = .inr t → Wp w mdX7_margin (d + 1) 81 [none, none, some (.inl t), none, none, none] [] M o M') : Wp w mdX7_margin (d + 1) 74 [some (.inr x0), some (.inl x1), none, some (.inl x3), none, none] [.inl s0] M o M' := by
  unfold X7_margin_J74 at h
  refine wp_istore_n dX7_margin_74 (Nat.le_of_ble_eq_true rfl) ?_
  exact wp_ls (lsS (lsS (lsS (lsS (lsN (lsN lsZ)))))) (X7_margin_J75_ok h hc he0)

theorem X7_margin_B4_ok {w : Gw} {d : Nat} {x0 : Nat} {x1 : Int32} {M : Gm} {q : Int32 × Int32} {o : Go} {M' : Gm} {out : (Int32 × Int32) ⊕ Int32} (h : X7_margin_B4 x0 x1 M q = some out) (hc : ∀ t : Int32 × Int32, out = .inl t → Wp w mdX7_margin (d + 1) 4 [some (.inr x0), some (.inl x1), some (.inl t.1), some (.inl t.2), none, none] [] M o M') (he0 : ∀ t : Int32, out = .inr t → Wp w mdX7_margin (d + 1) 81 [none, none, some (.inl t), none, none, none] [] M o M') : Wp w mdX7_margin (d + 1) 4 [some (.inr x0), some (.inl x1), some (.inl q.1), some (.inl q.2), none, none] [] M o M' := by
  unfold X7_margin_B4 at h
  refine wp_iload_n dX7_margin_4 rfl ?_
  refine wp_aload_n dX7_margin_5 rfl ?_
  obtain ⟨v1, e2, h⟩ := bnd h
  refine wp_getR (c := 7) (k := 0) dX7_margin_6 e2 (by decide) (by decide) rfl fl_RX7_70 ?_
  obtain ⟨v3, e4, h⟩ := bnd h
  refine wp_getI (c := 5) (k := 6) dX7_margin_9 e4 (by decide) (by decide) rfl fl_RX7_127 ?_
  refine wp_icmp_ge (tgt := 81) dX7_margin_12 (by decide) (fun hc_ => ?_) (fun hc_ => ?_)
  · replace h := ite_t hc_ h
    cases h
    exact wp_ls (lsN (lsN (lsS (lsN (lsN (lsN lsZ)))))) (he0 q.1 rfl)
  · replace h := ite_f hc_ h
    refine wp_aload_n dX7_margin_15 rfl ?_
    obtain ⟨v5, e6, h⟩ := bnd h
    refine wp_getR (c := 7) (k := 0) dX7_margin_16 e6 (by decide) (by decide) rfl fl_RX7_70 ?_
    obtain ⟨v7, e8, h⟩ := bnd h
    refine wp_getR (c := 5) (k := 1) dX7_margin_19 e8 (by decide) (by decide) rfl fl_RX7_134 ?_
    refine wp_iload_n dX7_margin_22 rfl ?_
    obtain ⟨v9, e10, h⟩ := bnd h
    refine wp_aaload (t := 5) dX7_margin_23 (by decide) rfl e10 ?_
    refine wp_astore dX7_margin_24 (Nat.le_of_ble_eq_true rfl) ?_
    refine wp_aload dX7_margin_26 rfl ?_
    obtain ⟨v11, e12, h⟩ := bnd h
    refine wp_getI (c := 8) (k := 0) dX7_margin_28 e12 (by decide) (by decide) rfl fl_RX7_138 ?_
    refine wp_iload_n dX7_margin_31 rfl ?_
    refine wp_icmp_ne (tgt := 75) dX7_margin_32 (by decide) (fun hc_ => ?_) (fun hc_ => ?_)
    · replace h := ite_f hc_ h
      exact wp_ls (lsS (lsS (lsS (lsS (lsN (lsN lsZ)))))) (X7_margin_J75_ok h hc he0)
    · replace h := ite_t hc_ h
      refine wp_aload_n dX7_margin_35 rfl ?_
      obtain ⟨v13, e14, h⟩ := bnd h
      refine wp_getR (c := 7) (k := 10) dX7_margin_36 e14 (by decide) (by decide) rfl fl_RX7_40 ?_
      refine wp_iload_n dX7_margin_39 rfl ?_
      obtain ⟨v15, e16, h⟩ := bnd h
      refine wp_iaload dX7_margin_40 e16 ?_
      refine wp_if_ne (tgt := 75) dX7_margin_41 (by decide) (fun hc_ => ?_) (fun hc_ => ?_)
      · replace h := ite_f hc_ h
        exact wp_ls (lsS (lsS (lsS (lsS (lsN (lsN lsZ)))))) (X7_margin_J75_ok h hc he0)
      · replace h := ite_t hc_ h
        refine wp_aload dX7_margin_44 rfl ?_
        obtain ⟨v17, e18, h⟩ := bnd h
        refine wp_getI (c := 8) (k := 2) dX7_margin_46 e18 (by decide) (by decide) rfl fl_RX7_143 ?_
        refine wp_aload_n dX7_margin_49 rfl ?_
        obtain ⟨v19, e20, h⟩ := bnd h
        refine wp_getR (c := 7) (k := 6) dX7_margin_50 e20 (by decide) (by decide) rfl fl_RX7_28 ?_
        refine wp_iload_n dX7_margin_53 rfl ?_
        obtain ⟨v21, e22, h⟩ := bnd h
        refine wp_iaload dX7_margin_54 e22 ?_
        refine wp_isub dX7_margin_55 ?_
        refine wp_istore dX7_margin_56 (Nat.le_of_ble_eq_true rfl) ?_
        refine wp_iload_n dX7_margin_58 rfl ?_
        refine wp_iconst (v := (-1)) dX7_margin_59 (by decide) ?_
        refine wp_icmp_ne (tgt := 68) dX7_margin_60 (by decide) (fun hc_ => ?_) (fun hc_ => ?_)
        · replace h := ite_f hc_ h
          refine wp_iload_n dX7_margin_68 rfl ?_
          refine wp_iload dX7_margin_69 rfl ?_
          obtain ⟨q23, e24, h⟩ := bnd h
          refine wp_callS (As := [.inl q.1, .inl (v17 - v21)]) dX7_margin_71 (sh_J9_min_7cf53_ok (d := d) e24) okJ9_min_7cf53 nnJ9_min_7cf53 ssJ9_min_7cf53 ml_RX7_111 rfl (Nat.le_of_ble_eq_true rfl) ?_
          exact wp_ls (lsS (lsS (lsN (lsS (lsN (lsN lsZ)))))) (X7_margin_J74_ok h hc he0)
        · replace h := ite_t hc_ h
          refine wp_iload dX7_margin_63 rfl ?_
          refine wp_goto (tgt := 74) dX7_margin_65 (by decide) ?_
          exact wp_ls (lsS (lsS (lsN (lsS (lsN (lsN lsZ)))))) (X7_margin_J74_ok h hc he0)

theorem X7_margin_B4_lp {w : Gw} {d : Nat} {x0 : Nat} {x1 : Int32} {M : Gm} {o : Go} {M' : Gm} {r : Int32} : ∀ (n : Nat) (q : Int32 × Int32), lp (X7_margin_B4 x0 x1 M) n q = some r → (∀ t : Int32, r = t → Wp w mdX7_margin (d + 1) 81 [none, none, some (.inl t), none, none, none] [] M o M') → Wp w mdX7_margin (d + 1) 4 [some (.inr x0), some (.inl x1), some (.inl q.1), some (.inl q.2), none, none] [] M o M' := by
  intro n
  induction n with
  | zero => intro q h; cases h
  | succ n ih =>
    intro q h he0
    cases hb : X7_margin_B4 x0 x1 M q with
    | none => rw [lp_succ, hb] at h; cases h
    | some out =>
      rw [lp_succ, hb] at h
      exact X7_margin_B4_ok hb (fun t e => ih t (by rw [e] at h; exact h) he0) (fun t e => he0 t (by rw [e] at h; cases h; rfl))
theorem X7_margin_F_ok {w : Gw} {d : Nat} {x0 : Nat} {x1 : Int32} {M : Gm} {out : Int32} (h : X7_margin_F x0 x1 M = some out) : Wp w mdX7_margin (d + 1) 0 [some (.inr x0), some (.inl x1), none, none, none, none] [] M (.inl (some (.inl out))) M := by
  unfold X7_margin_F at h
  refine wp_iconst (v := (-1)) dX7_margin_0 (by decide) ?_
  refine wp_istore_n dX7_margin_1 (Nat.le_of_ble_eq_true rfl) ?_
  refine wp_iconst (v := 0) dX7_margin_2 (by decide) ?_
  refine wp_istore_n dX7_margin_3 (Nat.le_of_ble_eq_true rfl) ?_
  obtain ⟨r1, e2, h⟩ := bnd h
  refine wp_ls (lsS (lsS (lsS (lsS (lsN (lsN lsZ)))))) (X7_margin_B4_lp FU _ e2 ?_)
  intro t_ ht_; cases ht_
  refine wp_iload_n dX7_margin_81 rfl ?_
  cases h
  exact wp_iret dX7_margin_82 rfl

theorem sh_X7_margin_ok {w : Gw} {d : Nat} {x0 : Nat} {x1 : Int32} {M : Gm} {out : Int32} (h : sh_X7_margin x0 x1 M = some out) : Ev w mdX7_margin (d + 1) [.inr x0, .inl x1] M (.inl (some (.inl out))) M := by
  obtain ⟨u, e0, h⟩ := bnd h
  exact ev_of okX7_margin ⟨_, _, rfl, isO_of e0 (by decide), by decide⟩ (Nat.le_of_ble_eq_true rfl) (X7_margin_F_ok h)

/-! HeatGovernor.zone(II)I -/
def X11_zone_J146 (s0 : Int32) (M : Gm) : Option (Int32 ⊕ (Nat × Gm)) :=
  some (.inl s0)
def X11_zone_F (x0 : Nat) (x1 : Int32) (x2 : Int32) (M : Gm) : Option (Int32 ⊕ (Nat × Gm)) :=
  (sh_X11_needZone x0 x1 M).bind fun q1 =>
  Sum.elim (fun u3 =>
    (gfR M x0 11 6).bind fun v5 =>
    (gfR M v5 4 0).bind fun v7 =>
    if x2 = 0 then
      (gfR M v7 7 3).bind fun v9 =>
      (ldA M 0 v9 x1).bind fun v11 =>
      some (.inl v11)
    else if x2 = 1 then
      (gfR M v7 7 6).bind fun v13 =>
      (ldA M 0 v13 x1).bind fun v15 =>
      some (.inl v15)
    else if x2 = 2 then
      (gfR M v7 7 7).bind fun v17 =>
      (ldA M 0 v17 x1).bind fun v19 =>
      some (.inl v19)
    else if x2 = 3 then
      (gfR M v7 7 4).bind fun v21 =>
      (ldA M 0 v21 x1).bind fun v23 =>
      some (.inl v23)
    else if x2 = 4 then
      (gfR M v7 7 5).bind fun v25 =>
      (ldA M 0 v25 x1).bind fun v27 =>
      some (.inl v27)
    else if x2 = 5 then
      (gfR M x0 11 4).bind fun v29 =>
      (gfR M v29 5 0).bind fun v31 =>
      (ldR M 4 v31 x1).bind fun v33 =>
      (gfI M v33 10 2).bind fun v35 =>
      some (.inl v35)
    else if x2 = 6 then
      (gfR M x0 11 4).bind fun v37 =>
      (gfR M v37 5 0).bind fun v39 =>
      (ldR M 4 v39 x1).bind fun v41 =>
      (gfI M v41 10 3).bind fun v43 =>
      some (.inl v43)
    else if x2 = 7 then
      (sh_X7_isShut v7 x1 M).bind fun q45 =>
      if q45 = 0 then
        X11_zone_J146 0 M
      else
        X11_zone_J146 1 M
    else if x2 = 8 then
      (gfR M v7 7 8).bind fun v47 =>
      (ldA M 0 v47 x1).bind fun v49 =>
      some (.inl v49)
    else if x2 = 9 then
      (sh_X7_margin v7 x1 M).bind fun q51 =>
      some (.inl q51)
    else if x2 = 10 then
      (sh_X7_cooling v7 x1 M).bind fun q53 =>
      some (.inl q53)
    else
      some (.inr (1, nwM M (13, 0)))) (fun u4 =>
      some (.inr u4)) q1
def sh_X11_zone (x0 : Nat) (x1 : Int32) (x2 : Int32) (M : Gm) : Option (Int32 ⊕ (Nat × Gm)) := (isO M x0 11).bind fun _ => X11_zone_F x0 x1 x2 M
theorem X11_zone_J146_ok {w : Gw} {d : Nat} {s0 : Int32} {M : Gm} {out : Int32 ⊕ (Nat × Gm)} (h : X11_zone_J146 s0 M = some out) : Wp w mdX11_zone (d + 7) 146 [none, none, none, none] [.inl s0] M (xoI out) (xmI M out) := by
  unfold X11_zone_J146 at h
  cases h
  exact wp_iret dX11_zone_146 rfl

theorem X11_zone_F_ok {w : Gw} {d : Nat} {x0 : Nat} {x1 : Int32} {x2 : Int32} {M : Gm} {out : Int32 ⊕ (Nat × Gm)} (h : X11_zone_F x0 x1 x2 M = some out) : Wp w mdX11_zone (d + 7) 0 [some (.inr x0), some (.inl x1), some (.inl x2), none] [] M (xoI out) (xmI M out) := by
  unfold X11_zone_F at h
  refine wp_aload_n dX11_zone_0 rfl ?_
  refine wp_iload_n dX11_zone_1 rfl ?_
  obtain ⟨q1, e2, h⟩ := bnd h
  cases q1 with
  | inl u3 =>
    replace h := elim_l h
    refine wp_callV (As := [.inl x1]) dX11_zone_2 (sh_X11_needZone_ok (d := d) e2) okX11_needZone nnX11_needZone vvX11_needZone ml_RX11_156 rfl (Nat.le_of_ble_eq_true rfl) ?_
    refine wp_aload_n dX11_zone_5 rfl ?_
    obtain ⟨v5, e6, h⟩ := bnd h
    refine wp_getR (c := 11) (k := 6) dX11_zone_6 e6 (by decide) (by decide) rfl fl_RX11_44 ?_
    obtain ⟨v7, e8, h⟩ := bnd h
    refine wp_getR (c := 4) (k := 0) dX11_zone_9 e8 (by decide) (by decide) rfl fl_RX11_96 ?_
    refine wp_astore_n dX11_zone_12 (Nat.le_of_ble_eq_true rfl) ?_
    refine wp_iload_n dX11_zone_13 rfl ?_
    by_cases cz0 : x2 = 0
    · replace h := ite_t cz0 h
      refine wp_tableIn (tgt := 72) dX11_zone_14 0 (by rw [cz0]; decide) (by decide) rfl (by decide) ?_
      refine wp_aload_n dX11_zone_72 rfl ?_
      obtain ⟨v9, e10, h⟩ := bnd h
      refine wp_getR (c := 7) (k := 3) dX11_zone_73 e10 (by decide) (by decide) rfl fl_RX11_159 ?_
      refine wp_iload_n dX11_zone_76 rfl ?_
      obtain ⟨v11, e12, h⟩ := bnd h
      refine wp_iaload dX11_zone_77 e12 ?_
      cases h
      exact wp_iret dX11_zone_78 rfl
    replace h := ite_f cz0 h
    by_cases cz1 : x2 = 1
    · replace h := ite_t cz1 h
      refine wp_tableIn (tgt := 79) dX11_zone_14 1 (by rw [cz1]; decide) (by decide) rfl (by decide) ?_
      refine wp_aload_n dX11_zone_79 rfl ?_
      obtain ⟨v13, e14, h⟩ := bnd h
      refine wp_getR (c := 7) (k := 6) dX11_zone_80 e14 (by decide) (by decide) rfl fl_RX11_162 ?_
      refine wp_iload_n dX11_zone_83 rfl ?_
      obtain ⟨v15, e16, h⟩ := bnd h
      refine wp_iaload dX11_zone_84 e16 ?_
      cases h
      exact wp_iret dX11_zone_85 rfl
    replace h := ite_f cz1 h
    by_cases cz2 : x2 = 2
    · replace h := ite_t cz2 h
      refine wp_tableIn (tgt := 86) dX11_zone_14 2 (by rw [cz2]; decide) (by decide) rfl (by decide) ?_
      refine wp_aload_n dX11_zone_86 rfl ?_
      obtain ⟨v17, e18, h⟩ := bnd h
      refine wp_getR (c := 7) (k := 7) dX11_zone_87 e18 (by decide) (by decide) rfl fl_RX11_165 ?_
      refine wp_iload_n dX11_zone_90 rfl ?_
      obtain ⟨v19, e20, h⟩ := bnd h
      refine wp_iaload dX11_zone_91 e20 ?_
      cases h
      exact wp_iret dX11_zone_92 rfl
    replace h := ite_f cz2 h
    by_cases cz3 : x2 = 3
    · replace h := ite_t cz3 h
      refine wp_tableIn (tgt := 93) dX11_zone_14 3 (by rw [cz3]; decide) (by decide) rfl (by decide) ?_
      refine wp_aload_n dX11_zone_93 rfl ?_
      obtain ⟨v21, e22, h⟩ := bnd h
      refine wp_getR (c := 7) (k := 4) dX11_zone_94 e22 (by decide) (by decide) rfl fl_RX11_168 ?_
      refine wp_iload_n dX11_zone_97 rfl ?_
      obtain ⟨v23, e24, h⟩ := bnd h
      refine wp_iaload dX11_zone_98 e24 ?_
      cases h
      exact wp_iret dX11_zone_99 rfl
    replace h := ite_f cz3 h
    by_cases cz4 : x2 = 4
    · replace h := ite_t cz4 h
      refine wp_tableIn (tgt := 100) dX11_zone_14 4 (by rw [cz4]; decide) (by decide) rfl (by decide) ?_
      refine wp_aload_n dX11_zone_100 rfl ?_
      obtain ⟨v25, e26, h⟩ := bnd h
      refine wp_getR (c := 7) (k := 5) dX11_zone_101 e26 (by decide) (by decide) rfl fl_RX11_171 ?_
      refine wp_iload_n dX11_zone_104 rfl ?_
      obtain ⟨v27, e28, h⟩ := bnd h
      refine wp_iaload dX11_zone_105 e28 ?_
      cases h
      exact wp_iret dX11_zone_106 rfl
    replace h := ite_f cz4 h
    by_cases cz5 : x2 = 5
    · replace h := ite_t cz5 h
      refine wp_tableIn (tgt := 107) dX11_zone_14 5 (by rw [cz5]; decide) (by decide) rfl (by decide) ?_
      refine wp_aload_n dX11_zone_107 rfl ?_
      obtain ⟨v29, e30, h⟩ := bnd h
      refine wp_getR (c := 11) (k := 4) dX11_zone_108 e30 (by decide) (by decide) rfl fl_RX11_32 ?_
      obtain ⟨v31, e32, h⟩ := bnd h
      refine wp_getR (c := 5) (k := 0) dX11_zone_111 e32 (by decide) (by decide) rfl fl_RX11_174 ?_
      refine wp_iload_n dX11_zone_114 rfl ?_
      obtain ⟨v33, e34, h⟩ := bnd h
      refine wp_aaload (t := 4) dX11_zone_115 (by decide) rfl e34 ?_
      obtain ⟨v35, e36, h⟩ := bnd h
      refine wp_getI (c := 10) (k := 2) dX11_zone_116 e36 (by decide) (by decide) rfl fl_RX11_178 ?_
      cases h
      exact wp_iret dX11_zone_119 rfl
    replace h := ite_f cz5 h
    by_cases cz6 : x2 = 6
    · replace h := ite_t cz6 h
      refine wp_tableIn (tgt := 120) dX11_zone_14 6 (by rw [cz6]; decide) (by decide) rfl (by decide) ?_
      refine wp_aload_n dX11_zone_120 rfl ?_
      obtain ⟨v37, e38, h⟩ := bnd h
      refine wp_getR (c := 11) (k := 4) dX11_zone_121 e38 (by decide) (by decide) rfl fl_RX11_32 ?_
      obtain ⟨v39, e40, h⟩ := bnd h
      refine wp_getR (c := 5) (k := 0) dX11_zone_124 e40 (by decide) (by decide) rfl fl_RX11_174 ?_
      refine wp_iload_n dX11_zone_127 rfl ?_
      obtain ⟨v41, e42, h⟩ := bnd h
      refine wp_aaload (t := 4) dX11_zone_128 (by decide) rfl e42 ?_
      obtain ⟨v43, e44, h⟩ := bnd h
      refine wp_getI (c := 10) (k := 3) dX11_zone_129 e44 (by decide) (by decide) rfl fl_RX11_183 ?_
      cases h
      exact wp_iret dX11_zone_132 rfl
    replace h := ite_f cz6 h
    by_cases cz7 : x2 = 7
    · replace h := ite_t cz7 h
      refine wp_tableIn (tgt := 133) dX11_zone_14 7 (by rw [cz7]; decide) (by decide) rfl (by decide) ?_
      refine wp_aload_n dX11_zone_133 rfl ?_
      refine wp_iload_n dX11_zone_134 rfl ?_
      obtain ⟨q45, e46, h⟩ := bnd h
      refine wp_callV (As := [.inl x1]) dX11_zone_135 (sh_X7_isShut_ok (d := d + 6) e46) okX7_isShut nnX7_isShut vvX7_isShut ml_RX11_186 rfl (Nat.le_of_ble_eq_true rfl) ?_
      refine wp_if_eq (tgt := 145) dX11_zone_138 (by decide) (fun hc_ => ?_) (fun hc_ => ?_)
      · replace h := ite_t hc_ h
        refine wp_iconst (v := 0) dX11_zone_145 (by decide) ?_
        exact wp_ls (lsN (lsN (lsN (lsN lsZ)))) (X11_zone_J146_ok h)
      · replace h := ite_f hc_ h
        refine wp_iconst (v := 1) dX11_zone_141 (by decide) ?_
        refine wp_goto (tgt := 146) dX11_zone_142 (by decide) ?_
        exact wp_ls (lsN (lsN (lsN (lsN lsZ)))) (X11_zone_J146_ok h)
    replace h := ite_f cz7 h
    by_cases cz8 : x2 = 8
    · replace h := ite_t cz8 h
      refine wp_tableIn (tgt := 147) dX11_zone_14 8 (by rw [cz8]; decide) (by decide) rfl (by decide) ?_
      refine wp_aload_n dX11_zone_147 rfl ?_
      obtain ⟨v47, e48, h⟩ := bnd h
      refine wp_getR (c := 7) (k := 8) dX11_zone_148 e48 (by decide) (by decide) rfl fl_RX11_190 ?_
      refine wp_iload_n dX11_zone_151 rfl ?_
      obtain ⟨v49, e50, h⟩ := bnd h
      refine wp_iaload dX11_zone_152 e50 ?_
      cases h
      exact wp_iret dX11_zone_153 rfl
    replace h := ite_f cz8 h
    by_cases cz9 : x2 = 9
    · replace h := ite_t cz9 h
      refine wp_tableIn (tgt := 154) dX11_zone_14 9 (by rw [cz9]; decide) (by decide) rfl (by decide) ?_
      refine wp_aload_n dX11_zone_154 rfl ?_
      refine wp_iload_n dX11_zone_155 rfl ?_
      obtain ⟨q51, e52, h⟩ := bnd h
      refine wp_callV (As := [.inl x1]) dX11_zone_156 (sh_X7_margin_ok (d := d + 5) e52) okX7_margin nnX7_margin vvX7_margin ml_RX11_193 rfl (Nat.le_of_ble_eq_true rfl) ?_
      cases h
      exact wp_iret dX11_zone_159 rfl
    replace h := ite_f cz9 h
    by_cases cz10 : x2 = 10
    · replace h := ite_t cz10 h
      refine wp_tableIn (tgt := 160) dX11_zone_14 10 (by rw [cz10]; decide) (by decide) rfl (by decide) ?_
      refine wp_aload_n dX11_zone_160 rfl ?_
      refine wp_iload_n dX11_zone_161 rfl ?_
      obtain ⟨q53, e54, h⟩ := bnd h
      refine wp_callV (As := [.inl x1]) dX11_zone_162 (sh_X7_cooling_ok (d := d + 6) e54) okX7_cooling nnX7_cooling vvX7_cooling ml_RX11_197 rfl (Nat.le_of_ble_eq_true rfl) ?_
      cases h
      exact wp_iret dX11_zone_165 rfl
    replace h := ite_f cz10 h
    refine wp_tableOut (tgt := 166) dX11_zone_14 (by have g0 := lv_neT cz0 (show (0 : Int32).toInt = 0 by decide); have g1 := lv_neT cz1 (show (1 : Int32).toInt = 1 by decide); have g2 := lv_neT cz2 (show (2 : Int32).toInt = 2 by decide); have g3 := lv_neT cz3 (show (3 : Int32).toInt = 3 by decide); have g4 := lv_neT cz4 (show (4 : Int32).toInt = 4 by decide); have g5 := lv_neT cz5 (show (5 : Int32).toInt = 5 by decide); have g6 := lv_neT cz6 (show (6 : Int32).toInt = 6 by decide); have g7 := lv_neT cz7 (show (7 : Int32).toInt = 7 by decide); have g8 := lv_neT cz8 (show (8 : Int32).toInt = 8 by decide); have g9 := lv_neT cz9 (show (9 : Int32).toInt = 9 by decide); have g10 := lv_neT cz10 (show (10 : Int32).toInt = 10 by decide); omega) (by decide) ?_
    cases h
    exact wp_throwN (tx := "no such what") (sid := 19) rfl rfl dX11_zone_166 dX11_zone_169 dX11_zone_170 dX11_zone_172 dX11_zone_175 cl_RX11_151 ini_NSE (by decide +kernel) (Nat.le_of_ble_eq_true rfl) (by omega)
  | inr u4 =>
    replace h := elim_r h
    cases h
    exact wp_callVx (As := [.inl x1]) dX11_zone_2 (sh_X11_needZone_ok (d := d) e2) okX11_needZone nnX11_needZone vvX11_needZone ml_RX11_156 rfl (Nat.le_of_ble_eq_true rfl) rfl

theorem sh_X11_zone_ok {w : Gw} {d : Nat} {x0 : Nat} {x1 : Int32} {x2 : Int32} {M : Gm} {out : Int32 ⊕ (Nat × Gm)} (h : sh_X11_zone x0 x1 x2 M = some out) : Ev w mdX11_zone (d + 7) [.inr x0, .inl x1, .inl x2] M (xoI out) (xmI M out) := by
  obtain ⟨u, e0, h⟩ := bnd h
  exact ev_of okX11_zone ⟨_, _, rfl, isO_of e0 (by decide), by decide⟩ (Nat.le_of_ble_eq_true rfl) (X11_zone_F_ok h)

/-! HeatGovernor$Plan.hasTrip(I)Z -/
def X5_hasTrip_J17 (s0 : Int32) (M : Gm) : Option (Int32) :=
  (zck s0).bind fun z1 =>
  some z1
def X5_hasTrip_J16 (M : Gm) : Option (Int32) :=
  X5_hasTrip_J17 0 M
def X5_hasTrip_F (x0 : Nat) (x1 : Int32) (M : Gm) : Option (Int32) :=
  if x1 < 0 then
    X5_hasTrip_J16 M
  else
    (gfI M x0 5 6).bind fun v1 =>
    if v1 ≤ x1 then
      X5_hasTrip_J16 M
    else
      X5_hasTrip_J17 1 M
def sh_X5_hasTrip (x0 : Nat) (x1 : Int32) (M : Gm) : Option (Int32) := (isO M x0 5).bind fun _ => X5_hasTrip_F x0 x1 M
theorem X5_hasTrip_J17_ok {w : Gw} {d : Nat} {s0 : Int32} {M : Gm} {out : Int32} (h : X5_hasTrip_J17 s0 M = some out) : Wp w mdX5_hasTrip d 17 [none, none] [.inl s0] M (.inl (some (.inl out))) M := by
  unfold X5_hasTrip_J17 at h
  obtain ⟨z1, e2, h⟩ := bnd h
  obtain ⟨hz_, rfl⟩ := zck_of e2
  cases h
  exact wp_zret dX5_hasTrip_17 rfl hz_

theorem X5_hasTrip_J16_ok {w : Gw} {d : Nat} {M : Gm} {out : Int32} (h : X5_hasTrip_J16 M = some out) : Wp w mdX5_hasTrip d 16 [none, none] [] M (.inl (some (.inl out))) M := by
  unfold X5_hasTrip_J16 at h
  refine wp_iconst (v := 0) dX5_hasTrip_16 (by decide) ?_
  exact wp_ls (lsN (lsN lsZ)) (X5_hasTrip_J17_ok h)

theorem X5_hasTrip_F_ok {w : Gw} {d : Nat} {x0 : Nat} {x1 : Int32} {M : Gm} {out : Int32} (h : X5_hasTrip_F x0 x1 M = some out) : Wp w mdX5_hasTrip d 0 [some (.inr x0), some (.inl x1)] [] M (.inl (some (.inl out))) M := by
  unfold X5_hasTrip_F at h
  refine wp_iload_n dX5_hasTrip_0 rfl ?_
  refine wp_if_lt (tgt := 16) dX5_hasTrip_1 (by decide) (fun hc_ => ?_) (fun hc_ => ?_)
  · replace h := ite_t hc_ h
    exact wp_ls (lsN (lsN lsZ)) (X5_hasTrip_J16_ok h)
  · replace h := ite_f hc_ h
    refine wp_iload_n dX5_hasTrip_4 rfl ?_
    refine wp_aload_n dX5_hasTrip_5 rfl ?_
    obtain ⟨v1, e2, h⟩ := bnd h
    refine wp_getI (c := 5) (k := 6) dX5_hasTrip_6 e2 (by decide) (by decide) rfl fl_RX5_45 ?_
    refine wp_icmp_ge (tgt := 16) dX5_hasTrip_9 (by decide) (fun hc_ => ?_) (fun hc_ => ?_)
    · replace h := ite_t hc_ h
      exact wp_ls (lsN (lsN lsZ)) (X5_hasTrip_J16_ok h)
    · replace h := ite_f hc_ h
      refine wp_iconst (v := 1) dX5_hasTrip_12 (by decide) ?_
      refine wp_goto (tgt := 17) dX5_hasTrip_13 (by decide) ?_
      exact wp_ls (lsN (lsN lsZ)) (X5_hasTrip_J17_ok h)

theorem sh_X5_hasTrip_ok {w : Gw} {d : Nat} {x0 : Nat} {x1 : Int32} {M : Gm} {out : Int32} (h : sh_X5_hasTrip x0 x1 M = some out) : Ev w mdX5_hasTrip d [.inr x0, .inl x1] M (.inl (some (.inl out))) M := by
  obtain ⟨u, e0, h⟩ := bnd h
  exact ev_of okX5_hasTrip ⟨_, _, rfl, isO_of e0 (by decide), by decide⟩ (Nat.le_of_ble_eq_true rfl) (X5_hasTrip_F_ok h)

/-! HeatGovernor.needTrip(I)V -/
def X11_needTrip_F (x0 : Nat) (x1 : Int32) (M : Gm) : Option (Unit ⊕ (Nat × Gm)) :=
  (gfR M x0 11 4).bind fun v1 =>
  (sh_X5_hasTrip v1 x1 M).bind fun q3 =>
  if q3 = 0 then
    some (.inr (1, nwM M (13, 0)))
  else
    some (.inl ())
def sh_X11_needTrip (x0 : Nat) (x1 : Int32) (M : Gm) : Option (Unit ⊕ (Nat × Gm)) := (isO M x0 11).bind fun _ => X11_needTrip_F x0 x1 M
theorem X11_needTrip_F_ok {w : Gw} {d : Nat} {x0 : Nat} {x1 : Int32} {M : Gm} {out : Unit ⊕ (Nat × Gm)} (h : X11_needTrip_F x0 x1 M = some out) : Wp w mdX11_needTrip (d + 6) 0 [some (.inr x0), some (.inl x1)] [] M (xoV out) (xmV M out) := by
  unfold X11_needTrip_F at h
  refine wp_aload_n dX11_needTrip_0 rfl ?_
  obtain ⟨v1, e2, h⟩ := bnd h
  refine wp_getR (c := 11) (k := 4) dX11_needTrip_1 e2 (by decide) (by decide) rfl fl_RX11_32 ?_
  refine wp_iload_n dX11_needTrip_4 rfl ?_
  obtain ⟨q3, e4, h⟩ := bnd h
  refine wp_callV (As := [.inl x1]) dX11_needTrip_5 (sh_X5_hasTrip_ok (d := d + 5) e4) okX5_hasTrip nnX5_hasTrip vvX5_hasTrip ml_RX11_371 rfl (Nat.le_of_ble_eq_true rfl) ?_
  refine wp_if_ne (tgt := 22) dX11_needTrip_8 (by decide) (fun hc_ => ?_) (fun hc_ => ?_)
  · replace h := ite_f hc_ h
    cases h
    exact wp_ret dX11_needTrip_22 rfl
  · replace h := ite_t hc_ h
    cases h
    exact wp_throwNW (tx := "no such trip") (sid := 21) rfl rfl dX11_needTrip_11 dX11_needTrip_14 dX11_needTrip_15 dX11_needTrip_18 dX11_needTrip_21 cl_RX11_151 ini_NSE (by decide +kernel) (Nat.le_of_ble_eq_true rfl) (by omega)

theorem sh_X11_needTrip_ok {w : Gw} {d : Nat} {x0 : Nat} {x1 : Int32} {M : Gm} {out : Unit ⊕ (Nat × Gm)} (h : sh_X11_needTrip x0 x1 M = some out) : Ev w mdX11_needTrip (d + 6) [.inr x0, .inl x1] M (xoV out) (xmV M out) := by
  obtain ⟨u, e0, h⟩ := bnd h
  exact ev_of okX11_needTrip ⟨_, _, rfl, isO_of e0 (by decide), by decide⟩ (Nat.le_of_ble_eq_true rfl) (X11_needTrip_F_ok h)

/-! HeatGovernor.trip(II)I -/
def X11_trip_F (x0 : Nat) (x1 : Int32) (x2 : Int32) (M : Gm) : Option (Int32 ⊕ (Nat × Gm)) :=
  (sh_X11_needTrip x0 x1 M).bind fun q1 =>
  Sum.elim (fun u3 =>
    (gfR M x0 11 6).bind fun v5 =>
    (gfR M v5 4 0).bind fun v7 =>
    (gfR M x0 11 4).bind fun v9 =>
    (gfR M v9 5 1).bind fun v11 =>
    (ldR M 5 v11 x1).bind fun v13 =>
    if x2 = 0 then
      (gfI M v13 8 0).bind fun v15 =>
      some (.inl v15)
    else if x2 = 1 then
      (gfI M v13 8 1).bind fun v17 =>
      some (.inl v17)
    else if x2 = 2 then
      (gfI M v13 8 2).bind fun v19 =>
      some (.inl v19)
    else if x2 = 3 then
      (gfI M v13 8 3).bind fun v21 =>
      some (.inl v21)
    else if x2 = 4 then
      (gfR M v7 7 10).bind fun v23 =>
      (ldA M 0 v23 x1).bind fun v25 =>
      some (.inl v25)
    else if x2 = 5 then
      (gfR M v7 7 11).bind fun v27 =>
      (ldA M 0 v27 x1).bind fun v29 =>
      some (.inl v29)
    else if x2 = 6 then
      (sh_X7_asked v7 x1 M).bind fun q31 =>
      some (.inl q31)
    else if x2 = 7 then
      (gfI M v13 8 5).bind fun v33 =>
      (gfI M v13 8 4).bind fun v35 =>
      some (.inl (v33 - v35))
    else
      some (.inr (1, nwM M (13, 0)))) (fun u4 =>
      some (.inr u4)) q1
def sh_X11_trip (x0 : Nat) (x1 : Int32) (x2 : Int32) (M : Gm) : Option (Int32 ⊕ (Nat × Gm)) := (isO M x0 11).bind fun _ => X11_trip_F x0 x1 x2 M
theorem X11_trip_F_ok {w : Gw} {d : Nat} {x0 : Nat} {x1 : Int32} {x2 : Int32} {M : Gm} {out : Int32 ⊕ (Nat × Gm)} (h : X11_trip_F x0 x1 x2 M = some out) : Wp w mdX11_trip (d + 7) 0 [some (.inr x0), some (.inl x1), some (.inl x2), none, none] [] M (xoI out) (xmI M out) := by
  unfold X11_trip_F at h
  refine wp_aload_n dX11_trip_0 rfl ?_
  refine wp_iload_n dX11_trip_1 rfl ?_
  obtain ⟨q1, e2, h⟩ := bnd h
  cases q1 with
  | inl u3 =>
    replace h := elim_l h
    refine wp_callV (As := [.inl x1]) dX11_trip_2 (sh_X11_needTrip_ok (d := d) e2) okX11_needTrip nnX11_needTrip vvX11_needTrip ml_RX11_200 rfl (Nat.le_of_ble_eq_true rfl) ?_
    refine wp_aload_n dX11_trip_5 rfl ?_
    obtain ⟨v5, e6, h⟩ := bnd h
    refine wp_getR (c := 11) (k := 6) dX11_trip_6 e6 (by decide) (by decide) rfl fl_RX11_44 ?_
    obtain ⟨v7, e8, h⟩ := bnd h
    refine wp_getR (c := 4) (k := 0) dX11_trip_9 e8 (by decide) (by decide) rfl fl_RX11_96 ?_
    refine wp_astore_n dX11_trip_12 (Nat.le_of_ble_eq_true rfl) ?_
    refine wp_aload_n dX11_trip_13 rfl ?_
    obtain ⟨v9, e10, h⟩ := bnd h
    refine wp_getR (c := 11) (k := 4) dX11_trip_14 e10 (by decide) (by decide) rfl fl_RX11_32 ?_
    obtain ⟨v11, e12, h⟩ := bnd h
    refine wp_getR (c := 5) (k := 1) dX11_trip_17 e12 (by decide) (by decide) rfl fl_RX11_203 ?_
    refine wp_iload_n dX11_trip_20 rfl ?_
    obtain ⟨v13, e14, h⟩ := bnd h
    refine wp_aaload (t := 5) dX11_trip_21 (by decide) rfl e14 ?_
    refine wp_astore dX11_trip_22 (Nat.le_of_ble_eq_true rfl) ?_
    refine wp_iload_n dX11_trip_24 rfl ?_
    by_cases cz0 : x2 = 0
    · replace h := ite_t cz0 h
      refine wp_tableIn (tgt := 72) dX11_trip_25 0 (by rw [cz0]; decide) (by decide) rfl (by decide) ?_
      refine wp_aload dX11_trip_72 rfl ?_
      obtain ⟨v15, e16, h⟩ := bnd h
      refine wp_getI (c := 8) (k := 0) dX11_trip_74 e16 (by decide) (by decide) rfl fl_RX11_207 ?_
      cases h
      exact wp_iret dX11_trip_77 rfl
    replace h := ite_f cz0 h
    by_cases cz1 : x2 = 1
    · replace h := ite_t cz1 h
      refine wp_tableIn (tgt := 78) dX11_trip_25 1 (by rw [cz1]; decide) (by decide) rfl (by decide) ?_
      refine wp_aload dX11_trip_78 rfl ?_
      obtain ⟨v17, e18, h⟩ := bnd h
      refine wp_getI (c := 8) (k := 1) dX11_trip_80 e18 (by decide) (by decide) rfl fl_RX11_212 ?_
      cases h
      exact wp_iret dX11_trip_83 rfl
    replace h := ite_f cz1 h
    by_cases cz2 : x2 = 2
    · replace h := ite_t cz2 h
      refine wp_tableIn (tgt := 84) dX11_trip_25 2 (by rw [cz2]; decide) (by decide) rfl (by decide) ?_
      refine wp_aload dX11_trip_84 rfl ?_
      obtain ⟨v19, e20, h⟩ := bnd h
      refine wp_getI (c := 8) (k := 2) dX11_trip_86 e20 (by decide) (by decide) rfl fl_RX11_215 ?_
      cases h
      exact wp_iret dX11_trip_89 rfl
    replace h := ite_f cz2 h
    by_cases cz3 : x2 = 3
    · replace h := ite_t cz3 h
      refine wp_tableIn (tgt := 90) dX11_trip_25 3 (by rw [cz3]; decide) (by decide) rfl (by decide) ?_
      refine wp_aload dX11_trip_90 rfl ?_
      obtain ⟨v21, e22, h⟩ := bnd h
      refine wp_getI (c := 8) (k := 3) dX11_trip_92 e22 (by decide) (by decide) rfl fl_RX11_218 ?_
      cases h
      exact wp_iret dX11_trip_95 rfl
    replace h := ite_f cz3 h
    by_cases cz4 : x2 = 4
    · replace h := ite_t cz4 h
      refine wp_tableIn (tgt := 96) dX11_trip_25 4 (by rw [cz4]; decide) (by decide) rfl (by decide) ?_
      refine wp_aload_n dX11_trip_96 rfl ?_
      obtain ⟨v23, e24, h⟩ := bnd h
      refine wp_getR (c := 7) (k := 10) dX11_trip_97 e24 (by decide) (by decide) rfl fl_RX11_221 ?_
      refine wp_iload_n dX11_trip_100 rfl ?_
      obtain ⟨v25, e26, h⟩ := bnd h
      refine wp_iaload dX11_trip_101 e26 ?_
      cases h
      exact wp_iret dX11_trip_102 rfl
    replace h := ite_f cz4 h
    by_cases cz5 : x2 = 5
    · replace h := ite_t cz5 h
      refine wp_tableIn (tgt := 103) dX11_trip_25 5 (by rw [cz5]; decide) (by decide) rfl (by decide) ?_
      refine wp_aload_n dX11_trip_103 rfl ?_
      obtain ⟨v27, e28, h⟩ := bnd h
      refine wp_getR (c := 7) (k := 11) dX11_trip_104 e28 (by decide) (by decide) rfl fl_RX11_224 ?_
      refine wp_iload_n dX11_trip_107 rfl ?_
      obtain ⟨v29, e30, h⟩ := bnd h
      refine wp_iaload dX11_trip_108 e30 ?_
      cases h
      exact wp_iret dX11_trip_109 rfl
    replace h := ite_f cz5 h
    by_cases cz6 : x2 = 6
    · replace h := ite_t cz6 h
      refine wp_tableIn (tgt := 110) dX11_trip_25 6 (by rw [cz6]; decide) (by decide) rfl (by decide) ?_
      refine wp_aload_n dX11_trip_110 rfl ?_
      refine wp_iload_n dX11_trip_111 rfl ?_
      obtain ⟨q31, e32, h⟩ := bnd h
      refine wp_callV (As := [.inl x1]) dX11_trip_112 (sh_X7_asked_ok (d := d + 4) e32) okX7_asked nnX7_asked vvX7_asked ml_RX11_227 rfl (Nat.le_of_ble_eq_true rfl) ?_
      cases h
      exact wp_iret dX11_trip_115 rfl
    replace h := ite_f cz6 h
    by_cases cz7 : x2 = 7
    · replace h := ite_t cz7 h
      refine wp_tableIn (tgt := 116) dX11_trip_25 7 (by rw [cz7]; decide) (by decide) rfl (by decide) ?_
      refine wp_aload dX11_trip_116 rfl ?_
      obtain ⟨v33, e34, h⟩ := bnd h
      refine wp_getI (c := 8) (k := 5) dX11_trip_118 e34 (by decide) (by decide) rfl fl_RX11_230 ?_
      refine wp_aload dX11_trip_121 rfl ?_
      obtain ⟨v35, e36, h⟩ := bnd h
      refine wp_getI (c := 8) (k := 4) dX11_trip_123 e36 (by decide) (by decide) rfl fl_RX11_233 ?_
      refine wp_isub dX11_trip_126 ?_
      cases h
      exact wp_iret dX11_trip_127 rfl
    replace h := ite_f cz7 h
    refine wp_tableOut (tgt := 128) dX11_trip_25 (by have g0 := lv_neT cz0 (show (0 : Int32).toInt = 0 by decide); have g1 := lv_neT cz1 (show (1 : Int32).toInt = 1 by decide); have g2 := lv_neT cz2 (show (2 : Int32).toInt = 2 by decide); have g3 := lv_neT cz3 (show (3 : Int32).toInt = 3 by decide); have g4 := lv_neT cz4 (show (4 : Int32).toInt = 4 by decide); have g5 := lv_neT cz5 (show (5 : Int32).toInt = 5 by decide); have g6 := lv_neT cz6 (show (6 : Int32).toInt = 6 by decide); have g7 := lv_neT cz7 (show (7 : Int32).toInt = 7 by decide); omega) (by decide) ?_
    cases h
    exact wp_throwN (tx := "no such what") (sid := 19) rfl rfl dX11_trip_128 dX11_trip_131 dX11_trip_132 dX11_trip_134 dX11_trip_137 cl_RX11_151 ini_NSE (by decide +kernel) (Nat.le_of_ble_eq_true rfl) (by omega)
  | inr u4 =>
    replace h := elim_r h
    cases h
    exact wp_callVx (As := [.inl x1]) dX11_trip_2 (sh_X11_needTrip_ok (d := d) e2) okX11_needTrip nnX11_needTrip vvX11_needTrip ml_RX11_200 rfl (Nat.le_of_ble_eq_true rfl) rfl

theorem sh_X11_trip_ok {w : Gw} {d : Nat} {x0 : Nat} {x1 : Int32} {x2 : Int32} {M : Gm} {out : Int32 ⊕ (Nat × Gm)} (h : sh_X11_trip x0 x1 x2 M = some out) : Ev w mdX11_trip (d + 7) [.inr x0, .inl x1, .inl x2] M (xoI out) (xmI M out) := by
  obtain ⟨u, e0, h⟩ := bnd h
  exact ev_of okX11_trip ⟨_, _, rfl, isO_of e0 (by decide), by decide⟩ (Nat.le_of_ble_eq_true rfl) (X11_trip_F_ok h)

/-! HeatGovernor.needDevice(I)V -/
def X11_needDevice_F (x0 : Nat) (x1 : Int32) (M : Gm) : Option (Unit ⊕ (Nat × Gm)) :=
  (gfR M x0 11 4).bind fun v1 =>
  (sh_X5_hasDevice v1 x1 M).bind fun q3 =>
  if q3 = 0 then
    some (.inr (1, nwM M (13, 0)))
  else
    some (.inl ())
def sh_X11_needDevice (x0 : Nat) (x1 : Int32) (M : Gm) : Option (Unit ⊕ (Nat × Gm)) := (isO M x0 11).bind fun _ => X11_needDevice_F x0 x1 M
theorem X11_needDevice_F_ok {w : Gw} {d : Nat} {x0 : Nat} {x1 : Int32} {M : Gm} {out : Unit ⊕ (Nat × Gm)} (h : X11_needDevice_F x0 x1 M = some out) : Wp w mdX11_needDevice (d + 6) 0 [some (.inr x0), some (.inl x1)] [] M (xoV out) (xmV M out) := by
  unfold X11_needDevice_F at h
  refine wp_aload_n dX11_needDevice_0 rfl ?_
  obtain ⟨v1, e2, h⟩ := bnd h
  refine wp_getR (c := 11) (k := 4) dX11_needDevice_1 e2 (by decide) (by decide) rfl fl_RX11_32 ?_
  refine wp_iload_n dX11_needDevice_4 rfl ?_
  obtain ⟨q3, e4, h⟩ := bnd h
  refine wp_callV (As := [.inl x1]) dX11_needDevice_5 (sh_X5_hasDevice_ok (d := d + 5) e4) okX5_hasDevice nnX5_hasDevice vvX5_hasDevice ml_RX11_320 rfl (Nat.le_of_ble_eq_true rfl) ?_
  refine wp_if_ne (tgt := 22) dX11_needDevice_8 (by decide) (fun hc_ => ?_) (fun hc_ => ?_)
  · replace h := ite_f hc_ h
    cases h
    exact wp_ret dX11_needDevice_22 rfl
  · replace h := ite_t hc_ h
    cases h
    exact wp_throwNW (tx := "no such device") (sid := 22) rfl rfl dX11_needDevice_11 dX11_needDevice_14 dX11_needDevice_15 dX11_needDevice_18 dX11_needDevice_21 cl_RX11_151 ini_NSE (by decide +kernel) (Nat.le_of_ble_eq_true rfl) (by omega)

theorem sh_X11_needDevice_ok {w : Gw} {d : Nat} {x0 : Nat} {x1 : Int32} {M : Gm} {out : Unit ⊕ (Nat × Gm)} (h : sh_X11_needDevice x0 x1 M = some out) : Ev w mdX11_needDevice (d + 6) [.inr x0, .inl x1] M (xoV out) (xmV M out) := by
  obtain ⟨u, e0, h⟩ := bnd h
  exact ev_of okX11_needDevice ⟨_, _, rfl, isO_of e0 (by decide), by decide⟩ (Nat.le_of_ble_eq_true rfl) (X11_needDevice_F_ok h)

/-! HeatGovernor.device(II)I -/
def X11_device_F (x0 : Nat) (x1 : Int32) (x2 : Int32) (M : Gm) : Option (Int32 ⊕ (Nat × Gm)) :=
  (sh_X11_needDevice x0 x1 M).bind fun q1 =>
  Sum.elim (fun u3 =>
    (gfR M x0 11 6).bind fun v5 =>
    (gfR M v5 4 0).bind fun v7 =>
    (gfR M x0 11 4).bind fun v9 =>
    (gfR M v9 5 2).bind fun v11 =>
    (ldR M 6 v11 x1).bind fun v13 =>
    if x2 = 0 then
      (gfI M v13 2 0).bind fun v15 =>
      some (.inl v15)
    else if x2 = 1 then
      (gfI M v13 2 1).bind fun v17 =>
      some (.inl v17)
    else if x2 = 2 then
      (gfI M v13 2 2).bind fun v19 =>
      some (.inl v19)
    else if x2 = 3 then
      (gfR M v7 7 14).bind fun v21 =>
      (ldA M 0 v21 x1).bind fun v23 =>
      some (.inl v23)
    else if x2 = 4 then
      (gfR M v7 7 12).bind fun v25 =>
      (ldA M 0 v25 x1).bind fun v27 =>
      some (.inl v27)
    else if x2 = 5 then
      (gfR M v7 7 13).bind fun v29 =>
      (ldA M 0 v29 x1).bind fun v31 =>
      some (.inl v31)
    else if x2 = 6 then
      (sh_X7_greatestWanted v7 x1 M).bind fun q33 =>
      some (.inl q33)
    else
      some (.inr (1, nwM M (13, 0)))) (fun u4 =>
      some (.inr u4)) q1
def sh_X11_device (x0 : Nat) (x1 : Int32) (x2 : Int32) (M : Gm) : Option (Int32 ⊕ (Nat × Gm)) := (isO M x0 11).bind fun _ => X11_device_F x0 x1 x2 M
theorem X11_device_F_ok {w : Gw} {d : Nat} {x0 : Nat} {x1 : Int32} {x2 : Int32} {M : Gm} {out : Int32 ⊕ (Nat × Gm)} (h : X11_device_F x0 x1 x2 M = some out) : Wp w mdX11_device (d + 7) 0 [some (.inr x0), some (.inl x1), some (.inl x2), none, none] [] M (xoI out) (xmI M out) := by
  unfold X11_device_F at h
  refine wp_aload_n dX11_device_0 rfl ?_
  refine wp_iload_n dX11_device_1 rfl ?_
  obtain ⟨q1, e2, h⟩ := bnd h
  cases q1 with
  | inl u3 =>
    replace h := elim_l h
    refine wp_callV (As := [.inl x1]) dX11_device_2 (sh_X11_needDevice_ok (d := d) e2) okX11_needDevice nnX11_needDevice vvX11_needDevice ml_RX11_236 rfl (Nat.le_of_ble_eq_true rfl) ?_
    refine wp_aload_n dX11_device_5 rfl ?_
    obtain ⟨v5, e6, h⟩ := bnd h
    refine wp_getR (c := 11) (k := 6) dX11_device_6 e6 (by decide) (by decide) rfl fl_RX11_44 ?_
    obtain ⟨v7, e8, h⟩ := bnd h
    refine wp_getR (c := 4) (k := 0) dX11_device_9 e8 (by decide) (by decide) rfl fl_RX11_96 ?_
    refine wp_astore_n dX11_device_12 (Nat.le_of_ble_eq_true rfl) ?_
    refine wp_aload_n dX11_device_13 rfl ?_
    obtain ⟨v9, e10, h⟩ := bnd h
    refine wp_getR (c := 11) (k := 4) dX11_device_14 e10 (by decide) (by decide) rfl fl_RX11_32 ?_
    obtain ⟨v11, e12, h⟩ := bnd h
    refine wp_getR (c := 5) (k := 2) dX11_device_17 e12 (by decide) (by decide) rfl fl_RX11_239 ?_
    refine wp_iload_n dX11_device_20 rfl ?_
    obtain ⟨v13, e14, h⟩ := bnd h
    refine wp_aaload (t := 6) dX11_device_21 (by decide) rfl e14 ?_
    refine wp_astore dX11_device_22 (Nat.le_of_ble_eq_true rfl) ?_
    refine wp_iload_n dX11_device_24 rfl ?_
    by_cases cz0 : x2 = 0
    · replace h := ite_t cz0 h
      refine wp_tableIn (tgt := 68) dX11_device_25 0 (by rw [cz0]; decide) (by decide) rfl (by decide) ?_
      refine wp_aload dX11_device_68 rfl ?_
      obtain ⟨v15, e16, h⟩ := bnd h
      refine wp_getI (c := 2) (k := 0) dX11_device_70 e16 (by decide) (by decide) rfl fl_RX11_243 ?_
      cases h
      exact wp_iret dX11_device_73 rfl
    replace h := ite_f cz0 h
    by_cases cz1 : x2 = 1
    · replace h := ite_t cz1 h
      refine wp_tableIn (tgt := 74) dX11_device_25 1 (by rw [cz1]; decide) (by decide) rfl (by decide) ?_
      refine wp_aload dX11_device_74 rfl ?_
      obtain ⟨v17, e18, h⟩ := bnd h
      refine wp_getI (c := 2) (k := 1) dX11_device_76 e18 (by decide) (by decide) rfl fl_RX11_248 ?_
      cases h
      exact wp_iret dX11_device_79 rfl
    replace h := ite_f cz1 h
    by_cases cz2 : x2 = 2
    · replace h := ite_t cz2 h
      refine wp_tableIn (tgt := 80) dX11_device_25 2 (by rw [cz2]; decide) (by decide) rfl (by decide) ?_
      refine wp_aload dX11_device_80 rfl ?_
      obtain ⟨v19, e20, h⟩ := bnd h
      refine wp_getI (c := 2) (k := 2) dX11_device_82 e20 (by decide) (by decide) rfl fl_RX11_249 ?_
      cases h
      exact wp_iret dX11_device_85 rfl
    replace h := ite_f cz2 h
    by_cases cz3 : x2 = 3
    · replace h := ite_t cz3 h
      refine wp_tableIn (tgt := 86) dX11_device_25 3 (by rw [cz3]; decide) (by decide) rfl (by decide) ?_
      refine wp_aload_n dX11_device_86 rfl ?_
      obtain ⟨v21, e22, h⟩ := bnd h
      refine wp_getR (c := 7) (k := 14) dX11_device_87 e22 (by decide) (by decide) rfl fl_RX11_252 ?_
      refine wp_iload_n dX11_device_90 rfl ?_
      obtain ⟨v23, e24, h⟩ := bnd h
      refine wp_iaload dX11_device_91 e24 ?_
      cases h
      exact wp_iret dX11_device_92 rfl
    replace h := ite_f cz3 h
    by_cases cz4 : x2 = 4
    · replace h := ite_t cz4 h
      refine wp_tableIn (tgt := 93) dX11_device_25 4 (by rw [cz4]; decide) (by decide) rfl (by decide) ?_
      refine wp_aload_n dX11_device_93 rfl ?_
      obtain ⟨v25, e26, h⟩ := bnd h
      refine wp_getR (c := 7) (k := 12) dX11_device_94 e26 (by decide) (by decide) rfl fl_RX11_255 ?_
      refine wp_iload_n dX11_device_97 rfl ?_
      obtain ⟨v27, e28, h⟩ := bnd h
      refine wp_iaload dX11_device_98 e28 ?_
      cases h
      exact wp_iret dX11_device_99 rfl
    replace h := ite_f cz4 h
    by_cases cz5 : x2 = 5
    · replace h := ite_t cz5 h
      refine wp_tableIn (tgt := 100) dX11_device_25 5 (by rw [cz5]; decide) (by decide) rfl (by decide) ?_
      refine wp_aload_n dX11_device_100 rfl ?_
      obtain ⟨v29, e30, h⟩ := bnd h
      refine wp_getR (c := 7) (k := 13) dX11_device_101 e30 (by decide) (by decide) rfl fl_RX11_258 ?_
      refine wp_iload_n dX11_device_104 rfl ?_
      obtain ⟨v31, e32, h⟩ := bnd h
      refine wp_iaload dX11_device_105 e32 ?_
      cases h
      exact wp_iret dX11_device_106 rfl
    replace h := ite_f cz5 h
    by_cases cz6 : x2 = 6
    · replace h := ite_t cz6 h
      refine wp_tableIn (tgt := 107) dX11_device_25 6 (by rw [cz6]; decide) (by decide) rfl (by decide) ?_
      refine wp_aload_n dX11_device_107 rfl ?_
      refine wp_iload_n dX11_device_108 rfl ?_
      obtain ⟨q33, e34, h⟩ := bnd h
      refine wp_callV (As := [.inl x1]) dX11_device_109 (sh_X7_greatestWanted_ok (d := d + 5) e34) okX7_greatestWanted nnX7_greatestWanted vvX7_greatestWanted ml_RX11_261 rfl (Nat.le_of_ble_eq_true rfl) ?_
      cases h
      exact wp_iret dX11_device_112 rfl
    replace h := ite_f cz6 h
    refine wp_tableOut (tgt := 113) dX11_device_25 (by have g0 := lv_neT cz0 (show (0 : Int32).toInt = 0 by decide); have g1 := lv_neT cz1 (show (1 : Int32).toInt = 1 by decide); have g2 := lv_neT cz2 (show (2 : Int32).toInt = 2 by decide); have g3 := lv_neT cz3 (show (3 : Int32).toInt = 3 by decide); have g4 := lv_neT cz4 (show (4 : Int32).toInt = 4 by decide); have g5 := lv_neT cz5 (show (5 : Int32).toInt = 5 by decide); have g6 := lv_neT cz6 (show (6 : Int32).toInt = 6 by decide); omega) (by decide) ?_
    cases h
    exact wp_throwN (tx := "no such what") (sid := 19) rfl rfl dX11_device_113 dX11_device_116 dX11_device_117 dX11_device_119 dX11_device_122 cl_RX11_151 ini_NSE (by decide +kernel) (Nat.le_of_ble_eq_true rfl) (by omega)
  | inr u4 =>
    replace h := elim_r h
    cases h
    exact wp_callVx (As := [.inl x1]) dX11_device_2 (sh_X11_needDevice_ok (d := d) e2) okX11_needDevice nnX11_needDevice vvX11_needDevice ml_RX11_236 rfl (Nat.le_of_ble_eq_true rfl) rfl

theorem sh_X11_device_ok {w : Gw} {d : Nat} {x0 : Nat} {x1 : Int32} {x2 : Int32} {M : Gm} {out : Int32 ⊕ (Nat × Gm)} (h : sh_X11_device x0 x1 x2 M = some out) : Ev w mdX11_device (d + 7) [.inr x0, .inl x1, .inl x2] M (xoI out) (xmI M out) := by
  obtain ⟨u, e0, h⟩ := bnd h
  exact ev_of okX11_device ⟨_, _, rfl, isO_of e0 (by decide), by decide⟩ (Nat.le_of_ble_eq_true rfl) (X11_device_F_ok h)

/-! HeatGovernor.needWhat(II)V -/
def X11_needWhat_J9 (M : Gm) : Option (Unit ⊕ (Nat × Gm)) :=
  some (.inr (1, nwM M (13, 0)))
def X11_needWhat_F (x0 : Int32) (x1 : Int32) (M : Gm) : Option (Unit ⊕ (Nat × Gm)) :=
  if x0 < 0 then
    X11_needWhat_J9 M
  else
    if x0 ≤ x1 then
      some (.inl ())
    else
      X11_needWhat_J9 M
def sh_X11_needWhat (x0 : Int32) (x1 : Int32) (M : Gm) : Option (Unit ⊕ (Nat × Gm)) := X11_needWhat_F x0 x1 M
theorem X11_needWhat_J9_ok {w : Gw} {d : Nat} {M : Gm} {out : Unit ⊕ (Nat × Gm)} (h : X11_needWhat_J9 M = some out) : Wp w mdX11_needWhat (d + 6) 9 [none, none] [] M (xoV out) (xmV M out) := by
  unfold X11_needWhat_J9 at h
  cases h
  exact wp_throwN (tx := "no such what") (sid := 19) rfl rfl dX11_needWhat_9 dX11_needWhat_12 dX11_needWhat_13 dX11_needWhat_15 dX11_needWhat_18 cl_RX11_151 ini_NSE (by decide +kernel) (Nat.le_of_ble_eq_true rfl) (by omega)

theorem X11_needWhat_F_ok {w : Gw} {d : Nat} {x0 : Int32} {x1 : Int32} {M : Gm} {out : Unit ⊕ (Nat × Gm)} (h : X11_needWhat_F x0 x1 M = some out) : Wp w mdX11_needWhat (d + 6) 0 [some (.inl x0), some (.inl x1)] [] M (xoV out) (xmV M out) := by
  unfold X11_needWhat_F at h
  refine wp_iload_n dX11_needWhat_0 rfl ?_
  refine wp_if_lt (tgt := 9) dX11_needWhat_1 (by decide) (fun hc_ => ?_) (fun hc_ => ?_)
  · replace h := ite_t hc_ h
    exact wp_ls (lsN (lsN lsZ)) (X11_needWhat_J9_ok h)
  · replace h := ite_f hc_ h
    refine wp_iload_n dX11_needWhat_4 rfl ?_
    refine wp_iload_n dX11_needWhat_5 rfl ?_
    refine wp_icmp_le (tgt := 19) dX11_needWhat_6 (by decide) (fun hc_ => ?_) (fun hc_ => ?_)
    · replace h := ite_t hc_ h
      cases h
      exact wp_ret dX11_needWhat_19 rfl
    · replace h := ite_f hc_ h
      exact wp_ls (lsN (lsN lsZ)) (X11_needWhat_J9_ok h)

theorem sh_X11_needWhat_ok {w : Gw} {d : Nat} {x0 : Int32} {x1 : Int32} {M : Gm} {out : Unit ⊕ (Nat × Gm)} (h : sh_X11_needWhat x0 x1 M = some out) : Ev w mdX11_needWhat (d + 6) [.inl x0, .inl x1] M (xoV out) (xmV M out) := ev_of okX11_needWhat trivial (Nat.le_of_ble_eq_true rfl) (X11_needWhat_F_ok h)

/-! HeatGovernor.bind(III)I -/
def X11_bind_J67 (s0 : Int32) (M : Gm) : Option (Int32 ⊕ (Nat × Gm)) :=
  some (.inl s0)
def X11_bind_F (x0 : Nat) (x1 : Int32) (x2 : Int32) (x3 : Int32) (M : Gm) : Option (Int32 ⊕ (Nat × Gm)) :=
  (sh_X11_needTrip x0 x1 M).bind fun q1 =>
  Sum.elim (fun u3 =>
    (sh_X11_needDevice x0 x2 M).bind fun q5 =>
    Sum.elim (fun u7 =>
      (sh_X11_needWhat x3 1 M).bind fun q9 =>
      Sum.elim (fun u11 =>
        (gfR M x0 11 4).bind fun v13 =>
        (sh_X5_bindOf v13 x1 x2 M).bind fun q15 =>
        if q15 = ((-1)) then
          some (.inl 0)
        else
          if x3 = 0 then
            (gfR M x0 11 4).bind fun v25 =>
            (gfR M v25 5 3).bind fun v27 =>
            (ldR M 7 v27 q15).bind fun v29 =>
            (gfI M v29 0 2).bind fun v31 =>
            X11_bind_J67 v31 M
          else
            (gfR M x0 11 6).bind fun v17 =>
            (gfR M v17 4 0).bind fun v19 =>
            (gfR M v19 7 15).bind fun v21 =>
            (ldA M 0 v21 q15).bind fun v23 =>
            X11_bind_J67 v23 M) (fun u12 =>
          some (.inr u12)) q9) (fun u8 =>
        some (.inr u8)) q5) (fun u4 =>
      some (.inr u4)) q1
def sh_X11_bind (x0 : Nat) (x1 : Int32) (x2 : Int32) (x3 : Int32) (M : Gm) : Option (Int32 ⊕ (Nat × Gm)) := (isO M x0 11).bind fun _ => X11_bind_F x0 x1 x2 x3 M
theorem X11_bind_J67_ok {w : Gw} {d : Nat} {s0 : Int32} {M : Gm} {out : Int32 ⊕ (Nat × Gm)} (h : X11_bind_J67 s0 M = some out) : Wp w mdX11_bind (d + 7) 67 [none, none, none, none, none] [.inl s0] M (xoI out) (xmI M out) := by
  unfold X11_bind_J67 at h
  cases h
  exact wp_iret dX11_bind_67 rfl

theorem X11_bind_F_ok {w : Gw} {d : Nat} {x0 : Nat} {x1 : Int32} {x2 : Int32} {x3 : Int32} {M : Gm} {out : Int32 ⊕ (Nat × Gm)} (h : X11_bind_F x0 x1 x2 x3 M = some out) : Wp w mdX11_bind (d + 7) 0 [some (.inr x0), some (.inl x1), some (.inl x2), some (.inl x3), none] [] M (xoI out) (xmI M out) := by
  unfold X11_bind_F at h
  refine wp_aload_n dX11_bind_0 rfl ?_
  refine wp_iload_n dX11_bind_1 rfl ?_
  obtain ⟨q1, e2, h⟩ := bnd h
  cases q1 with
  | inl u3 =>
    replace h := elim_l h
    refine wp_callV (As := [.inl x1]) dX11_bind_2 (sh_X11_needTrip_ok (d := d) e2) okX11_needTrip nnX11_needTrip vvX11_needTrip ml_RX11_200 rfl (Nat.le_of_ble_eq_true rfl) ?_
    refine wp_aload_n dX11_bind_5 rfl ?_
    refine wp_iload_n dX11_bind_6 rfl ?_
    obtain ⟨q5, e6, h⟩ := bnd h
    cases q5 with
    | inl u7 =>
      replace h := elim_l h
      refine wp_callV (As := [.inl x2]) dX11_bind_7 (sh_X11_needDevice_ok (d := d) e6) okX11_needDevice nnX11_needDevice vvX11_needDevice ml_RX11_236 rfl (Nat.le_of_ble_eq_true rfl) ?_
      refine wp_iload_n dX11_bind_10 rfl ?_
      refine wp_iconst (v := 1) dX11_bind_11 (by decide) ?_
      obtain ⟨q9, e10, h⟩ := bnd h
      cases q9 with
      | inl u11 =>
        replace h := elim_l h
        refine wp_callS (As := [.inl x3, .inl 1]) dX11_bind_12 (sh_X11_needWhat_ok (d := d) e10) okX11_needWhat nnX11_needWhat ssX11_needWhat ml_RX11_264 rfl (Nat.le_of_ble_eq_true rfl) ?_
        refine wp_aload_n dX11_bind_15 rfl ?_
        obtain ⟨v13, e14, h⟩ := bnd h
        refine wp_getR (c := 11) (k := 4) dX11_bind_16 e14 (by decide) (by decide) rfl fl_RX11_32 ?_
        refine wp_iload_n dX11_bind_19 rfl ?_
        refine wp_iload_n dX11_bind_20 rfl ?_
        obtain ⟨q15, e16, h⟩ := bnd h
        refine wp_callV (As := [.inl x1, .inl x2]) dX11_bind_21 (sh_X5_bindOf_ok (d := d + 6) e16) okX5_bindOf nnX5_bindOf vvX5_bindOf ml_RX11_268 rfl (Nat.le_of_ble_eq_true rfl) ?_
        refine wp_istore dX11_bind_24 (Nat.le_of_ble_eq_true rfl) ?_
        refine wp_iload dX11_bind_26 rfl ?_
        refine wp_iconst (v := (-1)) dX11_bind_28 (by decide) ?_
        refine wp_icmp_ne (tgt := 34) dX11_bind_29 (by decide) (fun hc_ => ?_) (fun hc_ => ?_)
        · replace h := ite_f hc_ h
          refine wp_iload_n dX11_bind_34 rfl ?_
          refine wp_if_ne (tgt := 54) dX11_bind_35 (by decide) (fun hc_ => ?_) (fun hc_ => ?_)
          · replace h := ite_f hc_ h
            refine wp_aload_n dX11_bind_54 rfl ?_
            obtain ⟨v17, e18, h⟩ := bnd h
            refine wp_getR (c := 11) (k := 6) dX11_bind_55 e18 (by decide) (by decide) rfl fl_RX11_44 ?_
            obtain ⟨v19, e20, h⟩ := bnd h
            refine wp_getR (c := 4) (k := 0) dX11_bind_58 e20 (by decide) (by decide) rfl fl_RX11_96 ?_
            obtain ⟨v21, e22, h⟩ := bnd h
            refine wp_getR (c := 7) (k := 15) dX11_bind_61 e22 (by decide) (by decide) rfl fl_RX11_281 ?_
            refine wp_iload dX11_bind_64 rfl ?_
            obtain ⟨v23, e24, h⟩ := bnd h
            refine wp_iaload dX11_bind_66 e24 ?_
            exact wp_ls (lsN (lsN (lsN (lsN (lsN lsZ))))) (X11_bind_J67_ok h)
          · replace h := ite_t hc_ h
            refine wp_aload_n dX11_bind_38 rfl ?_
            obtain ⟨v25, e26, h⟩ := bnd h
            refine wp_getR (c := 11) (k := 4) dX11_bind_39 e26 (by decide) (by decide) rfl fl_RX11_32 ?_
            obtain ⟨v27, e28, h⟩ := bnd h
            refine wp_getR (c := 5) (k := 3) dX11_bind_42 e28 (by decide) (by decide) rfl fl_RX11_272 ?_
            refine wp_iload dX11_bind_45 rfl ?_
            obtain ⟨v29, e30, h⟩ := bnd h
            refine wp_aaload (t := 7) dX11_bind_47 (by decide) rfl e30 ?_
            obtain ⟨v31, e32, h⟩ := bnd h
            refine wp_getI (c := 0) (k := 2) dX11_bind_48 e32 (by decide) (by decide) rfl fl_RX11_276 ?_
            refine wp_goto (tgt := 67) dX11_bind_51 (by decide) ?_
            exact wp_ls (lsN (lsN (lsN (lsN (lsN lsZ))))) (X11_bind_J67_ok h)
        · replace h := ite_t hc_ h
          refine wp_iconst (v := 0) dX11_bind_32 (by decide) ?_
          cases h
          exact wp_iret dX11_bind_33 rfl
      | inr u12 =>
        replace h := elim_r h
        cases h
        exact wp_callSx (As := [.inl x3, .inl 1]) dX11_bind_12 (sh_X11_needWhat_ok (d := d) e10) okX11_needWhat nnX11_needWhat ssX11_needWhat ml_RX11_264 rfl (Nat.le_of_ble_eq_true rfl) rfl
    | inr u8 =>
      replace h := elim_r h
      cases h
      exact wp_callVx (As := [.inl x2]) dX11_bind_7 (sh_X11_needDevice_ok (d := d) e6) okX11_needDevice nnX11_needDevice vvX11_needDevice ml_RX11_236 rfl (Nat.le_of_ble_eq_true rfl) rfl
  | inr u4 =>
    replace h := elim_r h
    cases h
    exact wp_callVx (As := [.inl x1]) dX11_bind_2 (sh_X11_needTrip_ok (d := d) e2) okX11_needTrip nnX11_needTrip vvX11_needTrip ml_RX11_200 rfl (Nat.le_of_ble_eq_true rfl) rfl

theorem sh_X11_bind_ok {w : Gw} {d : Nat} {x0 : Nat} {x1 : Int32} {x2 : Int32} {x3 : Int32} {M : Gm} {out : Int32 ⊕ (Nat × Gm)} (h : sh_X11_bind x0 x1 x2 x3 M = some out) : Ev w mdX11_bind (d + 7) [.inr x0, .inl x1, .inl x2, .inl x3] M (xoI out) (xmI M out) := by
  obtain ⟨u, e0, h⟩ := bnd h
  exact ev_of okX11_bind ⟨_, _, rfl, isO_of e0 (by decide), by decide⟩ (Nat.le_of_ble_eq_true rfl) (X11_bind_F_ok h)
