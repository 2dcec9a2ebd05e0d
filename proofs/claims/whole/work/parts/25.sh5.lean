/-! HeatGovernorModel.oneNow(II)I -/
def X12_oneNow_J35 (x3 : Int32) (M : Gm) : Option (Int32 × Gm) :=
  some (x3, M)
def X12_oneNow_F (x0 : Nat) (x1 : Int32) (x2 : Int32) (M : Gm) : Option (Int32 × Gm) :=
  (sh_X12_numberNow x0 0 (x1 - 1) M).bind fun q1 =>
  (gfI q1.2 x0 12 18).bind fun v3 =>
  if v3 = 0 then
    (gfR q1.2 x0 12 8).bind fun v5 =>
    (ldA q1.2 0 v5 (163 + x2)).bind fun v7 =>
    if q1.1 < v7 then
      X12_oneNow_J35 q1.1 q1.2
    else
      (sh_X12_wrong x0 3 q1.2).bind fun q9 =>
      X12_oneNow_J35 q1.1 q9
  else
    X12_oneNow_J35 q1.1 q1.2
def sh_X12_oneNow (x0 : Nat) (x1 : Int32) (x2 : Int32) (M : Gm) : Option (Int32 × Gm) := (isO M x0 12).bind fun _ => X12_oneNow_F x0 x1 x2 M
theorem X12_oneNow_J35_ok {w : Gw} {d : Nat} {x3 : Int32} {M : Gm} {out : Int32 × Gm} (h : X12_oneNow_J35 x3 M = some out) : Wp w mdX12_oneNow (d + 2) 35 [none, none, none, some (.inl x3)] [] M (.inl (some (.inl out.1))) out.2 := by
  unfold X12_oneNow_J35 at h
  refine wp_iload_n dX12_oneNow_35 rfl ?_
  cases h
  exact wp_iret dX12_oneNow_36 rfl

theorem X12_oneNow_F_ok {w : Gw} {d : Nat} {x0 : Nat} {x1 : Int32} {x2 : Int32} {M : Gm} {out : Int32 × Gm} (h : X12_oneNow_F x0 x1 x2 M = some out) : Wp w mdX12_oneNow (d + 2) 0 [some (.inr x0), some (.inl x1), some (.inl x2), none] [] M (.inl (some (.inl out.1))) out.2 := by
  unfold X12_oneNow_F at h
  refine wp_aload_n dX12_oneNow_0 rfl ?_
  refine wp_iconst (v := 0) dX12_oneNow_1 (by decide) ?_
  refine wp_iload_n dX12_oneNow_2 rfl ?_
  refine wp_iconst (v := 1) dX12_oneNow_3 (by decide) ?_
  refine wp_isub dX12_oneNow_4 ?_
  obtain ⟨q1, e2, h⟩ := bnd h
  refine wp_callV (As := [.inl 0, .inl (x1 - 1)]) dX12_oneNow_5 (sh_X12_numberNow_ok (d := d) e2) okX12_numberNow nnX12_numberNow vvX12_numberNow ml_RX12_198 rfl (Nat.le_of_ble_eq_true rfl) ?_
  refine wp_istore_n dX12_oneNow_8 (Nat.le_of_ble_eq_true rfl) ?_
  refine wp_aload_n dX12_oneNow_9 rfl ?_
  obtain ⟨v3, e4, h⟩ := bnd h
  refine wp_getI (c := 12) (k := 18) dX12_oneNow_10 e4 (by decide) (by decide) rfl fl_RX12_173 ?_
  refine wp_if_ne (tgt := 35) dX12_oneNow_13 (by decide) (fun hc_ => ?_) (fun hc_ => ?_)
  · replace h := ite_f hc_ h
    exact wp_ls (lsN (lsN (lsN (lsS lsZ)))) (X12_oneNow_J35_ok h)
  · replace h := ite_t hc_ h
    refine wp_iload_n dX12_oneNow_16 rfl ?_
    refine wp_aload_n dX12_oneNow_17 rfl ?_
    obtain ⟨v5, e6, h⟩ := bnd h
    refine wp_getR (c := 12) (k := 8) dX12_oneNow_18 e6 (by decide) (by decide) rfl fl_RX12_68 ?_
    refine wp_sipush (v := 163) dX12_oneNow_21 (by decide) ?_
    refine wp_iload_n dX12_oneNow_24 rfl ?_
    refine wp_iadd dX12_oneNow_25 ?_
    obtain ⟨v7, e8, h⟩ := bnd h
    refine wp_iaload dX12_oneNow_26 e8 ?_
    refine wp_icmp_lt (tgt := 35) dX12_oneNow_27 (by decide) (fun hc_ => ?_) (fun hc_ => ?_)
    · replace h := ite_t hc_ h
      exact wp_ls (lsN (lsN (lsN (lsS lsZ)))) (X12_oneNow_J35_ok h)
    · replace h := ite_f hc_ h
      refine wp_aload_n dX12_oneNow_30 rfl ?_
      refine wp_iconst (v := 3) dX12_oneNow_31 (by decide) ?_
      obtain ⟨q9, e10, h⟩ := bnd h
      refine wp_callV (As := [.inl 3]) dX12_oneNow_32 (sh_X12_wrong_ok (d := d + 1) e10) okX12_wrong nnX12_wrong vvX12_wrong ml_RX12_194 rfl (Nat.le_of_ble_eq_true rfl) ?_
      exact wp_ls (lsN (lsN (lsN (lsS lsZ)))) (X12_oneNow_J35_ok h)

theorem sh_X12_oneNow_ok {w : Gw} {d : Nat} {x0 : Nat} {x1 : Int32} {x2 : Int32} {M : Gm} {out : Int32 × Gm} (h : sh_X12_oneNow x0 x1 x2 M = some out) : Ev w mdX12_oneNow (d + 2) [.inr x0, .inl x1, .inl x2] M (.inl (some (.inl out.1))) out.2 := by
  obtain ⟨u, e0, h⟩ := bnd h
  exact ev_of okX12_oneNow ⟨_, _, rfl, isO_of e0 (by decide), by decide⟩ (Nat.le_of_ble_eq_true rfl) (X12_oneNow_F_ok h)

/-! HeatGovernorModel.readNumber(II)I -/
def X12_readNumber_F (x0 : Nat) (x1 : Int32) (x2 : Int32) (M : Gm) : Option (Int32 × Gm) :=
  (sh_X12_numberNow x0 x1 x2 M).bind fun q1 =>
  (sh_X12_pass x0 q1.2).bind fun q3 =>
  some (q1.1, q3)
def sh_X12_readNumber (x0 : Nat) (x1 : Int32) (x2 : Int32) (M : Gm) : Option (Int32 × Gm) := (isO M x0 12).bind fun _ => X12_readNumber_F x0 x1 x2 M
theorem X12_readNumber_F_ok {w : Gw} {d : Nat} {x0 : Nat} {x1 : Int32} {x2 : Int32} {M : Gm} {out : Int32 × Gm} (h : X12_readNumber_F x0 x1 x2 M = some out) : Wp w mdX12_readNumber (d + 3) 0 [some (.inr x0), some (.inl x1), some (.inl x2), none] [] M (.inl (some (.inl out.1))) out.2 := by
  unfold X12_readNumber_F at h
  refine wp_aload_n dX12_readNumber_0 rfl ?_
  refine wp_iload_n dX12_readNumber_1 rfl ?_
  refine wp_iload_n dX12_readNumber_2 rfl ?_
  obtain ⟨q1, e2, h⟩ := bnd h
  refine wp_callV (As := [.inl x1, .inl x2]) dX12_readNumber_3 (sh_X12_numberNow_ok (d := d + 1) e2) okX12_numberNow nnX12_numberNow vvX12_numberNow ml_RX12_198 rfl (Nat.le_of_ble_eq_true rfl) ?_
  refine wp_istore_n dX12_readNumber_6 (Nat.le_of_ble_eq_true rfl) ?_
  refine wp_aload_n dX12_readNumber_7 rfl ?_
  obtain ⟨q3, e4, h⟩ := bnd h
  refine wp_callV (As := []) dX12_readNumber_8 (sh_X12_pass_ok (d := d) e4) okX12_pass nnX12_pass vvX12_pass ml_RX12_201 rfl (Nat.le_of_ble_eq_true rfl) ?_
  refine wp_iload_n dX12_readNumber_11 rfl ?_
  cases h
  exact wp_iret dX12_readNumber_12 rfl

theorem sh_X12_readNumber_ok {w : Gw} {d : Nat} {x0 : Nat} {x1 : Int32} {x2 : Int32} {M : Gm} {out : Int32 × Gm} (h : sh_X12_readNumber x0 x1 x2 M = some out) : Ev w mdX12_readNumber (d + 3) [.inr x0, .inl x1, .inl x2] M (.inl (some (.inl out.1))) out.2 := by
  obtain ⟨u, e0, h⟩ := bnd h
  exact ev_of okX12_readNumber ⟨_, _, rfl, isO_of e0 (by decide), by decide⟩ (Nat.le_of_ble_eq_true rfl) (X12_readNumber_F_ok h)

/-! HeatGovernorModel.readBind()V -/
def X12_readBind_J108 (M : Gm) : Option (Gm) :=
  some M
def X12_readBind_J74 (x0 : Nat) (x1 : Int32) (x2 : Int32) (M : Gm) : Option (Gm) :=
  (sh_X12_pass x0 M).bind fun q1 =>
  (sh_X12_readNumber x0 1 9 q1).bind fun q3 =>
  (gfI q3.2 x0 12 18).bind fun v5 =>
  if v5 = 0 then
    (gfR q3.2 x0 12 8).bind fun v7 =>
    (stA q3.2 0 v7 ((79 + (6 * x1)) + x2) q3.1).bind fun M9 =>
    X12_readBind_J108 M9
  else
    X12_readBind_J108 q3.2
def X12_readBind_J33 (x0 : Nat) (x1 : Int32) (M : Gm) : Option (Gm) :=
  (sh_X12_pass x0 M).bind fun q1 =>
  (sh_X12_oneNow x0 6 2 q1).bind fun q3 =>
  (gfI q3.2 x0 12 18).bind fun v5 =>
  if v5 = 0 then
    (gfR q3.2 x0 12 8).bind fun v7 =>
    (ldA q3.2 0 v7 ((79 + (6 * x1)) + q3.1)).bind fun v9 =>
    if v9 ≤ 0 then
      X12_readBind_J74 x0 x1 q3.1 q3.2
    else
      (sh_X12_wrong x0 4 q3.2).bind fun q11 =>
      X12_readBind_J74 x0 x1 q3.1 q11
  else
    X12_readBind_J74 x0 x1 q3.1 q3.2
def X12_readBind_F (x0 : Nat) (M : Gm) : Option (Gm) :=
  (sh_X12_oneNow x0 10 1 M).bind fun q1 =>
  (gfI q1.2 x0 12 18).bind fun v3 =>
  if v3 = 0 then
    (gfR q1.2 x0 12 8).bind fun v5 =>
    (ldA q1.2 0 v5 (25 + q1.1)).bind fun v7 =>
    if v7 ≤ 1 then
      X12_readBind_J33 x0 q1.1 q1.2
    else
      (sh_X12_wrong x0 4 q1.2).bind fun q9 =>
      X12_readBind_J33 x0 q1.1 q9
  else
    X12_readBind_J33 x0 q1.1 q1.2
def sh_X12_readBind (x0 : Nat) (M : Gm) : Option (Gm) := (isO M x0 12).bind fun _ => X12_readBind_F x0 M
theorem X12_readBind_J108_ok {w : Gw} {d : Nat} {M : Gm} {out : Gm} (h : X12_readBind_J108 M = some out) : Wp w mdX12_readBind (d + 4) 108 [none, none, none, none] [] M (.inl none) out := by
  unfold X12_readBind_J108 at h
  cases h
  exact wp_ret dX12_readBind_108 rfl

theorem X12_readBind_J74_ok {w : Gw} {d : Nat} {x0 : Nat} {x1 : Int32} {x2 : Int32} {M : Gm} {out : Gm} (h : X12_readBind_J74 x0 x1 x2 M = some out) : Wp w mdX12_readBind (d + 4) 74 [some (.inr x0), some (.inl x1), some (.inl x2), none] [] M (.inl none) out := by
  unfold X12_readBind_J74 at h
  refine wp_aload_n dX12_readBind_74 rfl ?_
  obtain ⟨q1, e2, h⟩ := bnd h
  refine wp_callV (As := []) dX12_readBind_75 (sh_X12_pass_ok (d := d + 1) e2) okX12_pass nnX12_pass vvX12_pass ml_RX12_201 rfl (Nat.le_of_ble_eq_true rfl) ?_
  refine wp_aload_n dX12_readBind_78 rfl ?_
  refine wp_iconst (v := 1) dX12_readBind_79 (by decide) ?_
  refine wp_bipush (v := 9) dX12_readBind_80 (by decide) ?_
  obtain ⟨q3, e4, h⟩ := bnd h
  refine wp_callV (As := [.inl 1, .inl 9]) dX12_readBind_82 (sh_X12_readNumber_ok (d := d) e4) okX12_readNumber nnX12_readNumber vvX12_readNumber ml_RX12_211 rfl (Nat.le_of_ble_eq_true rfl) ?_
  refine wp_istore_n dX12_readBind_85 (Nat.le_of_ble_eq_true rfl) ?_
  refine wp_aload_n dX12_readBind_86 rfl ?_
  obtain ⟨v5, e6, h⟩ := bnd h
  refine wp_getI (c := 12) (k := 18) dX12_readBind_87 e6 (by decide) (by decide) rfl fl_RX12_173 ?_
  refine wp_if_ne (tgt := 108) dX12_readBind_90 (by decide) (fun hc_ => ?_) (fun hc_ => ?_)
  · replace h := ite_f hc_ h
    exact wp_ls (lsN (lsN (lsN (lsN lsZ)))) (X12_readBind_J108_ok h)
  · replace h := ite_t hc_ h
    refine wp_aload_n dX12_readBind_93 rfl ?_
    obtain ⟨v7, e8, h⟩ := bnd h
    refine wp_getR (c := 12) (k := 8) dX12_readBind_94 e8 (by decide) (by decide) rfl fl_RX12_68 ?_
    refine wp_bipush (v := 79) dX12_readBind_97 (by decide) ?_
    refine wp_bipush (v := 6) dX12_readBind_99 (by decide) ?_
    refine wp_iload_n dX12_readBind_101 rfl ?_
    refine wp_imul dX12_readBind_102 ?_
    refine wp_iadd dX12_readBind_103 ?_
    refine wp_iload_n dX12_readBind_104 rfl ?_
    refine wp_iadd dX12_readBind_105 ?_
    refine wp_iload_n dX12_readBind_106 rfl ?_
    obtain ⟨M9, e10, h⟩ := bnd h
    refine wp_iastore dX12_readBind_107 e10 ?_
    exact wp_ls (lsN (lsN (lsN (lsN lsZ)))) (X12_readBind_J108_ok h)

theorem X12_readBind_J33_ok {w : Gw} {d : Nat} {x0 : Nat} {x1 : Int32} {M : Gm} {out : Gm} (h : X12_readBind_J33 x0 x1 M = some out) : Wp w mdX12_readBind (d + 4) 33 [some (.inr x0), some (.inl x1), none, none] [] M (.inl none) out := by
  unfold X12_readBind_J33 at h
  refine wp_aload_n dX12_readBind_33 rfl ?_
  obtain ⟨q1, e2, h⟩ := bnd h
  refine wp_callV (As := []) dX12_readBind_34 (sh_X12_pass_ok (d := d + 1) e2) okX12_pass nnX12_pass vvX12_pass ml_RX12_201 rfl (Nat.le_of_ble_eq_true rfl) ?_
  refine wp_aload_n dX12_readBind_37 rfl ?_
  refine wp_bipush (v := 6) dX12_readBind_38 (by decide) ?_
  refine wp_iconst (v := 2) dX12_readBind_40 (by decide) ?_
  obtain ⟨q3, e4, h⟩ := bnd h
  refine wp_callV (As := [.inl 6, .inl 2]) dX12_readBind_41 (sh_X12_oneNow_ok (d := d + 1) e4) okX12_oneNow nnX12_oneNow vvX12_oneNow ml_RX12_204 rfl (Nat.le_of_ble_eq_true rfl) ?_
  refine wp_istore_n dX12_readBind_44 (Nat.le_of_ble_eq_true rfl) ?_
  refine wp_aload_n dX12_readBind_45 rfl ?_
  obtain ⟨v5, e6, h⟩ := bnd h
  refine wp_getI (c := 12) (k := 18) dX12_readBind_46 e6 (by decide) (by decide) rfl fl_RX12_173 ?_
  refine wp_if_ne (tgt := 74) dX12_readBind_49 (by decide) (fun hc_ => ?_) (fun hc_ => ?_)
  · replace h := ite_f hc_ h
    exact wp_ls (lsS (lsS (lsS (lsN lsZ)))) (X12_readBind_J74_ok h)
  · replace h := ite_t hc_ h
    refine wp_aload_n dX12_readBind_52 rfl ?_
    obtain ⟨v7, e8, h⟩ := bnd h
    refine wp_getR (c := 12) (k := 8) dX12_readBind_53 e8 (by decide) (by decide) rfl fl_RX12_68 ?_
    refine wp_bipush (v := 79) dX12_readBind_56 (by decide) ?_
    refine wp_bipush (v := 6) dX12_readBind_58 (by decide) ?_
    refine wp_iload_n dX12_readBind_60 rfl ?_
    refine wp_imul dX12_readBind_61 ?_
    refine wp_iadd dX12_readBind_62 ?_
    refine wp_iload_n dX12_readBind_63 rfl ?_
    refine wp_iadd dX12_readBind_64 ?_
    obtain ⟨v9, e10, h⟩ := bnd h
    refine wp_iaload dX12_readBind_65 e10 ?_
    refine wp_if_le (tgt := 74) dX12_readBind_66 (by decide) (fun hc_ => ?_) (fun hc_ => ?_)
    · replace h := ite_t hc_ h
      exact wp_ls (lsS (lsS (lsS (lsN lsZ)))) (X12_readBind_J74_ok h)
    · replace h := ite_f hc_ h
      refine wp_aload_n dX12_readBind_69 rfl ?_
      refine wp_iconst (v := 4) dX12_readBind_70 (by decide) ?_
      obtain ⟨q11, e12, h⟩ := bnd h
      refine wp_callV (As := [.inl 4]) dX12_readBind_71 (sh_X12_wrong_ok (d := d + 3) e12) okX12_wrong nnX12_wrong vvX12_wrong ml_RX12_194 rfl (Nat.le_of_ble_eq_true rfl) ?_
      exact wp_ls (lsS (lsS (lsS (lsN lsZ)))) (X12_readBind_J74_ok h)

theorem X12_readBind_F_ok {w : Gw} {d : Nat} {x0 : Nat} {M : Gm} {out : Gm} (h : X12_readBind_F x0 M = some out) : Wp w mdX12_readBind (d + 4) 0 [some (.inr x0), none, none, none] [] M (.inl none) out := by
  unfold X12_readBind_F at h
  refine wp_aload_n dX12_readBind_0 rfl ?_
  refine wp_bipush (v := 10) dX12_readBind_1 (by decide) ?_
  refine wp_iconst (v := 1) dX12_readBind_3 (by decide) ?_
  obtain ⟨q1, e2, h⟩ := bnd h
  refine wp_callV (As := [.inl 10, .inl 1]) dX12_readBind_4 (sh_X12_oneNow_ok (d := d + 1) e2) okX12_oneNow nnX12_oneNow vvX12_oneNow ml_RX12_204 rfl (Nat.le_of_ble_eq_true rfl) ?_
  refine wp_istore_n dX12_readBind_7 (Nat.le_of_ble_eq_true rfl) ?_
  refine wp_aload_n dX12_readBind_8 rfl ?_
  obtain ⟨v3, e4, h⟩ := bnd h
  refine wp_getI (c := 12) (k := 18) dX12_readBind_9 e4 (by decide) (by decide) rfl fl_RX12_173 ?_
  refine wp_if_ne (tgt := 33) dX12_readBind_12 (by decide) (fun hc_ => ?_) (fun hc_ => ?_)
  · replace h := ite_f hc_ h
    exact wp_ls (lsS (lsS (lsN (lsN lsZ)))) (X12_readBind_J33_ok h)
  · replace h := ite_t hc_ h
    refine wp_aload_n dX12_readBind_15 rfl ?_
    obtain ⟨v5, e6, h⟩ := bnd h
    refine wp_getR (c := 12) (k := 8) dX12_readBind_16 e6 (by decide) (by decide) rfl fl_RX12_68 ?_
    refine wp_bipush (v := 25) dX12_readBind_19 (by decide) ?_
    refine wp_iload_n dX12_readBind_21 rfl ?_
    refine wp_iadd dX12_readBind_22 ?_
    obtain ⟨v7, e8, h⟩ := bnd h
    refine wp_iaload dX12_readBind_23 e8 ?_
    refine wp_iconst (v := 1) dX12_readBind_24 (by decide) ?_
    refine wp_icmp_le (tgt := 33) dX12_readBind_25 (by decide) (fun hc_ => ?_) (fun hc_ => ?_)
    · replace h := ite_t hc_ h
      exact wp_ls (lsS (lsS (lsN (lsN lsZ)))) (X12_readBind_J33_ok h)
    · replace h := ite_f hc_ h
      refine wp_aload_n dX12_readBind_28 rfl ?_
      refine wp_iconst (v := 4) dX12_readBind_29 (by decide) ?_
      obtain ⟨q9, e10, h⟩ := bnd h
      refine wp_callV (As := [.inl 4]) dX12_readBind_30 (sh_X12_wrong_ok (d := d + 3) e10) okX12_wrong nnX12_wrong vvX12_wrong ml_RX12_194 rfl (Nat.le_of_ble_eq_true rfl) ?_
      exact wp_ls (lsS (lsS (lsN (lsN lsZ)))) (X12_readBind_J33_ok h)

theorem sh_X12_readBind_ok {w : Gw} {d : Nat} {x0 : Nat} {M : Gm} {out : Gm} (h : sh_X12_readBind x0 M = some out) : Ev w mdX12_readBind (d + 4) [.inr x0] M (.inl none) out := by
  obtain ⟨u, e0, h⟩ := bnd h
  exact ev_of okX12_readBind ⟨_, _, rfl, isO_of e0 (by decide), by decide⟩ (Nat.le_of_ble_eq_true rfl) (X12_readBind_F_ok h)

/-! HeatGovernorModel.readOne(II)I -/
def X12_readOne_F (x0 : Nat) (x1 : Int32) (x2 : Int32) (M : Gm) : Option (Int32 × Gm) :=
  (sh_X12_oneNow x0 x1 x2 M).bind fun q1 =>
  (sh_X12_pass x0 q1.2).bind fun q3 =>
  some (q1.1, q3)
def sh_X12_readOne (x0 : Nat) (x1 : Int32) (x2 : Int32) (M : Gm) : Option (Int32 × Gm) := (isO M x0 12).bind fun _ => X12_readOne_F x0 x1 x2 M
theorem X12_readOne_F_ok {w : Gw} {d : Nat} {x0 : Nat} {x1 : Int32} {x2 : Int32} {M : Gm} {out : Int32 × Gm} (h : X12_readOne_F x0 x1 x2 M = some out) : Wp w mdX12_readOne (d + 3) 0 [some (.inr x0), some (.inl x1), some (.inl x2), none] [] M (.inl (some (.inl out.1))) out.2 := by
  unfold X12_readOne_F at h
  refine wp_aload_n dX12_readOne_0 rfl ?_
  refine wp_iload_n dX12_readOne_1 rfl ?_
  refine wp_iload_n dX12_readOne_2 rfl ?_
  obtain ⟨q1, e2, h⟩ := bnd h
  refine wp_callV (As := [.inl x1, .inl x2]) dX12_readOne_3 (sh_X12_oneNow_ok (d := d) e2) okX12_oneNow nnX12_oneNow vvX12_oneNow ml_RX12_204 rfl (Nat.le_of_ble_eq_true rfl) ?_
  refine wp_istore_n dX12_readOne_6 (Nat.le_of_ble_eq_true rfl) ?_
  refine wp_aload_n dX12_readOne_7 rfl ?_
  obtain ⟨q3, e4, h⟩ := bnd h
  refine wp_callV (As := []) dX12_readOne_8 (sh_X12_pass_ok (d := d) e4) okX12_pass nnX12_pass vvX12_pass ml_RX12_201 rfl (Nat.le_of_ble_eq_true rfl) ?_
  refine wp_iload_n dX12_readOne_11 rfl ?_
  cases h
  exact wp_iret dX12_readOne_12 rfl

theorem sh_X12_readOne_ok {w : Gw} {d : Nat} {x0 : Nat} {x1 : Int32} {x2 : Int32} {M : Gm} {out : Int32 × Gm} (h : sh_X12_readOne x0 x1 x2 M = some out) : Ev w mdX12_readOne (d + 3) [.inr x0, .inl x1, .inl x2] M (.inl (some (.inl out.1))) out.2 := by
  obtain ⟨u, e0, h⟩ := bnd h
  exact ev_of okX12_readOne ⟨_, _, rfl, isO_of e0 (by decide), by decide⟩ (Nat.le_of_ble_eq_true rfl) (X12_readOne_F_ok h)

/-! HeatGovernorModel.is(Ljava/lang/String;)Z -/
def X12_is_J75 (x0 : Nat) (x1 : Nat) (x3 : Int32) (s0 : Int32) (M : Gm) : Option ((Int32 × Int32) ⊕ Int32) :=
  some (.inl (s0, x3 + 1))
def X12_is_B39 (x0 : Nat) (x1 : Nat) (M : Gm) (q : Int32 × Int32) : Option ((Int32 × Int32) ⊕ Int32) :=
  if q.1 = 0 then
    some (.inr q.1)
  else
    (strLn x1).bind fun v1 =>
    if v1 ≤ q.2 then
      some (.inr q.1)
    else
      (strCh x1 q.2).bind fun v3 =>
      (gfR M x0 12 10).bind fun v5 =>
      (gfI M x0 12 16).bind fun v7 =>
      (ldA M 0 v5 (v7 + q.2)).bind fun v9 =>
      if v3 = v9 then
        X12_is_J75 x0 x1 q.2 1 M
      else
        X12_is_J75 x0 x1 q.2 0 M
def X12_is_J82 (x2 : Int32) (M : Gm) : Option (Int32) :=
  (zck x2).bind fun z1 =>
  some z1
def X12_is_J36 (x0 : Nat) (x1 : Nat) (s0 : Int32) (M : Gm) : Option (Int32) :=
  (lp (X12_is_B39 x0 x1 M) FU (s0, 0)).bind fun r1 =>
  X12_is_J82 r1 M
def X12_is_J35 (x0 : Nat) (x1 : Nat) (M : Gm) : Option (Int32) :=
  X12_is_J36 x0 x1 0 M
def X12_is_F (x0 : Nat) (x1 : Nat) (M : Gm) : Option (Int32) :=
  (gfI M x0 12 18).bind fun v1 =>
  if v1 = 0 then
    (gfI M x0 12 14).bind fun v3 =>
    if v3 = 1 then
      (strLn x1).bind fun v5 =>
      (gfI M x0 12 17).bind fun v7 =>
      (gfI M x0 12 16).bind fun v9 =>
      if v5 = (v7 - v9) then
        X12_is_J36 x0 x1 1 M
      else
        X12_is_J35 x0 x1 M
    else
      X12_is_J35 x0 x1 M
  else
    X12_is_J35 x0 x1 M
def sh_X12_is (x0 : Nat) (x1 : Nat) (M : Gm) : Option (Int32) := (isO M x0 12).bind fun _ => X12_is_F x0 x1 M
theorem X12_is_J75_ok {w : Gw} {d : Nat} {x0 : Nat} {x1 : Nat} {x3 : Int32} {s0 : Int32} {M : Gm} {o : Go} {M' : Gm} {out : (Int32 × Int32) ⊕ Int32} (h : X12_is_J75 x0 x1 x3 s0 M = some out) (hc : ∀ t : Int32 × Int32, out = .inl t → Wp w mdX12_is (d + 6) 39 [some (.inr x0), some (.inr x1), some (.inl t.1), some (.inl t.2)] [] M o M') (he0 : ∀ t : Int32, out = .inr t → Wp w mdX12_is (d + 6) 82 [none, none, some (.inl t), none] [] M o M') : Wp w mdX12_is (d + 6) 75 [some (.inr x0), some (.inr x1), none, some (.inl x3)] [.inl s0] M o M' := by
  unfold X12_is_J75 at h
  refine wp_istore_n dX12_is_75 (Nat.le_of_ble_eq_true rfl) ?_
  refine wp_iinc (v := x3 + 1) dX12_is_76 rfl rfl ?_
  refine wp_goto (tgt := 39) dX12_is_79 (by decide) ?_
  cases h
  exact wp_ls (lsS (lsS (lsS (lsS lsZ)))) (hc (s0, x3 + 1) rfl)

theorem X12_is_B39_ok {w : Gw} {d : Nat} {x0 : Nat} {x1 : Nat} {M : Gm} {q : Int32 × Int32} {o : Go} {M' : Gm} {out : (Int32 × Int32) ⊕ Int32} (h : X12_is_B39 x0 x1 M q = some out) (hc : ∀ t : Int32 × Int32, out = .inl t → Wp w mdX12_is (d + 6) 39 [some (.inr x0), some (.inr x1), some (.inl t.1), some (.inl t.2)] [] M o M') (he0 : ∀ t : Int32, out = .inr t → Wp w mdX12_is (d + 6) 82 [none, none, some (.inl t), none] [] M o M') : Wp w mdX12_is (d + 6) 39 [some (.inr x0), some (.inr x1), some (.inl q.1), some (.inl q.2)] [] M o M' := by
  unfold X12_is_B39 at h
  refine wp_iload_n dX12_is_39 rfl ?_
  refine wp_if_eq (tgt := 82) dX12_is_40 (by decide) (fun hc_ => ?_) (fun hc_ => ?_)
  · replace h := ite_t hc_ h
    cases h
    exact wp_ls (lsN (lsN (lsS (lsN lsZ)))) (he0 q.1 rfl)
  · replace h := ite_f hc_ h
    refine wp_iload_n dX12_is_43 rfl ?_
    refine wp_aload_n dX12_is_44 rfl ?_
    obtain ⟨v1, e2, h⟩ := bnd h
    refine wp_strLn (As := []) dX12_is_45 e2 ml_RX12_179 rfl rfl (Nat.le_of_ble_eq_true rfl) ?_
    refine wp_icmp_ge (tgt := 82) dX12_is_48 (by decide) (fun hc_ => ?_) (fun hc_ => ?_)
    · replace h := ite_t hc_ h
      cases h
      exact wp_ls (lsN (lsN (lsS (lsN lsZ)))) (he0 q.1 rfl)
    · replace h := ite_f hc_ h
      refine wp_aload_n dX12_is_51 rfl ?_
      refine wp_iload_n dX12_is_52 rfl ?_
      obtain ⟨v3, e4, h⟩ := bnd h
      refine wp_strCh (As := [.inl q.2]) dX12_is_53 e4 ml_RX12_183 rfl rfl (Nat.le_of_ble_eq_true rfl) ?_
      refine wp_aload_n dX12_is_56 rfl ?_
      obtain ⟨v5, e6, h⟩ := bnd h
      refine wp_getR (c := 12) (k := 10) dX12_is_57 e6 (by decide) (by decide) rfl fl_RX12_74 ?_
      refine wp_aload_n dX12_is_60 rfl ?_
      obtain ⟨v7, e8, h⟩ := bnd h
      refine wp_getI (c := 12) (k := 16) dX12_is_61 e8 (by decide) (by decide) rfl fl_RX12_147 ?_
      refine wp_iload_n dX12_is_64 rfl ?_
      refine wp_iadd dX12_is_65 ?_
      obtain ⟨v9, e10, h⟩ := bnd h
      refine wp_iaload dX12_is_66 e10 ?_
      refine wp_icmp_ne (tgt := 74) dX12_is_67 (by decide) (fun hc_ => ?_) (fun hc_ => ?_)
      · replace h := ite_f hc_ h
        refine wp_iconst (v := 0) dX12_is_74 (by decide) ?_
        exact wp_ls (lsS (lsS (lsN (lsS lsZ)))) (X12_is_J75_ok h hc he0)
      · replace h := ite_t hc_ h
        refine wp_iconst (v := 1) dX12_is_70 (by decide) ?_
        refine wp_goto (tgt := 75) dX12_is_71 (by decide) ?_
        exact wp_ls (lsS (lsS (lsN (lsS lsZ)))) (X12_is_J75_ok h hc he0)

theorem X12_is_B39_lp {w : Gw} {d : Nat} {x0 : Nat} {x1 : Nat} {M : Gm} {o : Go} {M' : Gm} {r : Int32} : ∀ (n : Nat) (q : Int32 × Int32), lp (X12_is_B39 x0 x1 M) n q = some r → (∀ t : Int32, r = t → Wp w mdX12_is (d + 6) 82 [none, none, some (.inl t), none] [] M o M') → Wp w mdX12_is (d + 6) 39 [some (.inr x0), some (.inr x1), some (.inl q.1), some (.inl q.2)] [] M o M' := by
  intro n
  induction n with
  | zero => intro q h; cases h
  | succ n ih =>
    intro q h he0
    cases hb : X12_is_B39 x0 x1 M q with
    | none => rw [lp_succ, hb] at h; cases h
    | some out =>
      rw [lp_succ, hb] at h
      exact X12_is_B39_ok hb (fun t e => ih t (by rw [e] at h; exact h) he0) (fun t e => he0 t (by rw [e] at h; cases h; rfl))
theorem X12_is_J82_ok {w : Gw} {d : Nat} {x2 : Int32} {M : Gm} {out : Int32} (h : X12_is_J82 x2 M = some out) : Wp w mdX12_is (d + 6) 82 [none, none, some (.inl x2), none] [] M (.inl (some (.inl out))) M := by
  unfold X12_is_J82 at h
  refine wp_iload_n dX12_is_82 rfl ?_
  obtain ⟨z1, e2, h⟩ := bnd h
  obtain ⟨hz_, rfl⟩ := zck_of e2
  cases h
  exact wp_zret dX12_is_83 rfl hz_

theorem X12_is_J36_ok {w : Gw} {d : Nat} {x0 : Nat} {x1 : Nat} {s0 : Int32} {M : Gm} {out : Int32} (h : X12_is_J36 x0 x1 s0 M = some out) : Wp w mdX12_is (d + 6) 36 [some (.inr x0), some (.inr x1), none, none] [.inl s0] M (.inl (some (.inl out))) M := by
  unfold X12_is_J36 at h
  refine wp_istore_n dX12_is_36 (Nat.le_of_ble_eq_true rfl) ?_
  refine wp_iconst (v := 0) dX12_is_37 (by decide) ?_
  refine wp_istore_n dX12_is_38 (Nat.le_of_ble_eq_true rfl) ?_
  obtain ⟨r1, e2, h⟩ := bnd h
  refine wp_ls (lsS (lsS (lsS (lsS lsZ)))) (X12_is_B39_lp FU _ e2 ?_)
  intro t_ ht_; cases ht_
  exact wp_ls (lsN (lsN (lsS (lsN lsZ)))) (X12_is_J82_ok h)

theorem X12_is_J35_ok {w : Gw} {d : Nat} {x0 : Nat} {x1 : Nat} {M : Gm} {out : Int32} (h : X12_is_J35 x0 x1 M = some out) : Wp w mdX12_is (d + 6) 35 [some (.inr x0), some (.inr x1), none, none] [] M (.inl (some (.inl out))) M := by
  unfold X12_is_J35 at h
  refine wp_iconst (v := 0) dX12_is_35 (by decide) ?_
  exact wp_ls (lsS (lsS (lsN (lsN lsZ)))) (X12_is_J36_ok h)

theorem X12_is_F_ok {w : Gw} {d : Nat} {x0 : Nat} {x1 : Nat} {M : Gm} {out : Int32} (h : X12_is_F x0 x1 M = some out) : Wp w mdX12_is (d + 6) 0 [some (.inr x0), some (.inr x1), none, none] [] M (.inl (some (.inl out))) M := by
  unfold X12_is_F at h
  refine wp_aload_n dX12_is_0 rfl ?_
  obtain ⟨v1, e2, h⟩ := bnd h
  refine wp_getI (c := 12) (k := 18) dX12_is_1 e2 (by decide) (by decide) rfl fl_RX12_173 ?_
  refine wp_if_ne (tgt := 35) dX12_is_4 (by decide) (fun hc_ => ?_) (fun hc_ => ?_)
  · replace h := ite_f hc_ h
    exact wp_ls (lsS (lsS (lsN (lsN lsZ)))) (X12_is_J35_ok h)
  · replace h := ite_t hc_ h
    refine wp_aload_n dX12_is_7 rfl ?_
    obtain ⟨v3, e4, h⟩ := bnd h
    refine wp_getI (c := 12) (k := 14) dX12_is_8 e4 (by decide) (by decide) rfl fl_RX12_150 ?_
    refine wp_iconst (v := 1) dX12_is_11 (by decide) ?_
    refine wp_icmp_ne (tgt := 35) dX12_is_12 (by decide) (fun hc_ => ?_) (fun hc_ => ?_)
    · replace h := ite_f hc_ h
      exact wp_ls (lsS (lsS (lsN (lsN lsZ)))) (X12_is_J35_ok h)
    · replace h := ite_t hc_ h
      refine wp_aload_n dX12_is_15 rfl ?_
      obtain ⟨v5, e6, h⟩ := bnd h
      refine wp_strLn (As := []) dX12_is_16 e6 ml_RX12_179 rfl rfl (Nat.le_of_ble_eq_true rfl) ?_
      refine wp_aload_n dX12_is_19 rfl ?_
      obtain ⟨v7, e8, h⟩ := bnd h
      refine wp_getI (c := 12) (k := 17) dX12_is_20 e8 (by decide) (by decide) rfl fl_RX12_170 ?_
      refine wp_aload_n dX12_is_23 rfl ?_
      obtain ⟨v9, e10, h⟩ := bnd h
      refine wp_getI (c := 12) (k := 16) dX12_is_24 e10 (by decide) (by decide) rfl fl_RX12_147 ?_
      refine wp_isub dX12_is_27 ?_
      refine wp_icmp_ne (tgt := 35) dX12_is_28 (by decide) (fun hc_ => ?_) (fun hc_ => ?_)
      · replace h := ite_f hc_ h
        exact wp_ls (lsS (lsS (lsN (lsN lsZ)))) (X12_is_J35_ok h)
      · replace h := ite_t hc_ h
        refine wp_iconst (v := 1) dX12_is_31 (by decide) ?_
        refine wp_goto (tgt := 36) dX12_is_32 (by decide) ?_
        exact wp_ls (lsS (lsS (lsN (lsN lsZ)))) (X12_is_J36_ok h)

theorem sh_X12_is_ok {w : Gw} {d : Nat} {x0 : Nat} {x1 : Nat} {M : Gm} {out : Int32} (h : sh_X12_is x0 x1 M = some out) : Ev w mdX12_is (d + 6) [.inr x0, .inr x1] M (.inl (some (.inl out))) M := by
  obtain ⟨u, e0, h⟩ := bnd h
  exact ev_of okX12_is ⟨_, _, rfl, isO_of e0 (by decide), by decide⟩ (Nat.le_of_ble_eq_true rfl) (X12_is_F_ok h)

/-! HeatGovernorModel.which([Ljava/lang/String;)I -/
def X12_which_B2 (x0 : Nat) (x1 : Nat) (M : Gm) (q : Int32) : Option (Int32 ⊕ Unit ⊕ Int32) :=
  (alen M x1).bind fun v1 =>
  if v1 ≤ q then
    some (.inr (.inl ()))
  else
    (ldR M 10 x1 q).bind fun v3 =>
    (sh_X12_is x0 v3 M).bind fun q5 =>
    if q5 = 0 then
      some (.inl (q + 1))
    else
      some (.inr (.inr q))
def X12_which_F (x0 : Nat) (x1 : Nat) (M : Gm) : Option (Int32) :=
  (lp (X12_which_B2 x0 x1 M) FU 0).bind fun r1 =>
  Sum.elim (fun u3 =>
    some ((-1))) (fun u4 =>
    some u4) r1
def sh_X12_which (x0 : Nat) (x1 : Nat) (M : Gm) : Option (Int32) := (isO M x0 12).bind fun _ => X12_which_F x0 x1 M
theorem X12_which_B2_ok {w : Gw} {d : Nat} {x0 : Nat} {x1 : Nat} {M : Gm} {q : Int32} {o : Go} {M' : Gm} {out : Int32 ⊕ Unit ⊕ Int32} (h : X12_which_B2 x0 x1 M q = some out) (hc : ∀ t : Int32, out = .inl t → Wp w mdX12_which (d + 7) 2 [some (.inr x0), some (.inr x1), some (.inl t)] [] M o M') (he0 : ∀ t : Unit, out = .inr (.inl t) → Wp w mdX12_which (d + 7) 26 [none, none, none] [] M o M') (he1 : ∀ t : Int32, out = .inr (.inr t) → Wp w mdX12_which (d + 7) 18 [none, none, some (.inl t)] [] M o M') : Wp w mdX12_which (d + 7) 2 [some (.inr x0), some (.inr x1), some (.inl q)] [] M o M' := by
  unfold X12_which_B2 at h
  refine wp_iload_n dX12_which_2 rfl ?_
  refine wp_aload_n dX12_which_3 rfl ?_
  obtain ⟨v1, e2, h⟩ := bnd h
  refine wp_alen dX12_which_4 e2 ?_
  refine wp_icmp_ge (tgt := 26) dX12_which_5 (by decide) (fun hc_ => ?_) (fun hc_ => ?_)
  · replace h := ite_t hc_ h
    cases h
    exact wp_ls (lsN (lsN (lsN lsZ))) (he0 () rfl)
  · replace h := ite_f hc_ h
    refine wp_aload_n dX12_which_8 rfl ?_
    refine wp_aload_n dX12_which_9 rfl ?_
    refine wp_iload_n dX12_which_10 rfl ?_
    obtain ⟨v3, e4, h⟩ := bnd h
    refine wp_aaload (t := 10) dX12_which_11 (by decide) rfl e4 ?_
    obtain ⟨q5, e6, h⟩ := bnd h
    refine wp_callV (As := [.inr v3]) dX12_which_12 (sh_X12_is_ok (d := d) e6) okX12_is nnX12_is vvX12_is ml_RX12_187 rfl (Nat.le_of_ble_eq_true rfl) ?_
    refine wp_if_eq (tgt := 20) dX12_which_15 (by decide) (fun hc_ => ?_) (fun hc_ => ?_)
    · replace h := ite_t hc_ h
      refine wp_iinc (v := q + 1) dX12_which_20 rfl rfl ?_
      refine wp_goto (tgt := 2) dX12_which_23 (by decide) ?_
      cases h
      exact wp_ls (lsS (lsS (lsS lsZ))) (hc (q + 1) rfl)
    · replace h := ite_f hc_ h
      cases h
      exact wp_ls (lsN (lsN (lsS lsZ))) (he1 q rfl)

theorem X12_which_B2_lp {w : Gw} {d : Nat} {x0 : Nat} {x1 : Nat} {M : Gm} {o : Go} {M' : Gm} {r : Unit ⊕ Int32} : ∀ (n : Nat) (q : Int32), lp (X12_which_B2 x0 x1 M) n q = some r → (∀ t : Unit, r = (.inl t) → Wp w mdX12_which (d + 7) 26 [none, none, none] [] M o M') → (∀ t : Int32, r = (.inr t) → Wp w mdX12_which (d + 7) 18 [none, none, some (.inl t)] [] M o M') → Wp w mdX12_which (d + 7) 2 [some (.inr x0), some (.inr x1), some (.inl q)] [] M o M' := by
  intro n
  induction n with
  | zero => intro q h; cases h
  | succ n ih =>
    intro q h he0 he1
    cases hb : X12_which_B2 x0 x1 M q with
    | none => rw [lp_succ, hb] at h; cases h
    | some out =>
      rw [lp_succ, hb] at h
      exact X12_which_B2_ok hb (fun t e => ih t (by rw [e] at h; exact h) he0 he1) (fun t e => he0 t (by rw [e] at h; cases h; rfl)) (fun t e => he1 t (by rw [e] at h; cases h; rfl))
theorem X12_which_F_ok {w : Gw} {d : Nat} {x0 : Nat} {x1 : Nat} {M : Gm} {out : Int32} (h : X12_which_F x0 x1 M = some out) : Wp w mdX12_which (d + 7) 0 [some (.inr x0), some (.inr x1), none] [] M (.inl (some (.inl out))) M := by
  unfold X12_which_F at h
  refine wp_iconst (v := 0) dX12_which_0 (by decide) ?_
  refine wp_istore_n dX12_which_1 (Nat.le_of_ble_eq_true rfl) ?_
  obtain ⟨r1, e2, h⟩ := bnd h
  refine wp_ls (lsS (lsS (lsS lsZ))) (X12_which_B2_lp FU _ e2 ?_ ?_)
  · intro y3 ht_; subst ht_
    replace h := elim_l h
    refine wp_iconst (v := (-1)) dX12_which_26 (by decide) ?_
    cases h
    exact wp_iret dX12_which_27 rfl
  · intro y4 ht_; subst ht_
    replace h := elim_r h
    refine wp_iload_n dX12_which_18 rfl ?_
    cases h
    exact wp_iret dX12_which_19 rfl

theorem sh_X12_which_ok {w : Gw} {d : Nat} {x0 : Nat} {x1 : Nat} {M : Gm} {out : Int32} (h : sh_X12_which x0 x1 M = some out) : Ev w mdX12_which (d + 7) [.inr x0, .inr x1] M (.inl (some (.inl out))) M := by
  obtain ⟨u, e0, h⟩ := bnd h
  exact ev_of okX12_which ⟨_, _, rfl, isO_of e0 (by decide), by decide⟩ (Nat.le_of_ble_eq_true rfl) (X12_which_F_ok h)

/-! HeatGovernorModel.readWord([Ljava/lang/String;)I -/
def X12_readWord_J16 (x0 : Nat) (x2 : Int32) (M : Gm) : Option (Int32 × Gm) :=
  (sh_X12_pass x0 M).bind fun q1 =>
  some (x2, q1)
def X12_readWord_F (x0 : Nat) (x1 : Nat) (M : Gm) : Option (Int32 × Gm) :=
  (sh_X12_which x0 x1 M).bind fun q1 =>
  if q1 = ((-1)) then
    (sh_X12_wrong x0 1 M).bind fun q3 =>
    X12_readWord_J16 x0 q1 q3
  else
    X12_readWord_J16 x0 q1 M
def sh_X12_readWord (x0 : Nat) (x1 : Nat) (M : Gm) : Option (Int32 × Gm) := (isO M x0 12).bind fun _ => X12_readWord_F x0 x1 M
theorem X12_readWord_J16_ok {w : Gw} {d : Nat} {x0 : Nat} {x2 : Int32} {M : Gm} {out : Int32 × Gm} (h : X12_readWord_J16 x0 x2 M = some out) : Wp w mdX12_readWord (d + 8) 16 [some (.inr x0), none, some (.inl x2)] [] M (.inl (some (.inl out.1))) out.2 := by
  unfold X12_readWord_J16 at h
  refine wp_aload_n dX12_readWord_16 rfl ?_
  obtain ⟨q1, e2, h⟩ := bnd h
  refine wp_callV (As := []) dX12_readWord_17 (sh_X12_pass_ok (d := d + 5) e2) okX12_pass nnX12_pass vvX12_pass ml_RX12_201 rfl (Nat.le_of_ble_eq_true rfl) ?_
  refine wp_iload_n dX12_readWord_20 rfl ?_
  cases h
  exact wp_iret dX12_readWord_21 rfl

theorem X12_readWord_F_ok {w : Gw} {d : Nat} {x0 : Nat} {x1 : Nat} {M : Gm} {out : Int32 × Gm} (h : X12_readWord_F x0 x1 M = some out) : Wp w mdX12_readWord (d + 8) 0 [some (.inr x0), some (.inr x1), none] [] M (.inl (some (.inl out.1))) out.2 := by
  unfold X12_readWord_F at h
  refine wp_aload_n dX12_readWord_0 rfl ?_
  refine wp_aload_n dX12_readWord_1 rfl ?_
  obtain ⟨q1, e2, h⟩ := bnd h
  refine wp_callV (As := [.inr x1]) dX12_readWord_2 (sh_X12_which_ok (d := d) e2) okX12_which nnX12_which vvX12_which ml_RX12_207 rfl (Nat.le_of_ble_eq_true rfl) ?_
  refine wp_istore_n dX12_readWord_5 (Nat.le_of_ble_eq_true rfl) ?_
  refine wp_iload_n dX12_readWord_6 rfl ?_
  refine wp_iconst (v := (-1)) dX12_readWord_7 (by decide) ?_
  refine wp_icmp_ne (tgt := 16) dX12_readWord_8 (by decide) (fun hc_ => ?_) (fun hc_ => ?_)
  · replace h := ite_f hc_ h
    exact wp_ls (lsS (lsN (lsS lsZ))) (X12_readWord_J16_ok h)
  · replace h := ite_t hc_ h
    refine wp_aload_n dX12_readWord_11 rfl ?_
    refine wp_iconst (v := 1) dX12_readWord_12 (by decide) ?_
    obtain ⟨q3, e4, h⟩ := bnd h
    refine wp_callV (As := [.inl 1]) dX12_readWord_13 (sh_X12_wrong_ok (d := d + 7) e4) okX12_wrong nnX12_wrong vvX12_wrong ml_RX12_194 rfl (Nat.le_of_ble_eq_true rfl) ?_
    exact wp_ls (lsS (lsN (lsS lsZ))) (X12_readWord_J16_ok h)

theorem sh_X12_readWord_ok {w : Gw} {d : Nat} {x0 : Nat} {x1 : Nat} {M : Gm} {out : Int32 × Gm} (h : sh_X12_readWord x0 x1 M = some out) : Ev w mdX12_readWord (d + 8) [.inr x0, .inr x1] M (.inl (some (.inl out.1))) out.2 := by
  obtain ⟨u, e0, h⟩ := bnd h
  exact ev_of okX12_readWord ⟨_, _, rfl, isO_of e0 (by decide), by decide⟩ (Nat.le_of_ble_eq_true rfl) (X12_readWord_F_ok h)

/-! HeatGovernorModel.readDevice()V -/
def X12_readDevice_F (x0 : Nat) (M : Gm) : Option (Gm) :=
  (gfR M x0 12 8).bind fun v1 =>
  (ldA M 0 v1 165).bind fun v3 =>
  (gfR M x0 12 8).bind fun v5 =>
  (gfR M x0 12 3).bind fun v7 =>
  (sh_X12_readWord x0 v7 M).bind fun q9 =>
  (stA q9.2 0 v5 (55 + v3) q9.1).bind fun M11 =>
  (gfR M11 x0 12 8).bind fun v13 =>
  (sh_X12_readOne x0 5 0 M11).bind fun q15 =>
  (stA q15.2 0 v13 (61 + v3) q15.1).bind fun M17 =>
  (gfR M17 x0 12 8).bind fun v19 =>
  (sh_X12_readNumber x0 1 9 M17).bind fun q21 =>
  (stA q21.2 0 v19 (67 + v3) q21.1).bind fun M23 =>
  (gfR M23 x0 12 8).bind fun v25 =>
  (sh_X12_readNumber x0 1 30 M23).bind fun q27 =>
  (stA q27.2 0 v25 (73 + v3) q27.1).bind fun M29 =>
  some M29
def sh_X12_readDevice (x0 : Nat) (M : Gm) : Option (Gm) := (isO M x0 12).bind fun _ => X12_readDevice_F x0 M
theorem X12_readDevice_F_ok {w : Gw} {d : Nat} {x0 : Nat} {M : Gm} {out : Gm} (h : X12_readDevice_F x0 M = some out) : Wp w mdX12_readDevice (d + 9) 0 [some (.inr x0), none] [] M (.inl none) out := by
  unfold X12_readDevice_F at h
  refine wp_aload_n dX12_readDevice_0 rfl ?_
  obtain ⟨v1, e2, h⟩ := bnd h
  refine wp_getR (c := 12) (k := 8) dX12_readDevice_1 e2 (by decide) (by decide) rfl fl_RX12_68 ?_
  refine wp_sipush (v := 165) dX12_readDevice_4 (by decide) ?_
  obtain ⟨v3, e4, h⟩ := bnd h
  refine wp_iaload dX12_readDevice_7 e4 ?_
  refine wp_istore_n dX12_readDevice_8 (Nat.le_of_ble_eq_true rfl) ?_
  refine wp_aload_n dX12_readDevice_9 rfl ?_
  obtain ⟨v5, e6, h⟩ := bnd h
  refine wp_getR (c := 12) (k := 8) dX12_readDevice_10 e6 (by decide) (by decide) rfl fl_RX12_68 ?_
  refine wp_bipush (v := 55) dX12_readDevice_13 (by decide) ?_
  refine wp_iload_n dX12_readDevice_15 rfl ?_
  refine wp_iadd dX12_readDevice_16 ?_
  refine wp_aload_n dX12_readDevice_17 rfl ?_
  refine wp_aload_n dX12_readDevice_18 rfl ?_
  obtain ⟨v7, e8, h⟩ := bnd h
  refine wp_getR (c := 12) (k := 3) dX12_readDevice_19 e8 (by decide) (by decide) rfl fl_RX12_55 ?_
  obtain ⟨q9, e10, h⟩ := bnd h
  refine wp_callV (As := [.inr v7]) dX12_readDevice_22 (sh_X12_readWord_ok (d := d) e10) okX12_readWord nnX12_readWord vvX12_readWord ml_RX12_220 rfl (Nat.le_of_ble_eq_true rfl) ?_
  obtain ⟨M11, e12, h⟩ := bnd h
  refine wp_iastore dX12_readDevice_25 e12 ?_
  refine wp_aload_n dX12_readDevice_26 rfl ?_
  obtain ⟨v13, e14, h⟩ := bnd h
  refine wp_getR (c := 12) (k := 8) dX12_readDevice_27 e14 (by decide) (by decide) rfl fl_RX12_68 ?_
  refine wp_bipush (v := 61) dX12_readDevice_30 (by decide) ?_
  refine wp_iload_n dX12_readDevice_32 rfl ?_
  refine wp_iadd dX12_readDevice_33 ?_
  refine wp_aload_n dX12_readDevice_34 rfl ?_
  refine wp_iconst (v := 5) dX12_readDevice_35 (by decide) ?_
  refine wp_iconst (v := 0) dX12_readDevice_36 (by decide) ?_
  obtain ⟨q15, e16, h⟩ := bnd h
  refine wp_callV (As := [.inl 5, .inl 0]) dX12_readDevice_37 (sh_X12_readOne_ok (d := d + 5) e16) okX12_readOne nnX12_readOne vvX12_readOne ml_RX12_214 rfl (Nat.le_of_ble_eq_true rfl) ?_
  obtain ⟨M17, e18, h⟩ := bnd h
  refine wp_iastore dX12_readDevice_40 e18 ?_
  refine wp_aload_n dX12_readDevice_41 rfl ?_
  obtain ⟨v19, e20, h⟩ := bnd h
  refine wp_getR (c := 12) (k := 8) dX12_readDevice_42 e20 (by decide) (by decide) rfl fl_RX12_68 ?_
  refine wp_bipush (v := 67) dX12_readDevice_45 (by decide) ?_
  refine wp_iload_n dX12_readDevice_47 rfl ?_
  refine wp_iadd dX12_readDevice_48 ?_
  refine wp_aload_n dX12_readDevice_49 rfl ?_
  refine wp_iconst (v := 1) dX12_readDevice_50 (by decide) ?_
  refine wp_bipush (v := 9) dX12_readDevice_51 (by decide) ?_
  obtain ⟨q21, e22, h⟩ := bnd h
  refine wp_callV (As := [.inl 1, .inl 9]) dX12_readDevice_53 (sh_X12_readNumber_ok (d := d + 5) e22) okX12_readNumber nnX12_readNumber vvX12_readNumber ml_RX12_211 rfl (Nat.le_of_ble_eq_true rfl) ?_
  obtain ⟨M23, e24, h⟩ := bnd h
  refine wp_iastore dX12_readDevice_56 e24 ?_
  refine wp_aload_n dX12_readDevice_57 rfl ?_
  obtain ⟨v25, e26, h⟩ := bnd h
  refine wp_getR (c := 12) (k := 8) dX12_readDevice_58 e26 (by decide) (by decide) rfl fl_RX12_68 ?_
  refine wp_bipush (v := 73) dX12_readDevice_61 (by decide) ?_
  refine wp_iload_n dX12_readDevice_63 rfl ?_
  refine wp_iadd dX12_readDevice_64 ?_
  refine wp_aload_n dX12_readDevice_65 rfl ?_
  refine wp_iconst (v := 1) dX12_readDevice_66 (by decide) ?_
  refine wp_bipush (v := 30) dX12_readDevice_67 (by decide) ?_
  obtain ⟨q27, e28, h⟩ := bnd h
  refine wp_callV (As := [.inl 1, .inl 30]) dX12_readDevice_69 (sh_X12_readNumber_ok (d := d + 5) e28) okX12_readNumber nnX12_readNumber vvX12_readNumber ml_RX12_211 rfl (Nat.le_of_ble_eq_true rfl) ?_
  obtain ⟨M29, e30, h⟩ := bnd h
  refine wp_iastore dX12_readDevice_72 e30 ?_
  cases h
  exact wp_ret dX12_readDevice_73 rfl

theorem sh_X12_readDevice_ok {w : Gw} {d : Nat} {x0 : Nat} {M : Gm} {out : Gm} (h : sh_X12_readDevice x0 M = some out) : Ev w mdX12_readDevice (d + 9) [.inr x0] M (.inl none) out := by
  obtain ⟨u, e0, h⟩ := bnd h
  exact ev_of okX12_readDevice ⟨_, _, rfl, isO_of e0 (by decide), by decide⟩ (Nat.le_of_ble_eq_true rfl) (X12_readDevice_F_ok h)

/-! HeatGovernorModel.hasCritical(I)Z -/
def X12_hasCritical_J51 (x0 : Nat) (x1 : Int32) (x3 : Int32) (s0 : Int32) (M : Gm) : Option ((Int32 × Int32) ⊕ Int32) :=
  some (.inl (s0, x3 + 1))
def X12_hasCritical_J46 (x0 : Nat) (x1 : Int32) (x3 : Int32) (M : Gm) : Option ((Int32 × Int32) ⊕ Int32) :=
  X12_hasCritical_J51 x0 x1 x3 1 M
def X12_hasCritical_J50 (x0 : Nat) (x1 : Int32) (x3 : Int32) (M : Gm) : Option ((Int32 × Int32) ⊕ Int32) :=
  X12_hasCritical_J51 x0 x1 x3 0 M
def X12_hasCritical_B4 (x0 : Nat) (x1 : Int32) (M : Gm) (q : Int32 × Int32) : Option ((Int32 × Int32) ⊕ Int32) :=
  (gfR M x0 12 8).bind fun v1 =>
  (ldA M 0 v1 164).bind fun v3 =>
  if v3 ≤ q.2 then
    some (.inr q.1)
  else
    if q.1 = 0 then
      (gfR M x0 12 8).bind fun v5 =>
      (ldA M 0 v5 (25 + q.2)).bind fun v7 =>
      if v7 = 3 then
        (gfR M x0 12 8).bind fun v9 =>
        (ldA M 0 v9 (15 + q.2)).bind fun v11 =>
        if v11 = x1 then
          X12_hasCritical_J46 x0 x1 q.2 M
        else
          X12_hasCritical_J50 x0 x1 q.2 M
      else
        X12_hasCritical_J50 x0 x1 q.2 M
    else
      X12_hasCritical_J46 x0 x1 q.2 M
def X12_hasCritical_F (x0 : Nat) (x1 : Int32) (M : Gm) : Option (Int32) :=
  (lp (X12_hasCritical_B4 x0 x1 M) FU (0, 0)).bind fun r1 =>
  (zck r1).bind fun z3 =>
  some z3
def sh_X12_hasCritical (x0 : Nat) (x1 : Int32) (M : Gm) : Option (Int32) := (isO M x0 12).bind fun _ => X12_hasCritical_F x0 x1 M
theorem X12_hasCritical_J51_ok {w : Gw} {d : Nat} {x0 : Nat} {x1 : Int32} {x3 : Int32} {s0 : Int32} {M : Gm} {o : Go} {M' : Gm} {out : (Int32 × Int32) ⊕ Int32} (h : X12_hasCritical_J51 x0 x1 x3 s0 M = some out) (hc : ∀ t : Int32 × Int32, out = .inl t → Wp w mdX12_hasCritical d 4 [some (.inr x0), some (.inl x1), some (.inl t.1), some (.inl t.2)] [] M o M') (he0 : ∀ t : Int32, out = .inr t → Wp w mdX12_hasCritical d 58 [none, none, some (.inl t), none] [] M o M') : Wp w mdX12_hasCritical d 51 [some (.inr x0), some (.inl x1), none, some (.inl x3)] [.inl s0] M o M' := by
  unfold X12_hasCritical_J51 at h
  refine wp_istore_n dX12_hasCritical_51 (Nat.le_of_ble_eq_true rfl) ?_
  refine wp_iinc (v := x3 + 1) dX12_hasCritical_52 rfl rfl ?_
  refine wp_goto (tgt := 4) dX12_hasCritical_55 (by decide) ?_
  cases h
  exact wp_ls (lsS (lsS (lsS (lsS lsZ)))) (hc (s0, x3 + 1) rfl)

theorem X12_hasCritical_J46_ok {w : Gw} {d : Nat} {x0 : Nat} {x1 : Int32} {x3 : Int32} {M : Gm} {o : Go} {M' : Gm} {out : (Int32 × Int32) ⊕ Int32} (h : X12_hasCritical_J46 x0 x1 x3 M = some out) (hc : ∀ t : Int32 × Int32, out = .inl t → Wp w mdX12_hasCritical d 4 [some (.inr x0), some (.inl x1), some (.inl t.1), some (.inl t.2)] [] M o M') (he0 : ∀ t : Int32, out = .inr t → Wp w mdX12_hasCritical d 58 [none, none, some (.inl t), none] [] M o M') : Wp w mdX12_hasCritical d 46 [some (.inr x0), some (.inl x1), none, some (.inl x3)] [] M o M' := by
  unfold X12_hasCritical_J46 at h
  refine wp_iconst (v := 1) dX12_hasCritical_46 (by decide) ?_
  refine wp_goto (tgt := 51) dX12_hasCritical_47 (by decide) ?_
  exact wp_ls (lsS (lsS (lsN (lsS lsZ)))) (X12_hasCritical_J51_ok h hc he0)

theorem X12_hasCritical_J50_ok {w : Gw} {d : Nat} {x0 : Nat} {x1 : Int32} {x3 : Int32} {M : Gm} {o : Go} {M' : Gm} {out : (Int32 × Int32) ⊕ Int32} (h : X12_hasCritical_J50 x0 x1 x3 M = some out) (hc : ∀ t : Int32 × Int32, out = .inl t → Wp w mdX12_hasCritical d 4 [some (.inr x0), some (.inl x1), some (.inl t.1), some (.inl t.2)] [] M o M') (he0 : ∀ t : Int32, out = .inr t → Wp w mdX12_hasCritical d 58 [none, none, some (.inl t), none] [] M o M') : Wp w mdX12_hasCritical d 50 [some (.inr x0), some (.inl x1), none, some (.inl x3)] [] M o M' := by
  unfold X12_hasCritical_J50 at h
  refine wp_iconst (v := 0) dX12_hasCritical_50 (by decide) ?_
  exact wp_ls (lsS (lsS (lsN (lsS lsZ)))) (X12_hasCritical_J51_ok h hc he0)

theorem X12_hasCritical_B4_ok {w : Gw} {d : Nat} {x0 : Nat} {x1 : Int32} {M : Gm} {q : Int32 × Int32} {o : Go} {M' : Gm} {out : (Int32 × Int32) ⊕ Int32} (h : X12_hasCritical_B4 x0 x1 M q = some out) (hc : ∀ t : Int32 × Int32, out = .inl t → Wp w mdX12_hasCritical d 4 [some (.inr x0), some (.inl x1), some (.inl t.1), some (.inl t.2)] [] M o M') (he0 : ∀ t : Int32, out = .inr t → Wp w mdX12_hasCritical d 58 [none, none, some (.inl t), none] [] M o M') : Wp w mdX12_hasCritical d 4 [some (.inr x0), some (.inl x1), some (.inl q.1), some (.inl q.2)] [] M o M' := by
  unfold X12_hasCritical_B4 at h
  refine wp_iload_n dX12_hasCritical_4 rfl ?_
  refine wp_aload_n dX12_hasCritical_5 rfl ?_
  obtain ⟨v1, e2, h⟩ := bnd h
  refine wp_getR (c := 12) (k := 8) dX12_hasCritical_6 e2 (by decide) (by decide) rfl fl_RX12_68 ?_
  refine wp_sipush (v := 164) dX12_hasCritical_9 (by decide) ?_
  obtain ⟨v3, e4, h⟩ := bnd h
  refine wp_iaload dX12_hasCritical_12 e4 ?_
  refine wp_icmp_ge (tgt := 58) dX12_hasCritical_13 (by decide) (fun hc_ => ?_) (fun hc_ => ?_)
  · replace h := ite_t hc_ h
    cases h
    exact wp_ls (lsN (lsN (lsS (lsN lsZ)))) (he0 q.1 rfl)
  · replace h := ite_f hc_ h
    refine wp_iload_n dX12_hasCritical_16 rfl ?_
    refine wp_if_ne (tgt := 46) dX12_hasCritical_17 (by decide) (fun hc_ => ?_) (fun hc_ => ?_)
    · replace h := ite_f hc_ h
      exact wp_ls (lsS (lsS (lsN (lsS lsZ)))) (X12_hasCritical_J46_ok h hc he0)
    · replace h := ite_t hc_ h
      refine wp_aload_n dX12_hasCritical_20 rfl ?_
      obtain ⟨v5, e6, h⟩ := bnd h
      refine wp_getR (c := 12) (k := 8) dX12_hasCritical_21 e6 (by decide) (by decide) rfl fl_RX12_68 ?_
      refine wp_bipush (v := 25) dX12_hasCritical_24 (by decide) ?_
      refine wp_iload_n dX12_hasCritical_26 rfl ?_
      refine wp_iadd dX12_hasCritical_27 ?_
      obtain ⟨v7, e8, h⟩ := bnd h
      refine wp_iaload dX12_hasCritical_28 e8 ?_
      refine wp_iconst (v := 3) dX12_hasCritical_29 (by decide) ?_
      refine wp_icmp_ne (tgt := 50) dX12_hasCritical_30 (by decide) (fun hc_ => ?_) (fun hc_ => ?_)
      · replace h := ite_f hc_ h
        exact wp_ls (lsS (lsS (lsN (lsS lsZ)))) (X12_hasCritical_J50_ok h hc he0)
      · replace h := ite_t hc_ h
        refine wp_aload_n dX12_hasCritical_33 rfl ?_
        obtain ⟨v9, e10, h⟩ := bnd h
        refine wp_getR (c := 12) (k := 8) dX12_hasCritical_34 e10 (by decide) (by decide) rfl fl_RX12_68 ?_
        refine wp_bipush (v := 15) dX12_hasCritical_37 (by decide) ?_
        refine wp_iload_n dX12_hasCritical_39 rfl ?_
        refine wp_iadd dX12_hasCritical_40 ?_
        obtain ⟨v11, e12, h⟩ := bnd h
        refine wp_iaload dX12_hasCritical_41 e12 ?_
        refine wp_iload_n dX12_hasCritical_42 rfl ?_
        refine wp_icmp_ne (tgt := 50) dX12_hasCritical_43 (by decide) (fun hc_ => ?_) (fun hc_ => ?_)
        · replace h := ite_f hc_ h
          exact wp_ls (lsS (lsS (lsN (lsS lsZ)))) (X12_hasCritical_J50_ok h hc he0)
        · replace h := ite_t hc_ h
          exact wp_ls (lsS (lsS (lsN (lsS lsZ)))) (X12_hasCritical_J46_ok h hc he0)

theorem X12_hasCritical_B4_lp {w : Gw} {d : Nat} {x0 : Nat} {x1 : Int32} {M : Gm} {o : Go} {M' : Gm} {r : Int32} : ∀ (n : Nat) (q : Int32 × Int32), lp (X12_hasCritical_B4 x0 x1 M) n q = some r → (∀ t : Int32, r = t → Wp w mdX12_hasCritical d 58 [none, none, some (.inl t), none] [] M o M') → Wp w mdX12_hasCritical d 4 [some (.inr x0), some (.inl x1), some (.inl q.1), some (.inl q.2)] [] M o M' := by
  intro n
  induction n with
  | zero => intro q h; cases h
  | succ n ih =>
    intro q h he0
    cases hb : X12_hasCritical_B4 x0 x1 M q with
    | none => rw [lp_succ, hb] at h; cases h
    | some out =>
      rw [lp_succ, hb] at h
      exact X12_hasCritical_B4_ok hb (fun t e => ih t (by rw [e] at h; exact h) he0) (fun t e => he0 t (by rw [e] at h; cases h; rfl))
theorem X12_hasCritical_F_ok {w : Gw} {d : Nat} {x0 : Nat} {x1 : Int32} {M : Gm} {out : Int32} (h : X12_hasCritical_F x0 x1 M = some out) : Wp w mdX12_hasCritical d 0 [some (.inr x0), some (.inl x1), none, none] [] M (.inl (some (.inl out))) M := by
  unfold X12_hasCritical_F at h
  refine wp_iconst (v := 0) dX12_hasCritical_0 (by decide) ?_
  refine wp_istore_n dX12_hasCritical_1 (Nat.le_of_ble_eq_true rfl) ?_
  refine wp_iconst (v := 0) dX12_hasCritical_2 (by decide) ?_
  refine wp_istore_n dX12_hasCritical_3 (Nat.le_of_ble_eq_true rfl) ?_
  obtain ⟨r1, e2, h⟩ := bnd h
  refine wp_ls (lsS (lsS (lsS (lsS lsZ)))) (X12_hasCritical_B4_lp FU _ e2 ?_)
  intro t_ ht_; cases ht_
  refine wp_iload_n dX12_hasCritical_58 rfl ?_
  obtain ⟨z3, e4, h⟩ := bnd h
  obtain ⟨hz_, rfl⟩ := zck_of e4
  cases h
  exact wp_zret dX12_hasCritical_59 rfl hz_

theorem sh_X12_hasCritical_ok {w : Gw} {d : Nat} {x0 : Nat} {x1 : Int32} {M : Gm} {out : Int32} (h : sh_X12_hasCritical x0 x1 M = some out) : Ev w mdX12_hasCritical d [.inr x0, .inl x1] M (.inl (some (.inl out))) M := by
  obtain ⟨u, e0, h⟩ := bnd h
  exact ev_of okX12_hasCritical ⟨_, _, rfl, isO_of e0 (by decide), by decide⟩ (Nat.le_of_ble_eq_true rfl) (X12_hasCritical_F_ok h)

/-! HeatGovernorModel.readTrip()V -/
def X12_readTrip_J53 (x0 : Nat) (x1 : Int32) (x2 : Int32) (x3 : Int32) (M : Gm) : Option (Gm) :=
  (sh_X12_pass x0 M).bind fun q1 =>
  (gfR q1 x0 12 8).bind fun v3 =>
  (stA q1 0 v3 (15 + x1) x2).bind fun M5 =>
  (gfR M5 x0 12 8).bind fun v7 =>
  (stA M5 0 v7 (25 + x1) x3).bind fun M9 =>
  (gfR M9 x0 12 8).bind fun v11 =>
  (sh_X12_readNumber x0 200 999 M9).bind fun q13 =>
  (stA q13.2 0 v11 (35 + x1) q13.1).bind fun M15 =>
  (gfR M15 x0 12 8).bind fun v17 =>
  (sh_X12_readNumber x0 0 99 M15).bind fun q19 =>
  (stA q19.2 0 v17 (45 + x1) q19.1).bind fun M21 =>
  some M21
def X12_readTrip_J35 (x0 : Nat) (x1 : Int32) (x2 : Int32) (x3 : Int32) (M : Gm) : Option (Gm) :=
  if x3 = 3 then
    (sh_X12_hasCritical x0 x2 M).bind fun q1 =>
    if q1 = 0 then
      X12_readTrip_J53 x0 x1 x2 x3 M
    else
      (sh_X12_wrong x0 4 M).bind fun q3 =>
      X12_readTrip_J53 x0 x1 x2 x3 q3
  else
    X12_readTrip_J53 x0 x1 x2 x3 M
def X12_readTrip_F (x0 : Nat) (M : Gm) : Option (Gm) :=
  (gfR M x0 12 8).bind fun v1 =>
  (ldA M 0 v1 164).bind fun v3 =>
  (sh_X12_readOne x0 5 0 M).bind fun q5 =>
  (gfR q5.2 x0 12 2).bind fun v7 =>
  (sh_X12_which x0 v7 q5.2).bind fun q9 =>
  if q9 = ((-1)) then
    (sh_X12_wrong x0 1 q5.2).bind fun q11 =>
    X12_readTrip_J35 x0 v3 q5.1 q9 q11
  else
    X12_readTrip_J35 x0 v3 q5.1 q9 q5.2
def sh_X12_readTrip (x0 : Nat) (M : Gm) : Option (Gm) := (isO M x0 12).bind fun _ => X12_readTrip_F x0 M
theorem X12_readTrip_J53_ok {w : Gw} {d : Nat} {x0 : Nat} {x1 : Int32} {x2 : Int32} {x3 : Int32} {M : Gm} {out : Gm} (h : X12_readTrip_J53 x0 x1 x2 x3 M = some out) : Wp w mdX12_readTrip (d + 8) 53 [some (.inr x0), some (.inl x1), some (.inl x2), some (.inl x3)] [] M (.inl none) out := by
  unfold X12_readTrip_J53 at h
  refine wp_aload_n dX12_readTrip_53 rfl ?_
  obtain ⟨q1, e2, h⟩ := bnd h
  refine wp_callV (As := []) dX12_readTrip_54 (sh_X12_pass_ok (d := d + 5) e2) okX12_pass nnX12_pass vvX12_pass ml_RX12_201 rfl (Nat.le_of_ble_eq_true rfl) ?_
  refine wp_aload_n dX12_readTrip_57 rfl ?_
  obtain ⟨v3, e4, h⟩ := bnd h
  refine wp_getR (c := 12) (k := 8) dX12_readTrip_58 e4 (by decide) (by decide) rfl fl_RX12_68 ?_
  refine wp_bipush (v := 15) dX12_readTrip_61 (by decide) ?_
  refine wp_iload_n dX12_readTrip_63 rfl ?_
  refine wp_iadd dX12_readTrip_64 ?_
  refine wp_iload_n dX12_readTrip_65 rfl ?_
  obtain ⟨M5, e6, h⟩ := bnd h
  refine wp_iastore dX12_readTrip_66 e6 ?_
  refine wp_aload_n dX12_readTrip_67 rfl ?_
  obtain ⟨v7, e8, h⟩ := bnd h
  refine wp_getR (c := 12) (k := 8) dX12_readTrip_68 e8 (by decide) (by decide) rfl fl_RX12_68 ?_
  refine wp_bipush (v := 25) dX12_readTrip_71 (by decide) ?_
  refine wp_iload_n dX12_readTrip_73 rfl ?_
  refine wp_iadd dX12_readTrip_74 ?_
  refine wp_iload_n dX12_readTrip_75 rfl ?_
  obtain ⟨M9, e10, h⟩ := bnd h
  refine wp_iastore dX12_readTrip_76 e10 ?_
  refine wp_aload_n dX12_readTrip_77 rfl ?_
  obtain ⟨v11, e12, h⟩ := bnd h
  refine wp_getR (c := 12) (k := 8) dX12_readTrip_78 e12 (by decide) (by decide) rfl fl_RX12_68 ?_
  refine wp_bipush (v := 35) dX12_readTrip_81 (by decide) ?_
  refine wp_iload_n dX12_readTrip_83 rfl ?_
  refine wp_iadd dX12_readTrip_84 ?_
  refine wp_aload_n dX12_readTrip_85 rfl ?_
  refine wp_sipush (v := 200) dX12_readTrip_86 (by decide) ?_
  refine wp_sipush (v := 999) dX12_readTrip_89 (by decide) ?_
  obtain ⟨q13, e14, h⟩ := bnd h
  refine wp_callV (As := [.inl 200, .inl 999]) dX12_readTrip_92 (sh_X12_readNumber_ok (d := d + 4) e14) okX12_readNumber nnX12_readNumber vvX12_readNumber ml_RX12_211 rfl (Nat.le_of_ble_eq_true rfl) ?_
  obtain ⟨M15, e16, h⟩ := bnd h
  refine wp_iastore dX12_readTrip_95 e16 ?_
  refine wp_aload_n dX12_readTrip_96 rfl ?_
  obtain ⟨v17, e18, h⟩ := bnd h
  refine wp_getR (c := 12) (k := 8) dX12_readTrip_97 e18 (by decide) (by decide) rfl fl_RX12_68 ?_
  refine wp_bipush (v := 45) dX12_readTrip_100 (by decide) ?_
  refine wp_iload_n dX12_readTrip_102 rfl ?_
  refine wp_iadd dX12_readTrip_103 ?_
  refine wp_aload_n dX12_readTrip_104 rfl ?_
  refine wp_iconst (v := 0) dX12_readTrip_105 (by decide) ?_
  refine wp_bipush (v := 99) dX12_readTrip_106 (by decide) ?_
  obtain ⟨q19, e20, h⟩ := bnd h
  refine wp_callV (As := [.inl 0, .inl 99]) dX12_readTrip_108 (sh_X12_readNumber_ok (d := d + 4) e20) okX12_readNumber nnX12_readNumber vvX12_readNumber ml_RX12_211 rfl (Nat.le_of_ble_eq_true rfl) ?_
  obtain ⟨M21, e22, h⟩ := bnd h
  refine wp_iastore dX12_readTrip_111 e22 ?_
  cases h
  exact wp_ret dX12_readTrip_112 rfl

theorem X12_readTrip_J35_ok {w : Gw} {d : Nat} {x0 : Nat} {x1 : Int32} {x2 : Int32} {x3 : Int32} {M : Gm} {out : Gm} (h : X12_readTrip_J35 x0 x1 x2 x3 M = some out) : Wp w mdX12_readTrip (d + 8) 35 [some (.inr x0), some (.inl x1), some (.inl x2), some (.inl x3)] [] M (.inl none) out := by
  unfold X12_readTrip_J35 at h
  refine wp_iload_n dX12_readTrip_35 rfl ?_
  refine wp_iconst (v := 3) dX12_readTrip_36 (by decide) ?_
  refine wp_icmp_ne (tgt := 53) dX12_readTrip_37 (by decide) (fun hc_ => ?_) (fun hc_ => ?_)
  · replace h := ite_f hc_ h
    exact wp_ls (lsS (lsS (lsS (lsS lsZ)))) (X12_readTrip_J53_ok h)
  · replace h := ite_t hc_ h
    refine wp_aload_n dX12_readTrip_40 rfl ?_
    refine wp_iload_n dX12_readTrip_41 rfl ?_
    obtain ⟨q1, e2, h⟩ := bnd h
    refine wp_callV (As := [.inl x2]) dX12_readTrip_42 (sh_X12_hasCritical_ok (d := d + 7) e2) okX12_hasCritical nnX12_hasCritical vvX12_hasCritical ml_RX12_217 rfl (Nat.le_of_ble_eq_true rfl) ?_
    refine wp_if_eq (tgt := 53) dX12_readTrip_45 (by decide) (fun hc_ => ?_) (fun hc_ => ?_)
    · replace h := ite_t hc_ h
      exact wp_ls (lsS (lsS (lsS (lsS lsZ)))) (X12_readTrip_J53_ok h)
    · replace h := ite_f hc_ h
      refine wp_aload_n dX12_readTrip_48 rfl ?_
      refine wp_iconst (v := 4) dX12_readTrip_49 (by decide) ?_
      obtain ⟨q3, e4, h⟩ := bnd h
      refine wp_callV (As := [.inl 4]) dX12_readTrip_50 (sh_X12_wrong_ok (d := d + 7) e4) okX12_wrong nnX12_wrong vvX12_wrong ml_RX12_194 rfl (Nat.le_of_ble_eq_true rfl) ?_
      exact wp_ls (lsS (lsS (lsS (lsS lsZ)))) (X12_readTrip_J53_ok h)

theorem X12_readTrip_F_ok {w : Gw} {d : Nat} {x0 : Nat} {M : Gm} {out : Gm} (h : X12_readTrip_F x0 M = some out) : Wp w mdX12_readTrip (d + 8) 0 [some (.inr x0), none, none, none] [] M (.inl none) out := by
  unfold X12_readTrip_F at h
  refine wp_aload_n dX12_readTrip_0 rfl ?_
  obtain ⟨v1, e2, h⟩ := bnd h
  refine wp_getR (c := 12) (k := 8) dX12_readTrip_1 e2 (by decide) (by decide) rfl fl_RX12_68 ?_
  refine wp_sipush (v := 164) dX12_readTrip_4 (by decide) ?_
  obtain ⟨v3, e4, h⟩ := bnd h
  refine wp_iaload dX12_readTrip_7 e4 ?_
  refine wp_istore_n dX12_readTrip_8 (Nat.le_of_ble_eq_true rfl) ?_
  refine wp_aload_n dX12_readTrip_9 rfl ?_
  refine wp_iconst (v := 5) dX12_readTrip_10 (by decide) ?_
  refine wp_iconst (v := 0) dX12_readTrip_11 (by decide) ?_
  obtain ⟨q5, e6, h⟩ := bnd h
  refine wp_callV (As := [.inl 5, .inl 0]) dX12_readTrip_12 (sh_X12_readOne_ok (d := d + 4) e6) okX12_readOne nnX12_readOne vvX12_readOne ml_RX12_214 rfl (Nat.le_of_ble_eq_true rfl) ?_
  refine wp_istore_n dX12_readTrip_15 (Nat.le_of_ble_eq_true rfl) ?_
  refine wp_aload_n dX12_readTrip_16 rfl ?_
  refine wp_aload_n dX12_readTrip_17 rfl ?_
  obtain ⟨v7, e8, h⟩ := bnd h
  refine wp_getR (c := 12) (k := 2) dX12_readTrip_18 e8 (by decide) (by decide) rfl fl_RX12_46 ?_
  obtain ⟨q9, e10, h⟩ := bnd h
  refine wp_callV (As := [.inr v7]) dX12_readTrip_21 (sh_X12_which_ok (d := d) e10) okX12_which nnX12_which vvX12_which ml_RX12_207 rfl (Nat.le_of_ble_eq_true rfl) ?_
  refine wp_istore_n dX12_readTrip_24 (Nat.le_of_ble_eq_true rfl) ?_
  refine wp_iload_n dX12_readTrip_25 rfl ?_
  refine wp_iconst (v := (-1)) dX12_readTrip_26 (by decide) ?_
  refine wp_icmp_ne (tgt := 35) dX12_readTrip_27 (by decide) (fun hc_ => ?_) (fun hc_ => ?_)
  · replace h := ite_f hc_ h
    exact wp_ls (lsS (lsS (lsS (lsS lsZ)))) (X12_readTrip_J35_ok h)
  · replace h := ite_t hc_ h
    refine wp_aload_n dX12_readTrip_30 rfl ?_
    refine wp_iconst (v := 1) dX12_readTrip_31 (by decide) ?_
    obtain ⟨q11, e12, h⟩ := bnd h
    refine wp_callV (As := [.inl 1]) dX12_readTrip_32 (sh_X12_wrong_ok (d := d + 7) e12) okX12_wrong nnX12_wrong vvX12_wrong ml_RX12_194 rfl (Nat.le_of_ble_eq_true rfl) ?_
    exact wp_ls (lsS (lsS (lsS (lsS lsZ)))) (X12_readTrip_J35_ok h)

theorem sh_X12_readTrip_ok {w : Gw} {d : Nat} {x0 : Nat} {M : Gm} {out : Gm} (h : sh_X12_readTrip x0 M = some out) : Ev w mdX12_readTrip (d + 8) [.inr x0] M (.inl none) out := by
  obtain ⟨u, e0, h⟩ := bnd h
  exact ev_of okX12_readTrip ⟨_, _, rfl, isO_of e0 (by decide), by decide⟩ (Nat.le_of_ble_eq_true rfl) (X12_readTrip_F_ok h)

/-! HeatGovernorModel.readWall()V -/
def X12_readWall_J58 (x0 : Nat) (x1 : Int32) (x2 : Int32) (M : Gm) : Option (Gm) :=
  (sh_X12_pass x0 M).bind fun q1 =>
  (gfR q1 x0 12 8).bind fun v3 =>
  (stA q1 0 v3 (147 + x1) x2).bind fun M5 =>
  (gfR M5 x0 12 8).bind fun v7 =>
  (sh_X12_readNumber x0 1 50 M5).bind fun q9 =>
  (stA q9.2 0 v7 (155 + x1) q9.1).bind fun M11 =>
  some M11
def X12_readWall_F (x0 : Nat) (M : Gm) : Option (Gm) :=
  (gfR M x0 12 8).bind fun v1 =>
  (ldA M 0 v1 167).bind fun v3 =>
  (gfR M x0 12 8).bind fun v5 =>
  (sh_X12_readOne x0 5 0 M).bind fun q7 =>
  (stA q7.2 0 v5 (139 + v3) q7.1).bind fun M9 =>
  (sh_X12_oneNow x0 5 0 M9).bind fun q11 =>
  (gfI q11.2 x0 12 18).bind fun v13 =>
  if v13 = 0 then
    (gfR q11.2 x0 12 8).bind fun v15 =>
    (ldA q11.2 0 v15 (139 + v3)).bind fun v17 =>
    if q11.1 = v17 then
      (sh_X12_wrong x0 4 q11.2).bind fun q19 =>
      X12_readWall_J58 x0 v3 q11.1 q19
    else
      X12_readWall_J58 x0 v3 q11.1 q11.2
  else
    X12_readWall_J58 x0 v3 q11.1 q11.2
def sh_X12_readWall (x0 : Nat) (M : Gm) : Option (Gm) := (isO M x0 12).bind fun _ => X12_readWall_F x0 M
theorem X12_readWall_J58_ok {w : Gw} {d : Nat} {x0 : Nat} {x1 : Int32} {x2 : Int32} {M : Gm} {out : Gm} (h : X12_readWall_J58 x0 x1 x2 M = some out) : Wp w mdX12_readWall (d + 4) 58 [some (.inr x0), some (.inl x1), some (.inl x2)] [] M (.inl none) out := by
  unfold X12_readWall_J58 at h
  refine wp_aload_n dX12_readWall_58 rfl ?_
  obtain ⟨q1, e2, h⟩ := bnd h
  refine wp_callV (As := []) dX12_readWall_59 (sh_X12_pass_ok (d := d + 1) e2) okX12_pass nnX12_pass vvX12_pass ml_RX12_201 rfl (Nat.le_of_ble_eq_true rfl) ?_
  refine wp_aload_n dX12_readWall_62 rfl ?_
  obtain ⟨v3, e4, h⟩ := bnd h
  refine wp_getR (c := 12) (k := 8) dX12_readWall_63 e4 (by decide) (by decide) rfl fl_RX12_68 ?_
  refine wp_sipush (v := 147) dX12_readWall_66 (by decide) ?_
  refine wp_iload_n dX12_readWall_69 rfl ?_
  refine wp_iadd dX12_readWall_70 ?_
  refine wp_iload_n dX12_readWall_71 rfl ?_
  obtain ⟨M5, e6, h⟩ := bnd h
  refine wp_iastore dX12_readWall_72 e6 ?_
  refine wp_aload_n dX12_readWall_73 rfl ?_
  obtain ⟨v7, e8, h⟩ := bnd h
  refine wp_getR (c := 12) (k := 8) dX12_readWall_74 e8 (by decide) (by decide) rfl fl_RX12_68 ?_
  refine wp_sipush (v := 155) dX12_readWall_77 (by decide) ?_
  refine wp_iload_n dX12_readWall_80 rfl ?_
  refine wp_iadd dX12_readWall_81 ?_
  refine wp_aload_n dX12_readWall_82 rfl ?_
  refine wp_iconst (v := 1) dX12_readWall_83 (by decide) ?_
  refine wp_bipush (v := 50) dX12_readWall_84 (by decide) ?_
  obtain ⟨q9, e10, h⟩ := bnd h
  refine wp_callV (As := [.inl 1, .inl 50]) dX12_readWall_86 (sh_X12_readNumber_ok (d := d) e10) okX12_readNumber nnX12_readNumber vvX12_readNumber ml_RX12_211 rfl (Nat.le_of_ble_eq_true rfl) ?_
  obtain ⟨M11, e12, h⟩ := bnd h
  refine wp_iastore dX12_readWall_89 e12 ?_
  cases h
  exact wp_ret dX12_readWall_90 rfl

theorem X12_readWall_F_ok {w : Gw} {d : Nat} {x0 : Nat} {M : Gm} {out : Gm} (h : X12_readWall_F x0 M = some out) : Wp w mdX12_readWall (d + 4) 0 [some (.inr x0), none, none] [] M (.inl none) out := by
  unfold X12_readWall_F at h
  refine wp_aload_n dX12_readWall_0 rfl ?_
  obtain ⟨v1, e2, h⟩ := bnd h
  refine wp_getR (c := 12) (k := 8) dX12_readWall_1 e2 (by decide) (by decide) rfl fl_RX12_68 ?_
  refine wp_sipush (v := 167) dX12_readWall_4 (by decide) ?_
  obtain ⟨v3, e4, h⟩ := bnd h
  refine wp_iaload dX12_readWall_7 e4 ?_
  refine wp_istore_n dX12_readWall_8 (Nat.le_of_ble_eq_true rfl) ?_
  refine wp_aload_n dX12_readWall_9 rfl ?_
  obtain ⟨v5, e6, h⟩ := bnd h
  refine wp_getR (c := 12) (k := 8) dX12_readWall_10 e6 (by decide) (by decide) rfl fl_RX12_68 ?_
  refine wp_sipush (v := 139) dX12_readWall_13 (by decide) ?_
  refine wp_iload_n dX12_readWall_16 rfl ?_
  refine wp_iadd dX12_readWall_17 ?_
  refine wp_aload_n dX12_readWall_18 rfl ?_
  refine wp_iconst (v := 5) dX12_readWall_19 (by decide) ?_
  refine wp_iconst (v := 0) dX12_readWall_20 (by decide) ?_
  obtain ⟨q7, e8, h⟩ := bnd h
  refine wp_callV (As := [.inl 5, .inl 0]) dX12_readWall_21 (sh_X12_readOne_ok (d := d) e8) okX12_readOne nnX12_readOne vvX12_readOne ml_RX12_214 rfl (Nat.le_of_ble_eq_true rfl) ?_
  obtain ⟨M9, e10, h⟩ := bnd h
  refine wp_iastore dX12_readWall_24 e10 ?_
  refine wp_aload_n dX12_readWall_25 rfl ?_
  refine wp_iconst (v := 5) dX12_readWall_26 (by decide) ?_
  refine wp_iconst (v := 0) dX12_readWall_27 (by decide) ?_
  obtain ⟨q11, e12, h⟩ := bnd h
  refine wp_callV (As := [.inl 5, .inl 0]) dX12_readWall_28 (sh_X12_oneNow_ok (d := d + 1) e12) okX12_oneNow nnX12_oneNow vvX12_oneNow ml_RX12_204 rfl (Nat.le_of_ble_eq_true rfl) ?_
  refine wp_istore_n dX12_readWall_31 (Nat.le_of_ble_eq_true rfl) ?_
  refine wp_aload_n dX12_readWall_32 rfl ?_
  obtain ⟨v13, e14, h⟩ := bnd h
  refine wp_getI (c := 12) (k := 18) dX12_readWall_33 e14 (by decide) (by decide) rfl fl_RX12_173 ?_
  refine wp_if_ne (tgt := 58) dX12_readWall_36 (by decide) (fun hc_ => ?_) (fun hc_ => ?_)
  · replace h := ite_f hc_ h
    exact wp_ls (lsS (lsS (lsS lsZ))) (X12_readWall_J58_ok h)
  · replace h := ite_t hc_ h
    refine wp_iload_n dX12_readWall_39 rfl ?_
    refine wp_aload_n dX12_readWall_40 rfl ?_
    obtain ⟨v15, e16, h⟩ := bnd h
    refine wp_getR (c := 12) (k := 8) dX12_readWall_41 e16 (by decide) (by decide) rfl fl_RX12_68 ?_
    refine wp_sipush (v := 139) dX12_readWall_44 (by decide) ?_
    refine wp_iload_n dX12_readWall_47 rfl ?_
    refine wp_iadd dX12_readWall_48 ?_
    obtain ⟨v17, e18, h⟩ := bnd h
    refine wp_iaload dX12_readWall_49 e18 ?_
    refine wp_icmp_ne (tgt := 58) dX12_readWall_50 (by decide) (fun hc_ => ?_) (fun hc_ => ?_)
    · replace h := ite_f hc_ h
      exact wp_ls (lsS (lsS (lsS lsZ))) (X12_readWall_J58_ok h)
    · replace h := ite_t hc_ h
      refine wp_aload_n dX12_readWall_53 rfl ?_
      refine wp_iconst (v := 4) dX12_readWall_54 (by decide) ?_
      obtain ⟨q19, e20, h⟩ := bnd h
      refine wp_callV (As := [.inl 4]) dX12_readWall_55 (sh_X12_wrong_ok (d := d + 3) e20) okX12_wrong nnX12_wrong vvX12_wrong ml_RX12_194 rfl (Nat.le_of_ble_eq_true rfl) ?_
      exact wp_ls (lsS (lsS (lsS lsZ))) (X12_readWall_J58_ok h)

theorem sh_X12_readWall_ok {w : Gw} {d : Nat} {x0 : Nat} {M : Gm} {out : Gm} (h : sh_X12_readWall x0 M = some out) : Ev w mdX12_readWall (d + 4) [.inr x0] M (.inl none) out := by
  obtain ⟨u, e0, h⟩ := bnd h
  exact ev_of okX12_readWall ⟨_, _, rfl, isO_of e0 (by decide), by decide⟩ (Nat.le_of_ble_eq_true rfl) (X12_readWall_F_ok h)

/-! HeatGovernorModel.readZone()V -/
def X12_readZone_J117 (s0 : Nat) (s1 : Int32) (s2 : Int32) (M : Gm) : Option (Gm) :=
  (stA M 0 s0 s1 s2).bind fun M1 =>
  some M1
def X12_readZone_J116 (s0 : Nat) (s1 : Int32) (M : Gm) : Option (Gm) :=
  X12_readZone_J117 s0 s1 3 M
def X12_readZone_J64 (x0 : Nat) (x1 : Int32) (x2 : Int32) (s0 : Nat) (s1 : Int32) (s2 : Int32) (M : Gm) : Option (Gm) :=
  (stA M 0 s0 s1 s2).bind fun M1 =>
  (gfR M1 x0 12 8).bind fun v3 =>
  (stA M1 0 v3 (10 + x1) 1).bind fun M5 =>
  if 0 < x2 then
    (sh_X12_pass x0 M5).bind fun q7 =>
    (gfR q7 x0 12 8).bind fun v9 =>
    (gfI q7 x0 12 18).bind fun v11 =>
    if v11 = 0 then
      (gfI q7 x0 12 14).bind fun v13 =>
      if v13 = 2 then
        (sh_X12_readNumber x0 1 4 q7).bind fun q15 =>
        X12_readZone_J117 v9 (10 + x1) q15.1 q15.2
      else
        X12_readZone_J116 v9 (10 + x1) q7
    else
      X12_readZone_J116 v9 (10 + x1) q7
  else
    some M5
def X12_readZone_F (x0 : Nat) (M : Gm) : Option (Gm) :=
  (gfR M x0 12 8).bind fun v1 =>
  (ldA M 0 v1 163).bind fun v3 =>
  (gfR M x0 12 7).bind fun v5 =>
  (sh_X12_readNumber x0 0 99 M).bind fun q7 =>
  (stA q7.2 0 v5 (5 + v3) q7.1).bind fun M9 =>
  (gfR M9 x0 12 8).bind fun v11 =>
  (sh_X12_readNumber x0 1 50 M9).bind fun q13 =>
  (stA q13.2 0 v11 (0 + v3) q13.1).bind fun M15 =>
  (gfR M15 x0 12 1).bind fun v17 =>
  (sh_X12_which x0 v17 M15).bind fun q19 =>
  (gfR M15 x0 12 8).bind fun v21 =>
  if 0 < q19 then
    X12_readZone_J64 x0 v3 q19 v21 (5 + v3) q19 M15
  else
    X12_readZone_J64 x0 v3 q19 v21 (5 + v3) 0 M15
def sh_X12_readZone (x0 : Nat) (M : Gm) : Option (Gm) := (isO M x0 12).bind fun _ => X12_readZone_F x0 M
theorem X12_readZone_J117_ok {w : Gw} {d : Nat} {s0 : Nat} {s1 : Int32} {s2 : Int32} {M : Gm} {out : Gm} (h : X12_readZone_J117 s0 s1 s2 M = some out) : Wp w mdX12_readZone (d + 8) 117 [none, none, none] [.inl s2, .inl s1, .inr s0] M (.inl none) out := by
  unfold X12_readZone_J117 at h
  obtain ⟨M1, e2, h⟩ := bnd h
  refine wp_iastore dX12_readZone_117 e2 ?_
  cases h
  exact wp_ret dX12_readZone_118 rfl

theorem X12_readZone_J116_ok {w : Gw} {d : Nat} {s0 : Nat} {s1 : Int32} {M : Gm} {out : Gm} (h : X12_readZone_J116 s0 s1 M = some out) : Wp w mdX12_readZone (d + 8) 116 [none, none, none] [.inl s1, .inr s0] M (.inl none) out := by
  unfold X12_readZone_J116 at h
  refine wp_iconst (v := 3) dX12_readZone_116 (by decide) ?_
  exact wp_ls (lsN (lsN (lsN lsZ))) (X12_readZone_J117_ok h)

theorem X12_readZone_J64_ok {w : Gw} {d : Nat} {x0 : Nat} {x1 : Int32} {x2 : Int32} {s0 : Nat} {s1 : Int32} {s2 : Int32} {M : Gm} {out : Gm} (h : X12_readZone_J64 x0 x1 x2 s0 s1 s2 M = some out) : Wp w mdX12_readZone (d + 8) 64 [some (.inr x0), some (.inl x1), some (.inl x2)] [.inl s2, .inl s1, .inr s0] M (.inl none) out := by
  unfold X12_readZone_J64 at h
  obtain ⟨M1, e2, h⟩ := bnd h
  refine wp_iastore dX12_readZone_64 e2 ?_
  refine wp_aload_n dX12_readZone_65 rfl ?_
  obtain ⟨v3, e4, h⟩ := bnd h
  refine wp_getR (c := 12) (k := 8) dX12_readZone_66 e4 (by decide) (by decide) rfl fl_RX12_68 ?_
  refine wp_bipush (v := 10) dX12_readZone_69 (by decide) ?_
  refine wp_iload_n dX12_readZone_71 rfl ?_
  refine wp_iadd dX12_readZone_72 ?_
  refine wp_iconst (v := 1) dX12_readZone_73 (by decide) ?_
  obtain ⟨M5, e6, h⟩ := bnd h
  refine wp_iastore dX12_readZone_74 e6 ?_
  refine wp_iload_n dX12_readZone_75 rfl ?_
  refine wp_if_gt (tgt := 80) dX12_readZone_76 (by decide) (fun hc_ => ?_) (fun hc_ => ?_)
  · replace h := ite_t hc_ h
    refine wp_aload_n dX12_readZone_80 rfl ?_
    obtain ⟨q7, e8, h⟩ := bnd h
    refine wp_callV (As := []) dX12_readZone_81 (sh_X12_pass_ok (d := d + 5) e8) okX12_pass nnX12_pass vvX12_pass ml_RX12_201 rfl (Nat.le_of_ble_eq_true rfl) ?_
    refine wp_aload_n dX12_readZone_84 rfl ?_
    obtain ⟨v9, e10, h⟩ := bnd h
    refine wp_getR (c := 12) (k := 8) dX12_readZone_85 e10 (by decide) (by decide) rfl fl_RX12_68 ?_
    refine wp_bipush (v := 10) dX12_readZone_88 (by decide) ?_
    refine wp_iload_n dX12_readZone_90 rfl ?_
    refine wp_iadd dX12_readZone_91 ?_
    refine wp_aload_n dX12_readZone_92 rfl ?_
    obtain ⟨v11, e12, h⟩ := bnd h
    refine wp_getI (c := 12) (k := 18) dX12_readZone_93 e12 (by decide) (by decide) rfl fl_RX12_173 ?_
    refine wp_if_ne (tgt := 116) dX12_readZone_96 (by decide) (fun hc_ => ?_) (fun hc_ => ?_)
    · replace h := ite_f hc_ h
      exact wp_ls (lsN (lsN (lsN lsZ))) (X12_readZone_J116_ok h)
    · replace h := ite_t hc_ h
      refine wp_aload_n dX12_readZone_99 rfl ?_
      obtain ⟨v13, e14, h⟩ := bnd h
      refine wp_getI (c := 12) (k := 14) dX12_readZone_100 e14 (by decide) (by decide) rfl fl_RX12_150 ?_
      refine wp_iconst (v := 2) dX12_readZone_103 (by decide) ?_
      refine wp_icmp_ne (tgt := 116) dX12_readZone_104 (by decide) (fun hc_ => ?_) (fun hc_ => ?_)
      · replace h := ite_f hc_ h
        exact wp_ls (lsN (lsN (lsN lsZ))) (X12_readZone_J116_ok h)
      · replace h := ite_t hc_ h
        refine wp_aload_n dX12_readZone_107 rfl ?_
        refine wp_iconst (v := 1) dX12_readZone_108 (by decide) ?_
        refine wp_iconst (v := 4) dX12_readZone_109 (by decide) ?_
        obtain ⟨q15, e16, h⟩ := bnd h
        refine wp_callV (As := [.inl 1, .inl 4]) dX12_readZone_110 (sh_X12_readNumber_ok (d := d + 4) e16) okX12_readNumber nnX12_readNumber vvX12_readNumber ml_RX12_211 rfl (Nat.le_of_ble_eq_true rfl) ?_
        refine wp_goto (tgt := 117) dX12_readZone_113 (by decide) ?_
        exact wp_ls (lsN (lsN (lsN lsZ))) (X12_readZone_J117_ok h)
  · replace h := ite_f hc_ h
    cases h
    exact wp_ret dX12_readZone_79 rfl

theorem X12_readZone_F_ok {w : Gw} {d : Nat} {x0 : Nat} {M : Gm} {out : Gm} (h : X12_readZone_F x0 M = some out) : Wp w mdX12_readZone (d + 8) 0 [some (.inr x0), none, none] [] M (.inl none) out := by
  unfold X12_readZone_F at h
  refine wp_aload_n dX12_readZone_0 rfl ?_
  obtain ⟨v1, e2, h⟩ := bnd h
  refine wp_getR (c := 12) (k := 8) dX12_readZone_1 e2 (by decide) (by decide) rfl fl_RX12_68 ?_
  refine wp_sipush (v := 163) dX12_readZone_4 (by decide) ?_
  obtain ⟨v3, e4, h⟩ := bnd h
  refine wp_iaload dX12_readZone_7 e4 ?_
  refine wp_istore_n dX12_readZone_8 (Nat.le_of_ble_eq_true rfl) ?_
  refine wp_aload_n dX12_readZone_9 rfl ?_
  obtain ⟨v5, e6, h⟩ := bnd h
  refine wp_getR (c := 12) (k := 7) dX12_readZone_10 e6 (by decide) (by decide) rfl fl_RX12_65 ?_
  refine wp_iconst (v := 5) dX12_readZone_13 (by decide) ?_
  refine wp_iload_n dX12_readZone_14 rfl ?_
  refine wp_iadd dX12_readZone_15 ?_
  refine wp_aload_n dX12_readZone_16 rfl ?_
  refine wp_iconst (v := 0) dX12_readZone_17 (by decide) ?_
  refine wp_bipush (v := 99) dX12_readZone_18 (by decide) ?_
  obtain ⟨q7, e8, h⟩ := bnd h
  refine wp_callV (As := [.inl 0, .inl 99]) dX12_readZone_20 (sh_X12_readNumber_ok (d := d + 4) e8) okX12_readNumber nnX12_readNumber vvX12_readNumber ml_RX12_211 rfl (Nat.le_of_ble_eq_true rfl) ?_
  obtain ⟨M9, e10, h⟩ := bnd h
  refine wp_iastore dX12_readZone_23 e10 ?_
  refine wp_aload_n dX12_readZone_24 rfl ?_
  obtain ⟨v11, e12, h⟩ := bnd h
  refine wp_getR (c := 12) (k := 8) dX12_readZone_25 e12 (by decide) (by decide) rfl fl_RX12_68 ?_
  refine wp_iconst (v := 0) dX12_readZone_28 (by decide) ?_
  refine wp_iload_n dX12_readZone_29 rfl ?_
  refine wp_iadd dX12_readZone_30 ?_
  refine wp_aload_n dX12_readZone_31 rfl ?_
  refine wp_iconst (v := 1) dX12_readZone_32 (by decide) ?_
  refine wp_bipush (v := 50) dX12_readZone_33 (by decide) ?_
  obtain ⟨q13, e14, h⟩ := bnd h
  refine wp_callV (As := [.inl 1, .inl 50]) dX12_readZone_35 (sh_X12_readNumber_ok (d := d + 4) e14) okX12_readNumber nnX12_readNumber vvX12_readNumber ml_RX12_211 rfl (Nat.le_of_ble_eq_true rfl) ?_
  obtain ⟨M15, e16, h⟩ := bnd h
  refine wp_iastore dX12_readZone_38 e16 ?_
  refine wp_aload_n dX12_readZone_39 rfl ?_
  refine wp_aload_n dX12_readZone_40 rfl ?_
  obtain ⟨v17, e18, h⟩ := bnd h
  refine wp_getR (c := 12) (k := 1) dX12_readZone_41 e18 (by decide) (by decide) rfl fl_RX12_35 ?_
  obtain ⟨q19, e20, h⟩ := bnd h
  refine wp_callV (As := [.inr v17]) dX12_readZone_44 (sh_X12_which_ok (d := d) e20) okX12_which nnX12_which vvX12_which ml_RX12_207 rfl (Nat.le_of_ble_eq_true rfl) ?_
  refine wp_istore_n dX12_readZone_47 (Nat.le_of_ble_eq_true rfl) ?_
  refine wp_aload_n dX12_readZone_48 rfl ?_
  obtain ⟨v21, e22, h⟩ := bnd h
  refine wp_getR (c := 12) (k := 8) dX12_readZone_49 e22 (by decide) (by decide) rfl fl_RX12_68 ?_
  refine wp_iconst (v := 5) dX12_readZone_52 (by decide) ?_
  refine wp_iload_n dX12_readZone_53 rfl ?_
  refine wp_iadd dX12_readZone_54 ?_
  refine wp_iload_n dX12_readZone_55 rfl ?_
  refine wp_if_gt (tgt := 63) dX12_readZone_56 (by decide) (fun hc_ => ?_) (fun hc_ => ?_)
  · replace h := ite_t hc_ h
    refine wp_iload_n dX12_readZone_63 rfl ?_
    exact wp_ls (lsS (lsS (lsS lsZ))) (X12_readZone_J64_ok h)
  · replace h := ite_f hc_ h
    refine wp_iconst (v := 0) dX12_readZone_59 (by decide) ?_
    refine wp_goto (tgt := 64) dX12_readZone_60 (by decide) ?_
    exact wp_ls (lsS (lsS (lsS lsZ))) (X12_readZone_J64_ok h)

theorem sh_X12_readZone_ok {w : Gw} {d : Nat} {x0 : Nat} {M : Gm} {out : Gm} (h : sh_X12_readZone x0 M = some out) : Ev w mdX12_readZone (d + 8) [.inr x0] M (.inl none) out := by
  obtain ⟨u, e0, h⟩ := bnd h
  exact ev_of okX12_readZone ⟨_, _, rfl, isO_of e0 (by decide), by decide⟩ (Nat.le_of_ble_eq_true rfl) (X12_readZone_F_ok h)

/-! HeatGovernorModel.readClause()V -/
def X12_readClause_J220 (M : Gm) : Option (Gm) :=
  some M
def X12_readClause_J197 (x0 : Nat) (x1 : Int32) (M : Gm) : Option (Gm) :=
  (sh_X12_pass x0 M).bind fun q1 =>
  if 5 ≤ x1 then
    X12_readClause_J220 q1
  else
    (gfR q1 x0 12 8).bind fun v3 =>
    (ldA q1 0 v3 (163 + x1)).bind fun v5 =>
    (stA q1 0 v3 (163 + x1) (v5 + 1)).bind fun M7 =>
    X12_readClause_J220 M7
def X12_readClause_J174 (x0 : Nat) (x1 : Int32) (s0 : Nat) (s1 : Int32) (M : Gm) : Option (Gm) :=
  (pfZ M s0 12 21 s1).bind fun M1 =>
  (gfI M1 x0 12 18).bind fun v3 =>
  if v3 = 0 then
    (gfI M1 x0 12 14).bind fun v5 =>
    if v5 = 3 then
      X12_readClause_J197 x0 x1 M1
    else
      (sh_X12_wrong x0 1 M1).bind fun q7 =>
      X12_readClause_J197 x0 x1 q7
  else
    X12_readClause_J197 x0 x1 M1
def X12_readClause_J169 (x0 : Nat) (x1 : Int32) (s0 : Nat) (M : Gm) : Option (Gm) :=
  X12_readClause_J174 x0 x1 s0 1 M
def X12_readClause_J156 (x0 : Nat) (x1 : Int32) (M : Gm) : Option (Gm) :=
  (gfI M x0 12 21).bind fun v1 =>
  if v1 = 0 then
    if x1 = 5 then
      X12_readClause_J169 x0 x1 x0 M
    else
      X12_readClause_J174 x0 x1 x0 0 M
  else
    X12_readClause_J169 x0 x1 x0 M
def X12_readClause_J70 (x0 : Nat) (x1 : Int32) (M : Gm) : Option (Gm) :=
  (gfI M x0 12 18).bind fun v1 =>
  if v1 = 0 then
    (sh_X12_stepOn x0 M).bind fun q3 =>
    if x1 = 0 then
      (sh_X12_readZone x0 q3).bind fun q19 =>
      X12_readClause_J156 x0 x1 q19
    else
      if x1 = 1 then
        (sh_X12_readTrip x0 q3).bind fun q17 =>
        X12_readClause_J156 x0 x1 q17
      else
        if x1 = 2 then
          (sh_X12_readDevice x0 q3).bind fun q15 =>
          X12_readClause_J156 x0 x1 q15
        else
          if x1 = 3 then
            (sh_X12_readBind x0 q3).bind fun q13 =>
            X12_readClause_J156 x0 x1 q13
          else
            if x1 = 4 then
              (sh_X12_readWall x0 q3).bind fun q11 =>
              X12_readClause_J156 x0 x1 q11
            else
              (gfR q3 x0 12 7).bind fun v5 =>
              (sh_X12_readNumber x0 0 9 q3).bind fun q7 =>
              (stA q7.2 0 v5 143 q7.1).bind fun M9 =>
              X12_readClause_J156 x0 x1 M9
  else
    some M
def X12_readClause_J53 (x0 : Nat) (x1 : Int32) (M : Gm) : Option (Gm) :=
  if x1 = 5 then
    (gfI M x0 12 21).bind fun v1 =>
    if v1 = 0 then
      X12_readClause_J70 x0 x1 M
    else
      (sh_X12_wrong x0 4 M).bind fun q3 =>
      X12_readClause_J70 x0 x1 q3
  else
    X12_readClause_J70 x0 x1 M
def X12_readClause_J19 (x0 : Nat) (x1 : Int32) (M : Gm) : Option (Gm) :=
  (gfI M x0 12 18).bind fun v1 =>
  if v1 = 0 then
    if 5 ≤ x1 then
      X12_readClause_J53 x0 x1 M
    else
      (gfR M x0 12 8).bind fun v3 =>
      (ldA M 0 v3 (163 + x1)).bind fun v5 =>
      (sh_X12_mostOf x1 M).bind fun q7 =>
      if v5 = q7 then
        (sh_X12_wrong x0 2 M).bind fun q9 =>
        X12_readClause_J53 x0 x1 q9
      else
        X12_readClause_J53 x0 x1 M
  else
    X12_readClause_J53 x0 x1 M
def X12_readClause_F (x0 : Nat) (M : Gm) : Option (Gm) :=
  (gfR M x0 12 0).bind fun v1 =>
  (sh_X12_which x0 v1 M).bind fun q3 =>
  if q3 = ((-1)) then
    (sh_X12_wrong x0 1 M).bind fun q5 =>
    X12_readClause_J19 x0 q3 q5
  else
    X12_readClause_J19 x0 q3 M
def sh_X12_readClause (x0 : Nat) (M : Gm) : Option (Gm) := (isO M x0 12).bind fun _ => X12_readClause_F x0 M
theorem X12_readClause_J220_ok {w : Gw} {d : Nat} {M : Gm} {out : Gm} (h : X12_readClause_J220 M = some out) : Wp w mdX12_readClause (d + 10) 220 [none, none] [] M (.inl none) out := by
  unfold X12_readClause_J220 at h
  cases h
  exact wp_ret dX12_readClause_220 rfl

theorem X12_readClause_J197_ok {w : Gw} {d : Nat} {x0 : Nat} {x1 : Int32} {M : Gm} {out : Gm} (h : X12_readClause_J197 x0 x1 M = some out) : Wp w mdX12_readClause (d + 10) 197 [some (.inr x0), some (.inl x1)] [] M (.inl none) out := by
  unfold X12_readClause_J197 at h
  refine wp_aload_n dX12_readClause_197 rfl ?_
  obtain ⟨q1, e2, h⟩ := bnd h
  refine wp_callV (As := []) dX12_readClause_198 (sh_X12_pass_ok (d := d + 7) e2) okX12_pass nnX12_pass vvX12_pass ml_RX12_201 rfl (Nat.le_of_ble_eq_true rfl) ?_
  refine wp_iload_n dX12_readClause_201 rfl ?_
  refine wp_iconst (v := 5) dX12_readClause_202 (by decide) ?_
  refine wp_icmp_ge (tgt := 220) dX12_readClause_203 (by decide) (fun hc_ => ?_) (fun hc_ => ?_)
  · replace h := ite_t hc_ h
    exact wp_ls (lsN (lsN lsZ)) (X12_readClause_J220_ok h)
  · replace h := ite_f hc_ h
    refine wp_aload_n dX12_readClause_206 rfl ?_
    obtain ⟨v3, e4, h⟩ := bnd h
    refine wp_getR (c := 12) (k := 8) dX12_readClause_207 e4 (by decide) (by decide) rfl fl_RX12_68 ?_
    refine wp_sipush (v := 163) dX12_readClause_210 (by decide) ?_
    refine wp_iload_n dX12_readClause_213 rfl ?_
    refine wp_iadd dX12_readClause_214 ?_
    refine wp_dup2 dX12_readClause_215 ?_
    obtain ⟨v5, e6, h⟩ := bnd h
    refine wp_iaload dX12_readClause_216 e6 ?_
    refine wp_iconst (v := 1) dX12_readClause_217 (by decide) ?_
    refine wp_iadd dX12_readClause_218 ?_
    obtain ⟨M7, e8, h⟩ := bnd h
    refine wp_iastore dX12_readClause_219 e8 ?_
    exact wp_ls (lsN (lsN lsZ)) (X12_readClause_J220_ok h)

theorem X12_readClause_J174_ok {w : Gw} {d : Nat} {x0 : Nat} {x1 : Int32} {s0 : Nat} {s1 : Int32} {M : Gm} {out : Gm} (h : X12_readClause_J174 x0 x1 s0 s1 M = some out) : Wp w mdX12_readClause (d + 10) 174 [some (.inr x0), some (.inl x1)] [.inl s1, .inr s0] M (.inl none) out := by
  unfold X12_readClause_J174 at h
  obtain ⟨M1, e2, h⟩ := bnd h
  refine wp_putZ (c := 12) (k := 21) dX12_readClause_174 e2 (by decide) (by decide) rfl fl_RX12_226 (Or.inl rfl) ?_
  refine wp_aload_n dX12_readClause_177 rfl ?_
  obtain ⟨v3, e4, h⟩ := bnd h
  refine wp_getI (c := 12) (k := 18) dX12_readClause_178 e4 (by decide) (by decide) rfl fl_RX12_173 ?_
  refine wp_if_ne (tgt := 197) dX12_readClause_181 (by decide) (fun hc_ => ?_) (fun hc_ => ?_)
  · replace h := ite_f hc_ h
    exact wp_ls (lsS (lsS lsZ)) (X12_readClause_J197_ok h)
  · replace h := ite_t hc_ h
    refine wp_aload_n dX12_readClause_184 rfl ?_
    obtain ⟨v5, e6, h⟩ := bnd h
    refine wp_getI (c := 12) (k := 14) dX12_readClause_185 e6 (by decide) (by decide) rfl fl_RX12_150 ?_
    refine wp_iconst (v := 3) dX12_readClause_188 (by decide) ?_
    refine wp_icmp_eq (tgt := 197) dX12_readClause_189 (by decide) (fun hc_ => ?_) (fun hc_ => ?_)
    · replace h := ite_t hc_ h
      exact wp_ls (lsS (lsS lsZ)) (X12_readClause_J197_ok h)
    · replace h := ite_f hc_ h
      refine wp_aload_n dX12_readClause_192 rfl ?_
      refine wp_iconst (v := 1) dX12_readClause_193 (by decide) ?_
      obtain ⟨q7, e8, h⟩ := bnd h
      refine wp_callV (As := [.inl 1]) dX12_readClause_194 (sh_X12_wrong_ok (d := d + 9) e8) okX12_wrong nnX12_wrong vvX12_wrong ml_RX12_194 rfl (Nat.le_of_ble_eq_true rfl) ?_
      exact wp_ls (lsS (lsS lsZ)) (X12_readClause_J197_ok h)

theorem X12_readClause_J169_ok {w : Gw} {d : Nat} {x0 : Nat} {x1 : Int32} {s0 : Nat} {M : Gm} {out : Gm} (h : X12_readClause_J169 x0 x1 s0 M = some out) : Wp w mdX12_readClause (d + 10) 169 [some (.inr x0), some (.inl x1)] [.inr s0] M (.inl none) out := by
  unfold X12_readClause_J169 at h
  refine wp_iconst (v := 1) dX12_readClause_169 (by decide) ?_
  refine wp_goto (tgt := 174) dX12_readClause_170 (by decide) ?_
  exact wp_ls (lsS (lsS lsZ)) (X12_readClause_J174_ok h)

theorem X12_readClause_J156_ok {w : Gw} {d : Nat} {x0 : Nat} {x1 : Int32} {M : Gm} {out : Gm} (h : X12_readClause_J156 x0 x1 M = some out) : Wp w mdX12_readClause (d + 10) 156 [some (.inr x0), some (.inl x1)] [] M (.inl none) out := by
  unfold X12_readClause_J156 at h
  refine wp_aload_n dX12_readClause_156 rfl ?_
  refine wp_aload_n dX12_readClause_157 rfl ?_
  obtain ⟨v1, e2, h⟩ := bnd h
  refine wp_getI (c := 12) (k := 21) dX12_readClause_158 e2 (by decide) (by decide) rfl fl_RX12_226 ?_
  refine wp_if_ne (tgt := 169) dX12_readClause_161 (by decide) (fun hc_ => ?_) (fun hc_ => ?_)
  · replace h := ite_f hc_ h
    exact wp_ls (lsS (lsS lsZ)) (X12_readClause_J169_ok h)
  · replace h := ite_t hc_ h
    refine wp_iload_n dX12_readClause_164 rfl ?_
    refine wp_iconst (v := 5) dX12_readClause_165 (by decide) ?_
    refine wp_icmp_ne (tgt := 173) dX12_readClause_166 (by decide) (fun hc_ => ?_) (fun hc_ => ?_)
    · replace h := ite_f hc_ h
      refine wp_iconst (v := 0) dX12_readClause_173 (by decide) ?_
      exact wp_ls (lsS (lsS lsZ)) (X12_readClause_J174_ok h)
    · replace h := ite_t hc_ h
      exact wp_ls (lsS (lsS lsZ)) (X12_readClause_J169_ok h)

theorem X12_readClause_J70_ok {w : Gw} {d : Nat} {x0 : Nat} {x1 : Int32} {M : Gm} {out : Gm} (h : X12_readClause_J70 x0 x1 M = some out) : Wp w mdX12_readClause (d + 10) 70 [some (.inr x0), some (.inl x1)] [] M (.inl none) out := by
  unfold X12_readClause_J70 at h
  refine wp_aload_n dX12_readClause_70 rfl ?_
  obtain ⟨v1, e2, h⟩ := bnd h
  refine wp_getI (c := 12) (k := 18) dX12_readClause_71 e2 (by decide) (by decide) rfl fl_RX12_173 ?_
  refine wp_if_eq (tgt := 78) dX12_readClause_74 (by decide) (fun hc_ => ?_) (fun hc_ => ?_)
  · replace h := ite_t hc_ h
    refine wp_aload_n dX12_readClause_78 rfl ?_
    obtain ⟨q3, e4, h⟩ := bnd h
    refine wp_callV (As := []) dX12_readClause_79 (sh_X12_stepOn_ok (d := d + 8) e4) okX12_stepOn nnX12_stepOn vvX12_stepOn ml_RX12_191 rfl (Nat.le_of_ble_eq_true rfl) ?_
    refine wp_iload_n dX12_readClause_82 rfl ?_
    refine wp_if_ne (tgt := 93) dX12_readClause_83 (by decide) (fun hc_ => ?_) (fun hc_ => ?_)
    · replace h := ite_f hc_ h
      refine wp_iload_n dX12_readClause_93 rfl ?_
      refine wp_iconst (v := 1) dX12_readClause_94 (by decide) ?_
      refine wp_icmp_ne (tgt := 105) dX12_readClause_95 (by decide) (fun hc_ => ?_) (fun hc_ => ?_)
      · replace h := ite_f hc_ h
        refine wp_iload_n dX12_readClause_105 rfl ?_
        refine wp_iconst (v := 2) dX12_readClause_106 (by decide) ?_
        refine wp_icmp_ne (tgt := 117) dX12_readClause_107 (by decide) (fun hc_ => ?_) (fun hc_ => ?_)
        · replace h := ite_f hc_ h
          refine wp_iload_n dX12_readClause_117 rfl ?_
          refine wp_iconst (v := 3) dX12_readClause_118 (by decide) ?_
          refine wp_icmp_ne (tgt := 129) dX12_readClause_119 (by decide) (fun hc_ => ?_) (fun hc_ => ?_)
          · replace h := ite_f hc_ h
            refine wp_iload_n dX12_readClause_129 rfl ?_
            refine wp_iconst (v := 4) dX12_readClause_130 (by decide) ?_
            refine wp_icmp_ne (tgt := 141) dX12_readClause_131 (by decide) (fun hc_ => ?_) (fun hc_ => ?_)
            · replace h := ite_f hc_ h
              refine wp_aload_n dX12_readClause_141 rfl ?_
              obtain ⟨v5, e6, h⟩ := bnd h
              refine wp_getR (c := 12) (k := 7) dX12_readClause_142 e6 (by decide) (by decide) rfl fl_RX12_65 ?_
              refine wp_sipush (v := 143) dX12_readClause_145 (by decide) ?_
              refine wp_aload_n dX12_readClause_148 rfl ?_
              refine wp_iconst (v := 0) dX12_readClause_149 (by decide) ?_
              refine wp_bipush (v := 9) dX12_readClause_150 (by decide) ?_
              obtain ⟨q7, e8, h⟩ := bnd h
              refine wp_callV (As := [.inl 0, .inl 9]) dX12_readClause_152 (sh_X12_readNumber_ok (d := d + 6) e8) okX12_readNumber nnX12_readNumber vvX12_readNumber ml_RX12_211 rfl (Nat.le_of_ble_eq_true rfl) ?_
              obtain ⟨M9, e10, h⟩ := bnd h
              refine wp_iastore dX12_readClause_155 e10 ?_
              exact wp_ls (lsS (lsS lsZ)) (X12_readClause_J156_ok h)
            · replace h := ite_t hc_ h
              refine wp_aload_n dX12_readClause_134 rfl ?_
              obtain ⟨q11, e12, h⟩ := bnd h
              refine wp_callV (As := []) dX12_readClause_135 (sh_X12_readWall_ok (d := d + 5) e12) okX12_readWall nnX12_readWall vvX12_readWall ml_RX12_242 rfl (Nat.le_of_ble_eq_true rfl) ?_
              refine wp_goto (tgt := 156) dX12_readClause_138 (by decide) ?_
              exact wp_ls (lsS (lsS lsZ)) (X12_readClause_J156_ok h)
          · replace h := ite_t hc_ h
            refine wp_aload_n dX12_readClause_122 rfl ?_
            obtain ⟨q13, e14, h⟩ := bnd h
            refine wp_callV (As := []) dX12_readClause_123 (sh_X12_readBind_ok (d := d + 5) e14) okX12_readBind nnX12_readBind vvX12_readBind ml_RX12_239 rfl (Nat.le_of_ble_eq_true rfl) ?_
            refine wp_goto (tgt := 156) dX12_readClause_126 (by decide) ?_
            exact wp_ls (lsS (lsS lsZ)) (X12_readClause_J156_ok h)
        · replace h := ite_t hc_ h
          refine wp_aload_n dX12_readClause_110 rfl ?_
          obtain ⟨q15, e16, h⟩ := bnd h
          refine wp_callV (As := []) dX12_readClause_111 (sh_X12_readDevice_ok (d := d) e16) okX12_readDevice nnX12_readDevice vvX12_readDevice ml_RX12_236 rfl (Nat.le_of_ble_eq_true rfl) ?_
          refine wp_goto (tgt := 156) dX12_readClause_114 (by decide) ?_
          exact wp_ls (lsS (lsS lsZ)) (X12_readClause_J156_ok h)
      · replace h := ite_t hc_ h
        refine wp_aload_n dX12_readClause_98 rfl ?_
        obtain ⟨q17, e18, h⟩ := bnd h
        refine wp_callV (As := []) dX12_readClause_99 (sh_X12_readTrip_ok (d := d + 1) e18) okX12_readTrip nnX12_readTrip vvX12_readTrip ml_RX12_233 rfl (Nat.le_of_ble_eq_true rfl) ?_
        refine wp_goto (tgt := 156) dX12_readClause_102 (by decide) ?_
        exact wp_ls (lsS (lsS lsZ)) (X12_readClause_J156_ok h)
    · replace h := ite_t hc_ h
      refine wp_aload_n dX12_readClause_86 rfl ?_
      obtain ⟨q19, e20, h⟩ := bnd h
      refine wp_callV (As := []) dX12_readClause_87 (sh_X12_readZone_ok (d := d + 1) e20) okX12_readZone nnX12_readZone vvX12_readZone ml_RX12_230 rfl (Nat.le_of_ble_eq_true rfl) ?_
      refine wp_goto (tgt := 156) dX12_readClause_90 (by decide) ?_
      exact wp_ls (lsS (lsS lsZ)) (X12_readClause_J156_ok h)
  · replace h := ite_f hc_ h
    cases h
    exact wp_ret dX12_readClause_77 rfl

theorem X12_readClause_J53_ok {w : Gw} {d : Nat} {x0 : Nat} {x1 : Int32} {M : Gm} {out : Gm} (h : X12_readClause_J53 x0 x1 M = some out) : Wp w mdX12_readClause (d + 10) 53 [some (.inr x0), some (.inl x1)] [] M (.inl none) out := by
  unfold X12_readClause_J53 at h
  refine wp_iload_n dX12_readClause_53 rfl ?_
  refine wp_iconst (v := 5) dX12_readClause_54 (by decide) ?_
  refine wp_icmp_ne (tgt := 70) dX12_readClause_55 (by decide) (fun hc_ => ?_) (fun hc_ => ?_)
  · replace h := ite_f hc_ h
    exact wp_ls (lsS (lsS lsZ)) (X12_readClause_J70_ok h)
  · replace h := ite_t hc_ h
    refine wp_aload_n dX12_readClause_58 rfl ?_
    obtain ⟨v1, e2, h⟩ := bnd h
    refine wp_getI (c := 12) (k := 21) dX12_readClause_59 e2 (by decide) (by decide) rfl fl_RX12_226 ?_
    refine wp_if_eq (tgt := 70) dX12_readClause_62 (by decide) (fun hc_ => ?_) (fun hc_ => ?_)
    · replace h := ite_t hc_ h
      exact wp_ls (lsS (lsS lsZ)) (X12_readClause_J70_ok h)
    · replace h := ite_f hc_ h
      refine wp_aload_n dX12_readClause_65 rfl ?_
      refine wp_iconst (v := 4) dX12_readClause_66 (by decide) ?_
      obtain ⟨q3, e4, h⟩ := bnd h
      refine wp_callV (As := [.inl 4]) dX12_readClause_67 (sh_X12_wrong_ok (d := d + 9) e4) okX12_wrong nnX12_wrong vvX12_wrong ml_RX12_194 rfl (Nat.le_of_ble_eq_true rfl) ?_
      exact wp_ls (lsS (lsS lsZ)) (X12_readClause_J70_ok h)

theorem X12_readClause_J19_ok {w : Gw} {d : Nat} {x0 : Nat} {x1 : Int32} {M : Gm} {out : Gm} (h : X12_readClause_J19 x0 x1 M = some out) : Wp w mdX12_readClause (d + 10) 19 [some (.inr x0), some (.inl x1)] [] M (.inl none) out := by
  unfold X12_readClause_J19 at h
  refine wp_aload_n dX12_readClause_19 rfl ?_
  obtain ⟨v1, e2, h⟩ := bnd h
  refine wp_getI (c := 12) (k := 18) dX12_readClause_20 e2 (by decide) (by decide) rfl fl_RX12_173 ?_
  refine wp_if_ne (tgt := 53) dX12_readClause_23 (by decide) (fun hc_ => ?_) (fun hc_ => ?_)
  · replace h := ite_f hc_ h
    exact wp_ls (lsS (lsS lsZ)) (X12_readClause_J53_ok h)
  · replace h := ite_t hc_ h
    refine wp_iload_n dX12_readClause_26 rfl ?_
    refine wp_iconst (v := 5) dX12_readClause_27 (by decide) ?_
    refine wp_icmp_ge (tgt := 53) dX12_readClause_28 (by decide) (fun hc_ => ?_) (fun hc_ => ?_)
    · replace h := ite_t hc_ h
      exact wp_ls (lsS (lsS lsZ)) (X12_readClause_J53_ok h)
    · replace h := ite_f hc_ h
      refine wp_aload_n dX12_readClause_31 rfl ?_
      obtain ⟨v3, e4, h⟩ := bnd h
      refine wp_getR (c := 12) (k := 8) dX12_readClause_32 e4 (by decide) (by decide) rfl fl_RX12_68 ?_
      refine wp_sipush (v := 163) dX12_readClause_35 (by decide) ?_
      refine wp_iload_n dX12_readClause_38 rfl ?_
      refine wp_iadd dX12_readClause_39 ?_
      obtain ⟨v5, e6, h⟩ := bnd h
      refine wp_iaload dX12_readClause_40 e6 ?_
      refine wp_iload_n dX12_readClause_41 rfl ?_
      obtain ⟨q7, e8, h⟩ := bnd h
      refine wp_callS (As := [.inl x1]) dX12_readClause_42 (sh_X12_mostOf_ok (d := d + 9) e8) okX12_mostOf nnX12_mostOf ssX12_mostOf ml_RX12_223 rfl (Nat.le_of_ble_eq_true rfl) ?_
      refine wp_icmp_ne (tgt := 53) dX12_readClause_45 (by decide) (fun hc_ => ?_) (fun hc_ => ?_)
      · replace h := ite_f hc_ h
        exact wp_ls (lsS (lsS lsZ)) (X12_readClause_J53_ok h)
      · replace h := ite_t hc_ h
        refine wp_aload_n dX12_readClause_48 rfl ?_
        refine wp_iconst (v := 2) dX12_readClause_49 (by decide) ?_
        obtain ⟨q9, e10, h⟩ := bnd h
        refine wp_callV (As := [.inl 2]) dX12_readClause_50 (sh_X12_wrong_ok (d := d + 9) e10) okX12_wrong nnX12_wrong vvX12_wrong ml_RX12_194 rfl (Nat.le_of_ble_eq_true rfl) ?_
        exact wp_ls (lsS (lsS lsZ)) (X12_readClause_J53_ok h)

theorem X12_readClause_F_ok {w : Gw} {d : Nat} {x0 : Nat} {M : Gm} {out : Gm} (h : X12_readClause_F x0 M = some out) : Wp w mdX12_readClause (d + 10) 0 [some (.inr x0), none] [] M (.inl none) out := by
  unfold X12_readClause_F at h
  refine wp_aload_n dX12_readClause_0 rfl ?_
  refine wp_aload_n dX12_readClause_1 rfl ?_
  obtain ⟨v1, e2, h⟩ := bnd h
  refine wp_getR (c := 12) (k := 0) dX12_readClause_2 e2 (by decide) (by decide) rfl fl_RX12_21 ?_
  obtain ⟨q3, e4, h⟩ := bnd h
  refine wp_callV (As := [.inr v1]) dX12_readClause_5 (sh_X12_which_ok (d := d + 2) e4) okX12_which nnX12_which vvX12_which ml_RX12_207 rfl (Nat.le_of_ble_eq_true rfl) ?_
  refine wp_istore_n dX12_readClause_8 (Nat.le_of_ble_eq_true rfl) ?_
  refine wp_iload_n dX12_readClause_9 rfl ?_
  refine wp_iconst (v := (-1)) dX12_readClause_10 (by decide) ?_
  refine wp_icmp_ne (tgt := 19) dX12_readClause_11 (by decide) (fun hc_ => ?_) (fun hc_ => ?_)
  · replace h := ite_f hc_ h
    exact wp_ls (lsS (lsS lsZ)) (X12_readClause_J19_ok h)
  · replace h := ite_t hc_ h
    refine wp_aload_n dX12_readClause_14 rfl ?_
    refine wp_iconst (v := 1) dX12_readClause_15 (by decide) ?_
    obtain ⟨q5, e6, h⟩ := bnd h
    refine wp_callV (As := [.inl 1]) dX12_readClause_16 (sh_X12_wrong_ok (d := d + 9) e6) okX12_wrong nnX12_wrong vvX12_wrong ml_RX12_194 rfl (Nat.le_of_ble_eq_true rfl) ?_
    exact wp_ls (lsS (lsS lsZ)) (X12_readClause_J19_ok h)

theorem sh_X12_readClause_ok {w : Gw} {d : Nat} {x0 : Nat} {M : Gm} {out : Gm} (h : sh_X12_readClause x0 M = some out) : Ev w mdX12_readClause (d + 10) [.inr x0] M (.inl none) out := by
  obtain ⟨u, e0, h⟩ := bnd h
  exact ev_of okX12_readClause ⟨_, _, rfl, isO_of e0 (by decide), by decide⟩ (Nat.le_of_ble_eq_true rfl) (X12_readClause_F_ok h)

/-! HeatGovernorModel.plan(I)I -/
def X12_plan_J17 (x0 : Nat) (M : Gm) : Option (Int32 × Gm) :=
  (sh_X12_fail x0 1 M).bind fun q1 =>
  some (q1.1, q1.2)
def X12_plan_B68 (x0 : Nat) (q : Gm) : Option (Gm ⊕ Gm) :=
  (gfI q x0 12 18).bind fun v1 =>
  if v1 = 0 then
    (gfI q x0 12 14).bind fun v3 =>
    if v3 = 0 then
      some (.inr q)
    else
      (sh_X12_readClause x0 q).bind fun q5 =>
      some (.inl q5)
  else
    some (.inr q)
def X12_plan_J89 (x0 : Nat) (M : Gm) : Option (Int32 × Gm) :=
  (gfI M x0 12 18).bind fun v1 =>
  if v1 = 0 then
    (gfR M x0 12 5).bind fun v3 =>
    (gfR M x0 12 7).bind fun v5 =>
    (sh_X12_copyTo v3 v5 M).bind fun q7 =>
    (gfR q7 x0 12 6).bind fun v9 =>
    (gfR q7 x0 12 8).bind fun v11 =>
    (sh_X12_copyTo v9 v11 q7).bind fun q13 =>
    (pfI q13 x0 12 26 0).bind fun M15 =>
    (pfI M15 x0 12 28 0).bind fun M17 =>
    (pfZ M17 x0 12 35 0).bind fun M19 =>
    some (0, M19)
  else
    (gfI M x0 12 19).bind fun v21 =>
    (pfI M x0 12 20 v21).bind fun M23 =>
    (gfR M23 x0 12 9).bind fun v25 =>
    (ldA M23 0 v25 0).bind fun v27 =>
    (stA M23 0 v25 0 (v27 + 1)).bind fun M29 =>
    (gfI M29 x0 12 18).bind fun v31 =>
    some (v31, M29)
def X12_plan_F (x0 : Nat) (x1 : Int32) (M : Gm) : Option (Int32 × Gm) :=
  (pfI M x0 12 4 0).bind fun M1 =>
  if x1 < 0 then
    X12_plan_J17 x0 M1
  else
    (gfI M1 x0 12 11).bind fun v3 =>
    if x1 ≤ v3 then
      (pfI M1 x0 12 11 0).bind fun M5 =>
      (pfI M5 x0 12 13 x1).bind fun M7 =>
      (pfI M7 x0 12 12 0).bind fun M9 =>
      (pfI M9 x0 12 18 0).bind fun M11 =>
      (pfI M11 x0 12 20 ((-1))).bind fun M13 =>
      (pfZ M13 x0 12 21 0).bind fun M15 =>
      (gfR M15 x0 12 7).bind fun v17 =>
      (gfR M15 x0 12 8).bind fun v19 =>
      (sh_X12_empties v17 v19 M15).bind fun q21 =>
      (sh_X12_stepOn x0 q21).bind fun q23 =>
      (lp (X12_plan_B68 x0) FU q23).bind fun r25 =>
      X12_plan_J89 x0 r25
    else
      X12_plan_J17 x0 M1
def sh_X12_plan (x0 : Nat) (x1 : Int32) (M : Gm) : Option (Int32 × Gm) := (isO M x0 12).bind fun _ => X12_plan_F x0 x1 M
theorem X12_plan_J17_ok {w : Gw} {d : Nat} {x0 : Nat} {M : Gm} {out : Int32 × Gm} (h : X12_plan_J17 x0 M = some out) : Wp w mdX12_plan (d + 11) 17 [some (.inr x0), none] [] M (.inl (some (.inl out.1))) out.2 := by
  unfold X12_plan_J17 at h
  refine wp_aload_n dX12_plan_17 rfl ?_
  refine wp_iconst (v := 1) dX12_plan_18 (by decide) ?_
  obtain ⟨q1, e2, h⟩ := bnd h
  refine wp_callV (As := [.inl 1]) dX12_plan_19 (sh_X12_fail_ok (d := d + 10) e2) okX12_fail nnX12_fail vvX12_fail ml_RX12_245 rfl (Nat.le_of_ble_eq_true rfl) ?_
  cases h
  exact wp_iret dX12_plan_22 rfl

theorem X12_plan_B68_ok {w : Gw} {d : Nat} {x0 : Nat} {q : Gm} {o : Go} {M' : Gm} {out : Gm ⊕ Gm} (h : X12_plan_B68 x0 q = some out) (hc : ∀ t : Gm, out = .inl t → Wp w mdX12_plan (d + 11) 68 [some (.inr x0), none] [] t o M') (he0 : ∀ t : Gm, out = .inr t → Wp w mdX12_plan (d + 11) 89 [some (.inr x0), none] [] t o M') : Wp w mdX12_plan (d + 11) 68 [some (.inr x0), none] [] q o M' := by
  unfold X12_plan_B68 at h
  refine wp_aload_n dX12_plan_68 rfl ?_
  obtain ⟨v1, e2, h⟩ := bnd h
  refine wp_getI (c := 12) (k := 18) dX12_plan_69 e2 (by decide) (by decide) rfl fl_RX12_173 ?_
  refine wp_if_ne (tgt := 89) dX12_plan_72 (by decide) (fun hc_ => ?_) (fun hc_ => ?_)
  · replace h := ite_f hc_ h
    cases h
    exact wp_ls (lsS (lsN lsZ)) (he0 q rfl)
  · replace h := ite_t hc_ h
    refine wp_aload_n dX12_plan_75 rfl ?_
    obtain ⟨v3, e4, h⟩ := bnd h
    refine wp_getI (c := 12) (k := 14) dX12_plan_76 e4 (by decide) (by decide) rfl fl_RX12_150 ?_
    refine wp_if_eq (tgt := 89) dX12_plan_79 (by decide) (fun hc_ => ?_) (fun hc_ => ?_)
    · replace h := ite_t hc_ h
      cases h
      exact wp_ls (lsS (lsN lsZ)) (he0 q rfl)
    · replace h := ite_f hc_ h
      refine wp_aload_n dX12_plan_82 rfl ?_
      obtain ⟨q5, e6, h⟩ := bnd h
      refine wp_callV (As := []) dX12_plan_83 (sh_X12_readClause_ok (d := d) e6) okX12_readClause nnX12_readClause vvX12_readClause ml_RX12_248 rfl (Nat.le_of_ble_eq_true rfl) ?_
      refine wp_goto (tgt := 68) dX12_plan_86 (by decide) ?_
      cases h
      exact wp_ls (lsS (lsN lsZ)) (hc q5 rfl)

theorem X12_plan_B68_lp {w : Gw} {d : Nat} {x0 : Nat} {o : Go} {M' : Gm} {r : Gm} : ∀ (n : Nat) (q : Gm), lp (X12_plan_B68 x0) n q = some r → (∀ t : Gm, r = t → Wp w mdX12_plan (d + 11) 89 [some (.inr x0), none] [] t o M') → Wp w mdX12_plan (d + 11) 68 [some (.inr x0), none] [] q o M' := by
  intro n
  induction n with
  | zero => intro q h; cases h
  | succ n ih =>
    intro q h he0
    cases hb : X12_plan_B68 x0 q with
    | none => rw [lp_succ, hb] at h; cases h
    | some out =>
      rw [lp_succ, hb] at h
      exact X12_plan_B68_ok hb (fun t e => ih t (by rw [e] at h; exact h) he0) (fun t e => he0 t (by rw [e] at h; cases h; rfl))
theorem X12_plan_J89_ok {w : Gw} {d : Nat} {x0 : Nat} {M : Gm} {out : Int32 × Gm} (h : X12_plan_J89 x0 M = some out) : Wp w mdX12_plan (d + 11) 89 [some (.inr x0), none] [] M (.inl (some (.inl out.1))) out.2 := by
  unfold X12_plan_J89 at h
  refine wp_aload_n dX12_plan_89 rfl ?_
  obtain ⟨v1, e2, h⟩ := bnd h
  refine wp_getI (c := 12) (k := 18) dX12_plan_90 e2 (by decide) (by decide) rfl fl_RX12_173 ?_
  refine wp_if_eq (tgt := 119) dX12_plan_93 (by decide) (fun hc_ => ?_) (fun hc_ => ?_)
  · replace h := ite_t hc_ h
    refine wp_aload_n dX12_plan_119 rfl ?_
    obtain ⟨v3, e4, h⟩ := bnd h
    refine wp_getR (c := 12) (k := 5) dX12_plan_120 e4 (by decide) (by decide) rfl fl_RX12_58 ?_
    refine wp_aload_n dX12_plan_123 rfl ?_
    obtain ⟨v5, e6, h⟩ := bnd h
    refine wp_getR (c := 12) (k := 7) dX12_plan_124 e6 (by decide) (by decide) rfl fl_RX12_65 ?_
    obtain ⟨q7, e8, h⟩ := bnd h
    refine wp_callS (As := [.inr v3, .inr v5]) dX12_plan_127 (sh_X12_copyTo_ok (d := d + 10) e8) okX12_copyTo nnX12_copyTo ssX12_copyTo ml_RX12_251 rfl (Nat.le_of_ble_eq_true rfl) ?_
    refine wp_aload_n dX12_plan_130 rfl ?_
    obtain ⟨v9, e10, h⟩ := bnd h
    refine wp_getR (c := 12) (k := 6) dX12_plan_131 e10 (by decide) (by decide) rfl fl_RX12_62 ?_
    refine wp_aload_n dX12_plan_134 rfl ?_
    obtain ⟨v11, e12, h⟩ := bnd h
    refine wp_getR (c := 12) (k := 8) dX12_plan_135 e12 (by decide) (by decide) rfl fl_RX12_68 ?_
    obtain ⟨q13, e14, h⟩ := bnd h
    refine wp_callS (As := [.inr v9, .inr v11]) dX12_plan_138 (sh_X12_copyTo_ok (d := d + 10) e14) okX12_copyTo nnX12_copyTo ssX12_copyTo ml_RX12_251 rfl (Nat.le_of_ble_eq_true rfl) ?_
    refine wp_aload_n dX12_plan_141 rfl ?_
    refine wp_iconst (v := 0) dX12_plan_142 (by decide) ?_
    obtain ⟨M15, e16, h⟩ := bnd h
    refine wp_putI (c := 12) (k := 26) dX12_plan_143 e16 (by decide) (by decide) rfl fl_RX12_254 (Or.inl rfl) ?_
    refine wp_aload_n dX12_plan_146 rfl ?_
    refine wp_iconst (v := 0) dX12_plan_147 (by decide) ?_
    obtain ⟨M17, e18, h⟩ := bnd h
    refine wp_putI (c := 12) (k := 28) dX12_plan_148 e18 (by decide) (by decide) rfl fl_RX12_257 (Or.inl rfl) ?_
    refine wp_aload_n dX12_plan_151 rfl ?_
    refine wp_iconst (v := 0) dX12_plan_152 (by decide) ?_
    obtain ⟨M19, e20, h⟩ := bnd h
    refine wp_putZ (c := 12) (k := 35) dX12_plan_153 e20 (by decide) (by decide) rfl fl_RX12_260 (Or.inl rfl) ?_
    refine wp_iconst (v := 0) dX12_plan_156 (by decide) ?_
    cases h
    exact wp_iret dX12_plan_157 rfl
  · replace h := ite_f hc_ h
    refine wp_aload_n dX12_plan_96 rfl ?_
    refine wp_aload_n dX12_plan_97 rfl ?_
    obtain ⟨v21, e22, h⟩ := bnd h
    refine wp_getI (c := 12) (k := 19) dX12_plan_98 e22 (by decide) (by decide) rfl fl_RX12_176 ?_
    obtain ⟨M23, e24, h⟩ := bnd h
    refine wp_putI (c := 12) (k := 20) dX12_plan_101 e24 (by decide) (by decide) rfl fl_RX12_77 (Or.inl rfl) ?_
    refine wp_aload_n dX12_plan_104 rfl ?_
    obtain ⟨v25, e26, h⟩ := bnd h
    refine wp_getR (c := 12) (k := 9) dX12_plan_105 e26 (by decide) (by decide) rfl fl_RX12_71 ?_
    refine wp_iconst (v := 0) dX12_plan_108 (by decide) ?_
    refine wp_dup2 dX12_plan_109 ?_
    obtain ⟨v27, e28, h⟩ := bnd h
    refine wp_iaload dX12_plan_110 e28 ?_
    refine wp_iconst (v := 1) dX12_plan_111 (by decide) ?_
    refine wp_iadd dX12_plan_112 ?_
    obtain ⟨M29, e30, h⟩ := bnd h
    refine wp_iastore dX12_plan_113 e30 ?_
    refine wp_aload_n dX12_plan_114 rfl ?_
    obtain ⟨v31, e32, h⟩ := bnd h
    refine wp_getI (c := 12) (k := 18) dX12_plan_115 e32 (by decide) (by decide) rfl fl_RX12_173 ?_
    cases h
    exact wp_iret dX12_plan_118 rfl

theorem X12_plan_F_ok {w : Gw} {d : Nat} {x0 : Nat} {x1 : Int32} {M : Gm} {out : Int32 × Gm} (h : X12_plan_F x0 x1 M = some out) : Wp w mdX12_plan (d + 11) 0 [some (.inr x0), some (.inl x1)] [] M (.inl (some (.inl out.1))) out.2 := by
  unfold X12_plan_F at h
  refine wp_aload_n dX12_plan_0 rfl ?_
  refine wp_iconst (v := 0) dX12_plan_1 (by decide) ?_
  obtain ⟨M1, e2, h⟩ := bnd h
  refine wp_putI (c := 12) (k := 4) dX12_plan_2 e2 (by decide) (by decide) rfl fl_RX12_131 (Or.inl rfl) ?_
  refine wp_iload_n dX12_plan_5 rfl ?_
  refine wp_if_lt (tgt := 17) dX12_plan_6 (by decide) (fun hc_ => ?_) (fun hc_ => ?_)
  · replace h := ite_t hc_ h
    exact wp_ls (lsS (lsN lsZ)) (X12_plan_J17_ok h)
  · replace h := ite_f hc_ h
    refine wp_iload_n dX12_plan_9 rfl ?_
    refine wp_aload_n dX12_plan_10 rfl ?_
    obtain ⟨v3, e4, h⟩ := bnd h
    refine wp_getI (c := 12) (k := 11) dX12_plan_11 e4 (by decide) (by decide) rfl fl_RX12_134 ?_
    refine wp_icmp_le (tgt := 23) dX12_plan_14 (by decide) (fun hc_ => ?_) (fun hc_ => ?_)
    · replace h := ite_t hc_ h
      refine wp_aload_n dX12_plan_23 rfl ?_
      refine wp_iconst (v := 0) dX12_plan_24 (by decide) ?_
      obtain ⟨M5, e6, h⟩ := bnd h
      refine wp_putI (c := 12) (k := 11) dX12_plan_25 e6 (by decide) (by decide) rfl fl_RX12_134 (Or.inl rfl) ?_
      refine wp_aload_n dX12_plan_28 rfl ?_
      refine wp_iload_n dX12_plan_29 rfl ?_
      obtain ⟨M7, e8, h⟩ := bnd h
      refine wp_putI (c := 12) (k := 13) dX12_plan_30 e8 (by decide) (by decide) rfl fl_RX12_137 (Or.inl rfl) ?_
      refine wp_aload_n dX12_plan_33 rfl ?_
      refine wp_iconst (v := 0) dX12_plan_34 (by decide) ?_
      obtain ⟨M9, e10, h⟩ := bnd h
      refine wp_putI (c := 12) (k := 12) dX12_plan_35 e10 (by decide) (by decide) rfl fl_RX12_140 (Or.inl rfl) ?_
      refine wp_aload_n dX12_plan_38 rfl ?_
      refine wp_iconst (v := 0) dX12_plan_39 (by decide) ?_
      obtain ⟨M11, e12, h⟩ := bnd h
      refine wp_putI (c := 12) (k := 18) dX12_plan_40 e12 (by decide) (by decide) rfl fl_RX12_173 (Or.inl rfl) ?_
      refine wp_aload_n dX12_plan_43 rfl ?_
      refine wp_iconst (v := (-1)) dX12_plan_44 (by decide) ?_
      obtain ⟨M13, e14, h⟩ := bnd h
      refine wp_putI (c := 12) (k := 20) dX12_plan_45 e14 (by decide) (by decide) rfl fl_RX12_77 (Or.inl rfl) ?_
      refine wp_aload_n dX12_plan_48 rfl ?_
      refine wp_iconst (v := 0) dX12_plan_49 (by decide) ?_
      obtain ⟨M15, e16, h⟩ := bnd h
      refine wp_putZ (c := 12) (k := 21) dX12_plan_50 e16 (by decide) (by decide) rfl fl_RX12_226 (Or.inl rfl) ?_
      refine wp_aload_n dX12_plan_53 rfl ?_
      obtain ⟨v17, e18, h⟩ := bnd h
      refine wp_getR (c := 12) (k := 7) dX12_plan_54 e18 (by decide) (by decide) rfl fl_RX12_65 ?_
      refine wp_aload_n dX12_plan_57 rfl ?_
      obtain ⟨v19, e20, h⟩ := bnd h
      refine wp_getR (c := 12) (k := 8) dX12_plan_58 e20 (by decide) (by decide) rfl fl_RX12_68 ?_
      obtain ⟨q21, e22, h⟩ := bnd h
      refine wp_callS (As := [.inr v17, .inr v19]) dX12_plan_61 (sh_X12_empties_ok (d := d + 10) e22) okX12_empties nnX12_empties ssX12_empties ml_RX12_127 rfl (Nat.le_of_ble_eq_true rfl) ?_
      refine wp_aload_n dX12_plan_64 rfl ?_
      obtain ⟨q23, e24, h⟩ := bnd h
      refine wp_callV (As := []) dX12_plan_65 (sh_X12_stepOn_ok (d := d + 9) e24) okX12_stepOn nnX12_stepOn vvX12_stepOn ml_RX12_191 rfl (Nat.le_of_ble_eq_true rfl) ?_
      obtain ⟨r25, e26, h⟩ := bnd h
      refine wp_ls (lsS (lsN lsZ)) (X12_plan_B68_lp FU _ e26 ?_)
      intro t_ ht_; cases ht_
      exact wp_ls (lsS (lsN lsZ)) (X12_plan_J89_ok h)
    · replace h := ite_f hc_ h
      exact wp_ls (lsS (lsN lsZ)) (X12_plan_J17_ok h)

theorem sh_X12_plan_ok {w : Gw} {d : Nat} {x0 : Nat} {x1 : Int32} {M : Gm} {out : Int32 × Gm} (h : sh_X12_plan x0 x1 M = some out) : Ev w mdX12_plan (d + 11) [.inr x0, .inl x1] M (.inl (some (.inl out.1))) out.2 := by
  obtain ⟨u, e0, h⟩ := bnd h
  exact ev_of okX12_plan ⟨_, _, rfl, isO_of e0 (by decide), by decide⟩ (Nat.le_of_ble_eq_true rfl) (X12_plan_F_ok h)

/-! HeatGovernorModel.fault()I -/
def X12_fault_F (x0 : Nat) (M : Gm) : Option (Int32 × Gm) :=
  (pfI M x0 12 4 0).bind fun M1 =>
  (gfI M1 x0 12 20).bind fun v3 =>
  some (v3, M1)
def sh_X12_fault (x0 : Nat) (M : Gm) : Option (Int32 × Gm) := (isO M x0 12).bind fun _ => X12_fault_F x0 M
theorem X12_fault_F_ok {w : Gw} {d : Nat} {x0 : Nat} {M : Gm} {out : Int32 × Gm} (h : X12_fault_F x0 M = some out) : Wp w mdX12_fault d 0 [some (.inr x0)] [] M (.inl (some (.inl out.1))) out.2 := by
  unfold X12_fault_F at h
  refine wp_aload_n dX12_fault_0 rfl ?_
  refine wp_iconst (v := 0) dX12_fault_1 (by decide) ?_
  obtain ⟨M1, e2, h⟩ := bnd h
  refine wp_putI (c := 12) (k := 4) dX12_fault_2 e2 (by decide) (by decide) rfl fl_RX12_131 (Or.inl rfl) ?_
  refine wp_aload_n dX12_fault_5 rfl ?_
  obtain ⟨v3, e4, h⟩ := bnd h
  refine wp_getI (c := 12) (k := 20) dX12_fault_6 e4 (by decide) (by decide) rfl fl_RX12_77 ?_
  cases h
  exact wp_iret dX12_fault_9 rfl

theorem sh_X12_fault_ok {w : Gw} {d : Nat} {x0 : Nat} {M : Gm} {out : Int32 × Gm} (h : sh_X12_fault x0 M = some out) : Ev w mdX12_fault d [.inr x0] M (.inl (some (.inl out.1))) out.2 := by
  obtain ⟨u, e0, h⟩ := bnd h
  exact ev_of okX12_fault ⟨_, _, rfl, isO_of e0 (by decide), by decide⟩ (Nat.le_of_ble_eq_true rfl) (X12_fault_F_ok h)

/-! HeatGovernorModel.devices()I -/
def X12_devices_F (x0 : Nat) (M : Gm) : Option (Int32) :=
  (gfR M x0 12 6).bind fun v1 =>
  (ldA M 0 v1 165).bind fun v3 =>
  some v3
def sh_X12_devices (x0 : Nat) (M : Gm) : Option (Int32) := (isO M x0 12).bind fun _ => X12_devices_F x0 M
theorem X12_devices_F_ok {w : Gw} {d : Nat} {x0 : Nat} {M : Gm} {out : Int32} (h : X12_devices_F x0 M = some out) : Wp w mdX12_devices d 0 [some (.inr x0)] [] M (.inl (some (.inl out))) M := by
  unfold X12_devices_F at h
  refine wp_aload_n dX12_devices_0 rfl ?_
  obtain ⟨v1, e2, h⟩ := bnd h
  refine wp_getR (c := 12) (k := 6) dX12_devices_1 e2 (by decide) (by decide) rfl fl_RX12_62 ?_
  refine wp_sipush (v := 165) dX12_devices_4 (by decide) ?_
  obtain ⟨v3, e4, h⟩ := bnd h
  refine wp_iaload dX12_devices_7 e4 ?_
  cases h
  exact wp_iret dX12_devices_8 rfl

theorem sh_X12_devices_ok {w : Gw} {d : Nat} {x0 : Nat} {M : Gm} {out : Int32} (h : sh_X12_devices x0 M = some out) : Ev w mdX12_devices d [.inr x0] M (.inl (some (.inl out))) M := by
  obtain ⟨u, e0, h⟩ := bnd h
  exact ev_of okX12_devices ⟨_, _, rfl, isO_of e0 (by decide), by decide⟩ (Nat.le_of_ble_eq_true rfl) (X12_devices_F_ok h)

/-! HeatGovernorModel.read(II)I -/
def X12_read_F (x0 : Nat) (x1 : Int32) (x2 : Int32) (M : Gm) : Option (Int32) :=
  (gfR M x0 12 5).bind fun v1 =>
  (ldA M 0 v1 ((30 + (4 * x1)) + x2)).bind fun v3 =>
  some v3
def sh_X12_read (x0 : Nat) (x1 : Int32) (x2 : Int32) (M : Gm) : Option (Int32) := (isO M x0 12).bind fun _ => X12_read_F x0 x1 x2 M
theorem X12_read_F_ok {w : Gw} {d : Nat} {x0 : Nat} {x1 : Int32} {x2 : Int32} {M : Gm} {out : Int32} (h : X12_read_F x0 x1 x2 M = some out) : Wp w mdX12_read d 0 [some (.inr x0), some (.inl x1), some (.inl x2)] [] M (.inl (some (.inl out))) M := by
  unfold X12_read_F at h
  refine wp_aload_n dX12_read_0 rfl ?_
  obtain ⟨v1, e2, h⟩ := bnd h
  refine wp_getR (c := 12) (k := 5) dX12_read_1 e2 (by decide) (by decide) rfl fl_RX12_58 ?_
  refine wp_bipush (v := 30) dX12_read_4 (by decide) ?_
  refine wp_iconst (v := 4) dX12_read_6 (by decide) ?_
  refine wp_iload_n dX12_read_7 rfl ?_
  refine wp_imul dX12_read_8 ?_
  refine wp_iadd dX12_read_9 ?_
  refine wp_iload_n dX12_read_10 rfl ?_
  refine wp_iadd dX12_read_11 ?_
  obtain ⟨v3, e4, h⟩ := bnd h
  refine wp_iaload dX12_read_12 e4 ?_
  cases h
  exact wp_iret dX12_read_13 rfl

theorem sh_X12_read_ok {w : Gw} {d : Nat} {x0 : Nat} {x1 : Int32} {x2 : Int32} {M : Gm} {out : Int32} (h : sh_X12_read x0 x1 x2 M = some out) : Ev w mdX12_read d [.inr x0, .inl x1, .inl x2] M (.inl (some (.inl out))) M := by
  obtain ⟨u, e0, h⟩ := bnd h
  exact ev_of okX12_read ⟨_, _, rfl, isO_of e0 (by decide), by decide⟩ (Nat.le_of_ble_eq_true rfl) (X12_read_F_ok h)

/-! HeatGovernorModel.trips()I -/
def X12_trips_F (x0 : Nat) (M : Gm) : Option (Int32) :=
  (gfR M x0 12 6).bind fun v1 =>
  (ldA M 0 v1 164).bind fun v3 =>
  some v3
def sh_X12_trips (x0 : Nat) (M : Gm) : Option (Int32) := (isO M x0 12).bind fun _ => X12_trips_F x0 M
theorem X12_trips_F_ok {w : Gw} {d : Nat} {x0 : Nat} {M : Gm} {out : Int32} (h : X12_trips_F x0 M = some out) : Wp w mdX12_trips d 0 [some (.inr x0)] [] M (.inl (some (.inl out))) M := by
  unfold X12_trips_F at h
  refine wp_aload_n dX12_trips_0 rfl ?_
  obtain ⟨v1, e2, h⟩ := bnd h
  refine wp_getR (c := 12) (k := 6) dX12_trips_1 e2 (by decide) (by decide) rfl fl_RX12_62 ?_
  refine wp_sipush (v := 164) dX12_trips_4 (by decide) ?_
  obtain ⟨v3, e4, h⟩ := bnd h
  refine wp_iaload dX12_trips_7 e4 ?_
  cases h
  exact wp_iret dX12_trips_8 rfl

theorem sh_X12_trips_ok {w : Gw} {d : Nat} {x0 : Nat} {M : Gm} {out : Int32} (h : sh_X12_trips x0 M = some out) : Ev w mdX12_trips d [.inr x0] M (.inl (some (.inl out))) M := by
  obtain ⟨u, e0, h⟩ := bnd h
  exact ev_of okX12_trips ⟨_, _, rfl, isO_of e0 (by decide), by decide⟩ (Nat.le_of_ble_eq_true rfl) (X12_trips_F_ok h)

/-! HeatGovernorModel.zones()I -/
def X12_zones_F (x0 : Nat) (M : Gm) : Option (Int32) :=
  (gfR M x0 12 6).bind fun v1 =>
  (ldA M 0 v1 163).bind fun v3 =>
  some v3
def sh_X12_zones (x0 : Nat) (M : Gm) : Option (Int32) := (isO M x0 12).bind fun _ => X12_zones_F x0 M
theorem X12_zones_F_ok {w : Gw} {d : Nat} {x0 : Nat} {M : Gm} {out : Int32} (h : X12_zones_F x0 M = some out) : Wp w mdX12_zones d 0 [some (.inr x0)] [] M (.inl (some (.inl out))) M := by
  unfold X12_zones_F at h
  refine wp_aload_n dX12_zones_0 rfl ?_
  obtain ⟨v1, e2, h⟩ := bnd h
  refine wp_getR (c := 12) (k := 6) dX12_zones_1 e2 (by decide) (by decide) rfl fl_RX12_62 ?_
  refine wp_sipush (v := 163) dX12_zones_4 (by decide) ?_
  obtain ⟨v3, e4, h⟩ := bnd h
  refine wp_iaload dX12_zones_7 e4 ?_
  cases h
  exact wp_iret dX12_zones_8 rfl

theorem sh_X12_zones_ok {w : Gw} {d : Nat} {x0 : Nat} {M : Gm} {out : Int32} (h : sh_X12_zones x0 M = some out) : Ev w mdX12_zones d [.inr x0] M (.inl (some (.inl out))) M := by
  obtain ⟨u, e0, h⟩ := bnd h
  exact ev_of okX12_zones ⟨_, _, rfl, isO_of e0 (by decide), by decide⟩ (Nat.le_of_ble_eq_true rfl) (X12_zones_F_ok h)

/-! HeatGovernorModel.isAgain()Z -/
def X12_isAgain_J145 (x0 : Nat) (x2 : Int32) (x3 : Int32) (s0 : Int32) (M : Gm) : Option ((Int32 × Int32) ⊕ Int32) :=
  some (.inl (s0, x3 + 1))
def X12_isAgain_J144 (x0 : Nat) (x2 : Int32) (x3 : Int32) (M : Gm) : Option ((Int32 × Int32) ⊕ Int32) :=
  X12_isAgain_J145 x0 x2 x3 0 M
def X12_isAgain_J140 (x0 : Nat) (x2 : Int32) (x3 : Int32) (M : Gm) : Option ((Int32 × Int32) ⊕ Int32) :=
  X12_isAgain_J145 x0 x2 x3 1 M
def X12_isAgain_J118 (x0 : Nat) (x2 : Int32) (x3 : Int32) (M : Gm) : Option ((Int32 × Int32) ⊕ Int32) :=
  (sh_X12_read x0 x2 x3 M).bind fun q1 =>
  (gfR M x0 12 24).bind fun v3 =>
  (ldA M 0 v3 ((30 + (4 * x2)) + x3)).bind fun v5 =>
  if q1 = v5 then
    X12_isAgain_J140 x0 x2 x3 M
  else
    X12_isAgain_J144 x0 x2 x3 M
def X12_isAgain_B85 (x0 : Nat) (x2 : Int32) (M : Gm) (q : Int32 × Int32) : Option ((Int32 × Int32) ⊕ Int32) :=
  (gfR M x0 12 6).bind fun v1 =>
  (ldA M 0 v1 (10 + x2)).bind fun v3 =>
  if v3 ≤ q.2 then
    some (.inr q.1)
  else
    if q.1 = 0 then
      X12_isAgain_J144 x0 x2 q.2 M
    else
      (gfR M x0 12 6).bind fun v5 =>
      (ldA M 0 v5 (5 + x2)).bind fun v7 =>
      if v7 = 3 then
        if 0 < q.2 then
          X12_isAgain_J140 x0 x2 q.2 M
        else
          X12_isAgain_J118 x0 x2 q.2 M
      else
        X12_isAgain_J118 x0 x2 q.2 M
def X12_isAgain_J82 (x0 : Nat) (x2 : Int32) (s0 : Int32) (M : Gm) : Option ((Int32 × Int32) ⊕ Int32) :=
  (lp (X12_isAgain_B85 x0 x2 M) FU (s0, 0)).bind fun r1 =>
  some (.inl (r1, x2 + 1))
def X12_isAgain_J81 (x0 : Nat) (x2 : Int32) (M : Gm) : Option ((Int32 × Int32) ⊕ Int32) :=
  X12_isAgain_J82 x0 x2 0 M
def X12_isAgain_B4 (x0 : Nat) (M : Gm) (q : Int32 × Int32) : Option ((Int32 × Int32) ⊕ Int32) :=
  (sh_X12_zones x0 M).bind fun q1 =>
  if q1 ≤ q.2 then
    some (.inr q.1)
  else
    if q.1 = 0 then
      X12_isAgain_J81 x0 q.2 M
    else
      (gfR M x0 12 5).bind fun v3 =>
      (ldA M 0 v3 (0 + q.2)).bind fun v5 =>
      (gfR M x0 12 24).bind fun v7 =>
      (ldA M 0 v7 (0 + q.2)).bind fun v9 =>
      if v5 = v9 then
        (gfR M x0 12 5).bind fun v11 =>
        (ldA M 0 v11 (10 + q.2)).bind fun v13 =>
        (gfR M x0 12 24).bind fun v15 =>
        (ldA M 0 v15 (10 + q.2)).bind fun v17 =>
        if v13 = v17 then
          (gfR M x0 12 5).bind fun v19 =>
          (ldA M 0 v19 (20 + q.2)).bind fun v21 =>
          (gfR M x0 12 24).bind fun v23 =>
          (ldA M 0 v23 (20 + q.2)).bind fun v25 =>
          if v21 = v25 then
            X12_isAgain_J82 x0 q.2 1 M
          else
            X12_isAgain_J81 x0 q.2 M
        else
          X12_isAgain_J81 x0 q.2 M
      else
        X12_isAgain_J81 x0 q.2 M
def X12_isAgain_J198 (x0 : Nat) (x2 : Int32) (s0 : Int32) (M : Gm) : Option ((Int32 × Int32) ⊕ Int32) :=
  some (.inl (s0, x2 + 1))
def X12_isAgain_J197 (x0 : Nat) (x2 : Int32) (M : Gm) : Option ((Int32 × Int32) ⊕ Int32) :=
  X12_isAgain_J198 x0 x2 0 M
def X12_isAgain_B160 (x0 : Nat) (M : Gm) (q : Int32 × Int32) : Option ((Int32 × Int32) ⊕ Int32) :=
  (sh_X12_trips x0 M).bind fun q1 =>
  if q1 ≤ q.2 then
    some (.inr q.1)
  else
    if q.1 = 0 then
      X12_isAgain_J197 x0 q.2 M
    else
      (gfR M x0 12 5).bind fun v3 =>
      (ldA M 0 v3 (50 + q.2)).bind fun v5 =>
      (gfR M x0 12 24).bind fun v7 =>
      (ldA M 0 v7 (50 + q.2)).bind fun v9 =>
      if v5 = v9 then
        X12_isAgain_J198 x0 q.2 1 M
      else
        X12_isAgain_J197 x0 q.2 M
def X12_isAgain_J245 (x0 : Nat) (x2 : Int32) (s0 : Int32) (M : Gm) : Option ((Int32 × Int32) ⊕ Int32) :=
  some (.inl (s0, x2 + 1))
def X12_isAgain_J244 (x0 : Nat) (x2 : Int32) (M : Gm) : Option ((Int32 × Int32) ⊕ Int32) :=
  X12_isAgain_J245 x0 x2 0 M
def X12_isAgain_B207 (x0 : Nat) (M : Gm) (q : Int32 × Int32) : Option ((Int32 × Int32) ⊕ Int32) :=
  (sh_X12_devices x0 M).bind fun q1 =>
  if q1 ≤ q.2 then
    some (.inr q.1)
  else
    if q.1 = 0 then
      X12_isAgain_J244 x0 q.2 M
    else
      (gfR M x0 12 5).bind fun v3 =>
      (ldA M 0 v3 (70 + q.2)).bind fun v5 =>
      (gfR M x0 12 24).bind fun v7 =>
      (ldA M 0 v7 (70 + q.2)).bind fun v9 =>
      if v5 = v9 then
        X12_isAgain_J245 x0 q.2 1 M
      else
        X12_isAgain_J244 x0 q.2 M
def X12_isAgain_J286 (x0 : Nat) (x2 : Int32) (s0 : Int32) (M : Gm) : Option ((Int32 × Int32) ⊕ Int32) :=
  some (.inl (s0, x2 + 1))
def X12_isAgain_B255 (x0 : Nat) (M : Gm) (q : Int32 × Int32) : Option ((Int32 × Int32) ⊕ Int32) :=
  if 142 ≤ q.2 then
    some (.inr q.1)
  else
    if q.1 = 0 then
      some (.inr q.1)
    else
      (gfR M x0 12 5).bind fun v1 =>
      (ldA M 0 v1 q.2).bind fun v3 =>
      (gfR M x0 12 24).bind fun v5 =>
      (ldA M 0 v5 q.2).bind fun v7 =>
      if v3 = v7 then
        X12_isAgain_J286 x0 q.2 1 M
      else
        X12_isAgain_J286 x0 q.2 0 M
def X12_isAgain_J293 (x1 : Int32) (M : Gm) : Option (Int32) :=
  (zck x1).bind fun z1 =>
  some z1
def X12_isAgain_F (x0 : Nat) (M : Gm) : Option (Int32) :=
  (lp (X12_isAgain_B4 x0 M) FU (1, 0)).bind fun r1 =>
  (lp (X12_isAgain_B160 x0 M) FU (r1, 0)).bind fun r3 =>
  (lp (X12_isAgain_B207 x0 M) FU (r3, 0)).bind fun r5 =>
  (lp (X12_isAgain_B255 x0 M) FU (r5, 82)).bind fun r7 =>
  X12_isAgain_J293 r7 M
def sh_X12_isAgain (x0 : Nat) (M : Gm) : Option (Int32) := (isO M x0 12).bind fun _ => X12_isAgain_F x0 M
theorem X12_isAgain_J145_ok {w : Gw} {d : Nat} {x0 : Nat} {x2 : Int32} {x3 : Int32} {s0 : Int32} {M : Gm} {o : Go} {M' : Gm} {out : (Int32 × Int32) ⊕ Int32} (h : X12_isAgain_J145 x0 x2 x3 s0 M = some out) (hc : ∀ t : Int32 × Int32, out = .inl t → Wp w mdX12_isAgain (d + 1) 85 [some (.inr x0), some (.inl t.1), some (.inl x2), some (.inl t.2)] [] M o M') (he0 : ∀ t : Int32, out = .inr t → Wp w mdX12_isAgain (d + 1) 152 [some (.inr x0), some (.inl t), some (.inl x2), none] [] M o M') : Wp w mdX12_isAgain (d + 1) 145 [some (.inr x0), none, some (.inl x2), some (.inl x3)] [.inl s0] M o M' := by
  unfold X12_isAgain_J145 at h
  refine wp_istore_n dX12_isAgain_145 (Nat.le_of_ble_eq_true rfl) ?_
  refine wp_iinc (v := x3 + 1) dX12_isAgain_146 rfl rfl ?_
  refine wp_goto (tgt := 85) dX12_isAgain_149 (by decide) ?_
  cases h
  exact wp_ls (lsS (lsS (lsS (lsS lsZ)))) (hc (s0, x3 + 1) rfl)

theorem X12_isAgain_J144_ok {w : Gw} {d : Nat} {x0 : Nat} {x2 : Int32} {x3 : Int32} {M : Gm} {o : Go} {M' : Gm} {out : (Int32 × Int32) ⊕ Int32} (h : X12_isAgain_J144 x0 x2 x3 M = some out) (hc : ∀ t : Int32 × Int32, out = .inl t → Wp w mdX12_isAgain (d + 1) 85 [some (.inr x0), some (.inl t.1), some (.inl x2), some (.inl t.2)] [] M o M') (he0 : ∀ t : Int32, out = .inr t → Wp w mdX12_isAgain (d + 1) 152 [some (.inr x0), some (.inl t), some (.inl x2), none] [] M o M') : Wp w mdX12_isAgain (d + 1) 144 [some (.inr x0), none, some (.inl x2), some (.inl x3)] [] M o M' := by
  unfold X12_isAgain_J144 at h
  refine wp_iconst (v := 0) dX12_isAgain_144 (by decide) ?_
  exact wp_ls (lsS (lsN (lsS (lsS lsZ)))) (X12_isAgain_J145_ok h hc he0)

theorem X12_isAgain_J140_ok {w : Gw} {d : Nat} {x0 : Nat} {x2 : Int32} {x3 : Int32} {M : Gm} {o : Go} {M' : Gm} {out : (Int32 × Int32) ⊕ Int32} (h : X12_isAgain_J140 x0 x2 x3 M = some out) (hc : ∀ t : Int32 × Int32, out = .inl t → Wp w mdX12_isAgain (d + 1) 85 [some (.inr x0), some (.inl t.1), some (.inl x2), some (.inl t.2)] [] M o M') (he0 : ∀ t : Int32, out = .inr t → Wp w mdX12_isAgain (d + 1) 152 [some (.inr x0), some (.inl t), some (.inl x2), none] [] M o M') : Wp w mdX12_isAgain (d + 1) 140 [some (.inr x0), none, some (.inl x2), some (.inl x3)] [] M o M' := by
  unfold X12_isAgain_J140 at h
  refine wp_iconst (v := 1) dX12_isAgain_140 (by decide) ?_
  refine wp_goto (tgt := 145) dX12_isAgain_141 (by decide) ?_
  exact wp_ls (lsS (lsN (lsS (lsS lsZ)))) (X12_isAgain_J145_ok h hc he0)

theorem X12_isAgain_J118_ok {w : Gw} {d : Nat} {x0 : Nat} {x2 : Int32} {x3 : Int32} {M : Gm} {o : Go} {M' : Gm} {out : (Int32 × Int32) ⊕ Int32} (h : X12_isAgain_J118 x0 x2 x3 M = some out) (hc : ∀ t : Int32 × Int32, out = .inl t → Wp w mdX12_isAgain (d + 1) 85 [some (.inr x0), some (.inl t.1), some (.inl x2), some (.inl t.2)] [] M o M') (he0 : ∀ t : Int32, out = .inr t → Wp w mdX12_isAgain (d + 1) 152 [some (.inr x0), some (.inl t), some (.inl x2), none] [] M o M') : Wp w mdX12_isAgain (d + 1) 118 [some (.inr x0), none, some (.inl x2), some (.inl x3)] [] M o M' := by
  unfold X12_isAgain_J118 at h
  refine wp_aload_n dX12_isAgain_118 rfl ?_
  refine wp_iload_n dX12_isAgain_119 rfl ?_
  refine wp_iload_n dX12_isAgain_120 rfl ?_
  obtain ⟨q1, e2, h⟩ := bnd h
  refine wp_callV (As := [.inl x2, .inl x3]) dX12_isAgain_121 (sh_X12_read_ok (d := d) e2) okX12_read nnX12_read vvX12_read ml_RX12_279 rfl (Nat.le_of_ble_eq_true rfl) ?_
  refine wp_aload_n dX12_isAgain_124 rfl ?_
  obtain ⟨v3, e4, h⟩ := bnd h
  refine wp_getR (c := 12) (k := 24) dX12_isAgain_125 e4 (by decide) (by decide) rfl fl_RX12_88 ?_
  refine wp_bipush (v := 30) dX12_isAgain_128 (by decide) ?_
  refine wp_iconst (v := 4) dX12_isAgain_130 (by decide) ?_
  refine wp_iload_n dX12_isAgain_131 rfl ?_
  refine wp_imul dX12_isAgain_132 ?_
  refine wp_iadd dX12_isAgain_133 ?_
  refine wp_iload_n dX12_isAgain_134 rfl ?_
  refine wp_iadd dX12_isAgain_135 ?_
  obtain ⟨v5, e6, h⟩ := bnd h
  refine wp_iaload dX12_isAgain_136 e6 ?_
  refine wp_icmp_ne (tgt := 144) dX12_isAgain_137 (by decide) (fun hc_ => ?_) (fun hc_ => ?_)
  · replace h := ite_f hc_ h
    exact wp_ls (lsS (lsN (lsS (lsS lsZ)))) (X12_isAgain_J144_ok h hc he0)
  · replace h := ite_t hc_ h
    exact wp_ls (lsS (lsN (lsS (lsS lsZ)))) (X12_isAgain_J140_ok h hc he0)

theorem X12_isAgain_B85_ok {w : Gw} {d : Nat} {x0 : Nat} {x2 : Int32} {M : Gm} {q : Int32 × Int32} {o : Go} {M' : Gm} {out : (Int32 × Int32) ⊕ Int32} (h : X12_isAgain_B85 x0 x2 M q = some out) (hc : ∀ t : Int32 × Int32, out = .inl t → Wp w mdX12_isAgain (d + 1) 85 [some (.inr x0), some (.inl t.1), some (.inl x2), some (.inl t.2)] [] M o M') (he0 : ∀ t : Int32, out = .inr t → Wp w mdX12_isAgain (d + 1) 152 [some (.inr x0), some (.inl t), some (.inl x2), none] [] M o M') : Wp w mdX12_isAgain (d + 1) 85 [some (.inr x0), some (.inl q.1), some (.inl x2), some (.inl q.2)] [] M o M' := by
  unfold X12_isAgain_B85 at h
  refine wp_iload_n dX12_isAgain_85 rfl ?_
  refine wp_aload_n dX12_isAgain_86 rfl ?_
  obtain ⟨v1, e2, h⟩ := bnd h
  refine wp_getR (c := 12) (k := 6) dX12_isAgain_87 e2 (by decide) (by decide) rfl fl_RX12_62 ?_
  refine wp_bipush (v := 10) dX12_isAgain_90 (by decide) ?_
  refine wp_iload_n dX12_isAgain_92 rfl ?_
  refine wp_iadd dX12_isAgain_93 ?_
  obtain ⟨v3, e4, h⟩ := bnd h
  refine wp_iaload dX12_isAgain_94 e4 ?_
  refine wp_icmp_ge (tgt := 152) dX12_isAgain_95 (by decide) (fun hc_ => ?_) (fun hc_ => ?_)
  · replace h := ite_t hc_ h
    cases h
    exact wp_ls (lsS (lsS (lsS (lsN lsZ)))) (he0 q.1 rfl)
  · replace h := ite_f hc_ h
    refine wp_iload_n dX12_isAgain_98 rfl ?_
    refine wp_if_eq (tgt := 144) dX12_isAgain_99 (by decide) (fun hc_ => ?_) (fun hc_ => ?_)
    · replace h := ite_t hc_ h
      exact wp_ls (lsS (lsN (lsS (lsS lsZ)))) (X12_isAgain_J144_ok h hc he0)
    · replace h := ite_f hc_ h
      refine wp_aload_n dX12_isAgain_102 rfl ?_
      obtain ⟨v5, e6, h⟩ := bnd h
      refine wp_getR (c := 12) (k := 6) dX12_isAgain_103 e6 (by decide) (by decide) rfl fl_RX12_62 ?_
      refine wp_iconst (v := 5) dX12_isAgain_106 (by decide) ?_
      refine wp_iload_n dX12_isAgain_107 rfl ?_
      refine wp_iadd dX12_isAgain_108 ?_
      obtain ⟨v7, e8, h⟩ := bnd h
      refine wp_iaload dX12_isAgain_109 e8 ?_
      refine wp_iconst (v := 3) dX12_isAgain_110 (by decide) ?_
      refine wp_icmp_ne (tgt := 118) dX12_isAgain_111 (by decide) (fun hc_ => ?_) (fun hc_ => ?_)
      · replace h := ite_f hc_ h
        exact wp_ls (lsS (lsN (lsS (lsS lsZ)))) (X12_isAgain_J118_ok h hc he0)
      · replace h := ite_t hc_ h
        refine wp_iload_n dX12_isAgain_114 rfl ?_
        refine wp_if_gt (tgt := 140) dX12_isAgain_115 (by decide) (fun hc_ => ?_) (fun hc_ => ?_)
        · replace h := ite_t hc_ h
          exact wp_ls (lsS (lsN (lsS (lsS lsZ)))) (X12_isAgain_J140_ok h hc he0)
        · replace h := ite_f hc_ h
          exact wp_ls (lsS (lsN (lsS (lsS lsZ)))) (X12_isAgain_J118_ok h hc he0)

theorem X12_isAgain_B85_lp {w : Gw} {d : Nat} {x0 : Nat} {x2 : Int32} {M : Gm} {o : Go} {M' : Gm} {r : Int32} : ∀ (n : Nat) (q : Int32 × Int32), lp (X12_isAgain_B85 x0 x2 M) n q = some r → (∀ t : Int32, r = t → Wp w mdX12_isAgain (d + 1) 152 [some (.inr x0), some (.inl t), some (.inl x2), none] [] M o M') → Wp w mdX12_isAgain (d + 1) 85 [some (.inr x0), some (.inl q.1), some (.inl x2), some (.inl q.2)] [] M o M' := by
  intro n
  induction n with
  | zero => intro q h; cases h
  | succ n ih =>
    intro q h he0
    cases hb : X12_isAgain_B85 x0 x2 M q with
    | none => rw [lp_succ, hb] at h; cases h
    | some out =>
      rw [lp_succ, hb] at h
      exact X12_isAgain_B85_ok hb (fun t e => ih t (by rw [e] at h; exact h) he0) (fun t e => he0 t (by rw [e] at h; cases h; rfl))
theorem X12_isAgain_J82_ok {w : Gw} {d : Nat} {x0 : Nat} {x2 : Int32} {s0 : Int32} {M : Gm} {o : Go} {M' : Gm} {out : (Int32 × Int32) ⊕ Int32} (h : X12_isAgain_J82 x0 x2 s0 M = some out) (hc : ∀ t : Int32 × Int32, out = .inl t → Wp w mdX12_isAgain (d + 1) 4 [some (.inr x0), some (.inl t.1), some (.inl t.2), none] [] M o M') (he0 : ∀ t : Int32, out = .inr t → Wp w mdX12_isAgain (d + 1) 158 [some (.inr x0), some (.inl t), none, none] [] M o M') : Wp w mdX12_isAgain (d + 1) 82 [some (.inr x0), none, some (.inl x2), none] [.inl s0] M o M' := by
  unfold X12_isAgain_J82 at h
  refine wp_istore_n dX12_isAgain_82 (Nat.le_of_ble_eq_true rfl) ?_
  refine wp_iconst (v := 0) dX12_isAgain_83 (by decide) ?_
  refine wp_istore_n dX12_isAgain_84 (Nat.le_of_ble_eq_true rfl) ?_
  obtain ⟨r1, e2, h⟩ := bnd h
  refine wp_ls (lsS (lsS (lsS (lsS lsZ)))) (X12_isAgain_B85_lp FU _ e2 ?_)
  intro t_ ht_; cases ht_
  refine wp_iinc (v := x2 + 1) dX12_isAgain_152 rfl rfl ?_
  refine wp_goto (tgt := 4) dX12_isAgain_155 (by decide) ?_
  cases h
  exact wp_ls (lsS (lsS (lsS (lsN lsZ)))) (hc (r1, x2 + 1) rfl)

theorem X12_isAgain_J81_ok {w : Gw} {d : Nat} {x0 : Nat} {x2 : Int32} {M : Gm} {o : Go} {M' : Gm} {out : (Int32 × Int32) ⊕ Int32} (h : X12_isAgain_J81 x0 x2 M = some out) (hc : ∀ t : Int32 × Int32, out = .inl t → Wp w mdX12_isAgain (d + 1) 4 [some (.inr x0), some (.inl t.1), some (.inl t.2), none] [] M o M') (he0 : ∀ t : Int32, out = .inr t → Wp w mdX12_isAgain (d + 1) 158 [some (.inr x0), some (.inl t), none, none] [] M o M') : Wp w mdX12_isAgain (d + 1) 81 [some (.inr x0), none, some (.inl x2), none] [] M o M' := by
  unfold X12_isAgain_J81 at h
  refine wp_iconst (v := 0) dX12_isAgain_81 (by decide) ?_
  exact wp_ls (lsS (lsN (lsS (lsN lsZ)))) (X12_isAgain_J82_ok h hc he0)

theorem X12_isAgain_B4_ok {w : Gw} {d : Nat} {x0 : Nat} {M : Gm} {q : Int32 × Int32} {o : Go} {M' : Gm} {out : (Int32 × Int32) ⊕ Int32} (h : X12_isAgain_B4 x0 M q = some out) (hc : ∀ t : Int32 × Int32, out = .inl t → Wp w mdX12_isAgain (d + 1) 4 [some (.inr x0), some (.inl t.1), some (.inl t.2), none] [] M o M') (he0 : ∀ t : Int32, out = .inr t → Wp w mdX12_isAgain (d + 1) 158 [some (.inr x0), some (.inl t), none, none] [] M o M') : Wp w mdX12_isAgain (d + 1) 4 [some (.inr x0), some (.inl q.1), some (.inl q.2), none] [] M o M' := by
  unfold X12_isAgain_B4 at h
  refine wp_iload_n dX12_isAgain_4 rfl ?_
  refine wp_aload_n dX12_isAgain_5 rfl ?_
  obtain ⟨q1, e2, h⟩ := bnd h
  refine wp_callV (As := []) dX12_isAgain_6 (sh_X12_zones_ok (d := d) e2) okX12_zones nnX12_zones vvX12_zones ml_RX12_266 rfl (Nat.le_of_ble_eq_true rfl) ?_
  refine wp_icmp_ge (tgt := 158) dX12_isAgain_9 (by decide) (fun hc_ => ?_) (fun hc_ => ?_)
  · replace h := ite_t hc_ h
    cases h
    exact wp_ls (lsS (lsS (lsN (lsN lsZ)))) (he0 q.1 rfl)
  · replace h := ite_f hc_ h
    refine wp_iload_n dX12_isAgain_12 rfl ?_
    refine wp_if_eq (tgt := 81) dX12_isAgain_13 (by decide) (fun hc_ => ?_) (fun hc_ => ?_)
    · replace h := ite_t hc_ h
      exact wp_ls (lsS (lsN (lsS (lsN lsZ)))) (X12_isAgain_J81_ok h hc he0)
    · replace h := ite_f hc_ h
      refine wp_aload_n dX12_isAgain_16 rfl ?_
      obtain ⟨v3, e4, h⟩ := bnd h
      refine wp_getR (c := 12) (k := 5) dX12_isAgain_17 e4 (by decide) (by decide) rfl fl_RX12_58 ?_
      refine wp_iconst (v := 0) dX12_isAgain_20 (by decide) ?_
      refine wp_iload_n dX12_isAgain_21 rfl ?_
      refine wp_iadd dX12_isAgain_22 ?_
      obtain ⟨v5, e6, h⟩ := bnd h
      refine wp_iaload dX12_isAgain_23 e6 ?_
      refine wp_aload_n dX12_isAgain_24 rfl ?_
      obtain ⟨v7, e8, h⟩ := bnd h
      refine wp_getR (c := 12) (k := 24) dX12_isAgain_25 e8 (by decide) (by decide) rfl fl_RX12_88 ?_
      refine wp_iconst (v := 0) dX12_isAgain_28 (by decide) ?_
      refine wp_iload_n dX12_isAgain_29 rfl ?_
      refine wp_iadd dX12_isAgain_30 ?_
      obtain ⟨v9, e10, h⟩ := bnd h
      refine wp_iaload dX12_isAgain_31 e10 ?_
      refine wp_icmp_ne (tgt := 81) dX12_isAgain_32 (by decide) (fun hc_ => ?_) (fun hc_ => ?_)
      · replace h := ite_f hc_ h
        exact wp_ls (lsS (lsN (lsS (lsN lsZ)))) (X12_isAgain_J81_ok h hc he0)
      · replace h := ite_t hc_ h
        refine wp_aload_n dX12_isAgain_35 rfl ?_
        obtain ⟨v11, e12, h⟩ := bnd h
        refine wp_getR (c := 12) (k := 5) dX12_isAgain_36 e12 (by decide) (by decide) rfl fl_RX12_58 ?_
        refine wp_bipush (v := 10) dX12_isAgain_39 (by decide) ?_
        refine wp_iload_n dX12_isAgain_41 rfl ?_
        refine wp_iadd dX12_isAgain_42 ?_
        obtain ⟨v13, e14, h⟩ := bnd h
        refine wp_iaload dX12_isAgain_43 e14 ?_
        refine wp_aload_n dX12_isAgain_44 rfl ?_
        obtain ⟨v15, e16, h⟩ := bnd h
        refine wp_getR (c := 12) (k := 24) dX12_isAgain_45 e16 (by decide) (by decide) rfl fl_RX12_88 ?_
        refine wp_bipush (v := 10) dX12_isAgain_48 (by decide) ?_
        refine wp_iload_n dX12_isAgain_50 rfl ?_
        refine wp_iadd dX12_isAgain_51 ?_
        obtain ⟨v17, e18, h⟩ := bnd h
        refine wp_iaload dX12_isAgain_52 e18 ?_
        refine wp_icmp_ne (tgt := 81) dX12_isAgain_53 (by decide) (fun hc_ => ?_) (fun hc_ => ?_)
        · replace h := ite_f hc_ h
          exact wp_ls (lsS (lsN (lsS (lsN lsZ)))) (X12_isAgain_J81_ok h hc he0)
        · replace h := ite_t hc_ h
          refine wp_aload_n dX12_isAgain_56 rfl ?_
          obtain ⟨v19, e20, h⟩ := bnd h
          refine wp_getR (c := 12) (k := 5) dX12_isAgain_57 e20 (by decide) (by decide) rfl fl_RX12_58 ?_
          refine wp_bipush (v := 20) dX12_isAgain_60 (by decide) ?_
          refine wp_iload_n dX12_isAgain_62 rfl ?_
          refine wp_iadd dX12_isAgain_63 ?_
          obtain ⟨v21, e22, h⟩ := bnd h
          refine wp_iaload dX12_isAgain_64 e22 ?_
          refine wp_aload_n dX12_isAgain_65 rfl ?_
          obtain ⟨v23, e24, h⟩ := bnd h
          refine wp_getR (c := 12) (k := 24) dX12_isAgain_66 e24 (by decide) (by decide) rfl fl_RX12_88 ?_
          refine wp_bipush (v := 20) dX12_isAgain_69 (by decide) ?_
          refine wp_iload_n dX12_isAgain_71 rfl ?_
          refine wp_iadd dX12_isAgain_72 ?_
          obtain ⟨v25, e26, h⟩ := bnd h
          refine wp_iaload dX12_isAgain_73 e26 ?_
          refine wp_icmp_ne (tgt := 81) dX12_isAgain_74 (by decide) (fun hc_ => ?_) (fun hc_ => ?_)
          · replace h := ite_f hc_ h
            exact wp_ls (lsS (lsN (lsS (lsN lsZ)))) (X12_isAgain_J81_ok h hc he0)
          · replace h := ite_t hc_ h
            refine wp_iconst (v := 1) dX12_isAgain_77 (by decide) ?_
            refine wp_goto (tgt := 82) dX12_isAgain_78 (by decide) ?_
            exact wp_ls (lsS (lsN (lsS (lsN lsZ)))) (X12_isAgain_J82_ok h hc he0)

theorem X12_isAgain_B4_lp {w : Gw} {d : Nat} {x0 : Nat} {M : Gm} {o : Go} {M' : Gm} {r : Int32} : ∀ (n : Nat) (q : Int32 × Int32), lp (X12_isAgain_B4 x0 M) n q = some r → (∀ t : Int32, r = t → Wp w mdX12_isAgain (d + 1) 158 [some (.inr x0), some (.inl t), none, none] [] M o M') → Wp w mdX12_isAgain (d + 1) 4 [some (.inr x0), some (.inl q.1), some (.inl q.2), none] [] M o M' := by
  intro n
  induction n with
  | zero => intro q h; cases h
  | succ n ih =>
    intro q h he0
    cases hb : X12_isAgain_B4 x0 M q with
    | none => rw [lp_succ, hb] at h; cases h
    | some out =>
      rw [lp_succ, hb] at h
      exact X12_isAgain_B4_ok hb (fun t e => ih t (by rw [e] at h; exact h) he0) (fun t e => he0 t (by rw [e] at h; cases h; rfl))
theorem X12_isAgain_J198_ok {w : Gw} {d : Nat} {x0 : Nat} {x2 : Int32} {s0 : Int32} {M : Gm} {o : Go} {M' : Gm} {out : (Int32 × Int32) ⊕ Int32} (h : X12_isAgain_J198 x0 x2 s0 M = some out) (hc : ∀ t : Int32 × Int32, out = .inl t → Wp w mdX12_isAgain (d + 1) 160 [some (.inr x0), some (.inl t.1), some (.inl t.2), none] [] M o M') (he0 : ∀ t : Int32, out = .inr t → Wp w mdX12_isAgain (d + 1) 205 [some (.inr x0), some (.inl t), none, none] [] M o M') : Wp w mdX12_isAgain (d + 1) 198 [some (.inr x0), none, some (.inl x2), none] [.inl s0] M o M' := by
  unfold X12_isAgain_J198 at h
  refine wp_istore_n dX12_isAgain_198 (Nat.le_of_ble_eq_true rfl) ?_
  refine wp_iinc (v := x2 + 1) dX12_isAgain_199 rfl rfl ?_
  refine wp_goto (tgt := 160) dX12_isAgain_202 (by decide) ?_
  cases h
  exact wp_ls (lsS (lsS (lsS (lsN lsZ)))) (hc (s0, x2 + 1) rfl)

theorem X12_isAgain_J197_ok {w : Gw} {d : Nat} {x0 : Nat} {x2 : Int32} {M : Gm} {o : Go} {M' : Gm} {out : (Int32 × Int32) ⊕ Int32} (h : X12_isAgain_J197 x0 x2 M = some out) (hc : ∀ t : Int32 × Int32, out = .inl t → Wp w mdX12_isAgain (d + 1) 160 [some (.inr x0), some (.inl t.1), some (.inl t.2), none] [] M o M') (he0 : ∀ t : Int32, out = .inr t → Wp w mdX12_isAgain (d + 1) 205 [some (.inr x0), some (.inl t), none, none] [] M o M') : Wp w mdX12_isAgain (d + 1) 197 [some (.inr x0), none, some (.inl x2), none] [] M o M' := by
  unfold X12_isAgain_J197 at h
  refine wp_iconst (v := 0) dX12_isAgain_197 (by decide) ?_
  exact wp_ls (lsS (lsN (lsS (lsN lsZ)))) (X12_isAgain_J198_ok h hc he0)

theorem X12_isAgain_B160_ok {w : Gw} {d : Nat} {x0 : Nat} {M : Gm} {q : Int32 × Int32} {o : Go} {M' : Gm} {out : (Int32 × Int32) ⊕ Int32} (h : X12_isAgain_B160 x0 M q = some out) (hc : ∀ t : Int32 × Int32, out = .inl t → Wp w mdX12_isAgain (d + 1) 160 [some (.inr x0), some (.inl t.1), some (.inl t.2), none] [] M o M') (he0 : ∀ t : Int32, out = .inr t → Wp w mdX12_isAgain (d + 1) 205 [some (.inr x0), some (.inl t), none, none] [] M o M') : Wp w mdX12_isAgain (d + 1) 160 [some (.inr x0), some (.inl q.1), some (.inl q.2), none] [] M o M' := by
  unfold X12_isAgain_B160 at h
  refine wp_iload_n dX12_isAgain_160 rfl ?_
  refine wp_aload_n dX12_isAgain_161 rfl ?_
  obtain ⟨q1, e2, h⟩ := bnd h
  refine wp_callV (As := []) dX12_isAgain_162 (sh_X12_trips_ok (d := d) e2) okX12_trips nnX12_trips vvX12_trips ml_RX12_312 rfl (Nat.le_of_ble_eq_true rfl) ?_
  refine wp_icmp_ge (tgt := 205) dX12_isAgain_165 (by decide) (fun hc_ => ?_) (fun hc_ => ?_)
  · replace h := ite_t hc_ h
    cases h
    exact wp_ls (lsS (lsS (lsN (lsN lsZ)))) (he0 q.1 rfl)
  · replace h := ite_f hc_ h
    refine wp_iload_n dX12_isAgain_168 rfl ?_
    refine wp_if_eq (tgt := 197) dX12_isAgain_169 (by decide) (fun hc_ => ?_) (fun hc_ => ?_)
    · replace h := ite_t hc_ h
      exact wp_ls (lsS (lsN (lsS (lsN lsZ)))) (X12_isAgain_J197_ok h hc he0)
    · replace h := ite_f hc_ h
      refine wp_aload_n dX12_isAgain_172 rfl ?_
      obtain ⟨v3, e4, h⟩ := bnd h
      refine wp_getR (c := 12) (k := 5) dX12_isAgain_173 e4 (by decide) (by decide) rfl fl_RX12_58 ?_
      refine wp_bipush (v := 50) dX12_isAgain_176 (by decide) ?_
      refine wp_iload_n dX12_isAgain_178 rfl ?_
      refine wp_iadd dX12_isAgain_179 ?_
      obtain ⟨v5, e6, h⟩ := bnd h
      refine wp_iaload dX12_isAgain_180 e6 ?_
      refine wp_aload_n dX12_isAgain_181 rfl ?_
      obtain ⟨v7, e8, h⟩ := bnd h
      refine wp_getR (c := 12) (k := 24) dX12_isAgain_182 e8 (by decide) (by decide) rfl fl_RX12_88 ?_
      refine wp_bipush (v := 50) dX12_isAgain_185 (by decide) ?_
      refine wp_iload_n dX12_isAgain_187 rfl ?_
      refine wp_iadd dX12_isAgain_188 ?_
      obtain ⟨v9, e10, h⟩ := bnd h
      refine wp_iaload dX12_isAgain_189 e10 ?_
      refine wp_icmp_ne (tgt := 197) dX12_isAgain_190 (by decide) (fun hc_ => ?_) (fun hc_ => ?_)
      · replace h := ite_f hc_ h
        exact wp_ls (lsS (lsN (lsS (lsN lsZ)))) (X12_isAgain_J197_ok h hc he0)
      · replace h := ite_t hc_ h
        refine wp_iconst (v := 1) dX12_isAgain_193 (by decide) ?_
        refine wp_goto (tgt := 198) dX12_isAgain_194 (by decide) ?_
        exact wp_ls (lsS (lsN (lsS (lsN lsZ)))) (X12_isAgain_J198_ok h hc he0)

theorem X12_isAgain_B160_lp {w : Gw} {d : Nat} {x0 : Nat} {M : Gm} {o : Go} {M' : Gm} {r : Int32} : ∀ (n : Nat) (q : Int32 × Int32), lp (X12_isAgain_B160 x0 M) n q = some r → (∀ t : Int32, r = t → Wp w mdX12_isAgain (d + 1) 205 [some (.inr x0), some (.inl t), none, none] [] M o M') → Wp w mdX12_isAgain (d + 1) 160 [some (.inr x0), some (.inl q.1), some (.inl q.2), none] [] M o M' := by
  intro n
  induction n with
  | zero => intro q h; cases h
  | succ n ih =>
    intro q h he0
    cases hb : X12_isAgain_B160 x0 M q with
    | none => rw [lp_succ, hb] at h; cases h
    | some out =>
      rw [lp_succ, hb] at h
      exact X12_isAgain_B160_ok hb (fun t e => ih t (by rw [e] at h; exact h) he0) (fun t e => he0 t (by rw [e] at h; cases h; rfl))
theorem X12_isAgain_J245_ok {w : Gw} {d : Nat} {x0 : Nat} {x2 : Int32} {s0 : Int32} {M : Gm} {o : Go} {M' : Gm} {out : (Int32 × Int32) ⊕ Int32} (h : X12_isAgain_J245 x0 x2 s0 M = some out) (hc : ∀ t : Int32 × Int32, out = .inl t → Wp w mdX12_isAgain (d + 1) 207 [some (.inr x0), some (.inl t.1), some (.inl t.2), none] [] M o M') (he0 : ∀ t : Int32, out = .inr t → Wp w mdX12_isAgain (d + 1) 252 [some (.inr x0), some (.inl t), none, none] [] M o M') : Wp w mdX12_isAgain (d + 1) 245 [some (.inr x0), none, some (.inl x2), none] [.inl s0] M o M' := by
  unfold X12_isAgain_J245 at h
  refine wp_istore_n dX12_isAgain_245 (Nat.le_of_ble_eq_true rfl) ?_
  refine wp_iinc (v := x2 + 1) dX12_isAgain_246 rfl rfl ?_
  refine wp_goto (tgt := 207) dX12_isAgain_249 (by decide) ?_
  cases h
  exact wp_ls (lsS (lsS (lsS (lsN lsZ)))) (hc (s0, x2 + 1) rfl)

theorem X12_isAgain_J244_ok {w : Gw} {d : Nat} {x0 : Nat} {x2 : Int32} {M : Gm} {o : Go} {M' : Gm} {out : (Int32 × Int32) ⊕ Int32} (h : X12_isAgain_J244 x0 x2 M = some out) (hc : ∀ t : Int32 × Int32, out = .inl t → Wp w mdX12_isAgain (d + 1) 207 [some (.inr x0), some (.inl t.1), some (.inl t.2), none] [] M o M') (he0 : ∀ t : Int32, out = .inr t → Wp w mdX12_isAgain (d + 1) 252 [some (.inr x0), some (.inl t), none, none] [] M o M') : Wp w mdX12_isAgain (d + 1) 244 [some (.inr x0), none, some (.inl x2), none] [] M o M' := by
  unfold X12_isAgain_J244 at h
  refine wp_iconst (v := 0) dX12_isAgain_244 (by decide) ?_
  exact wp_ls (lsS (lsN (lsS (lsN lsZ)))) (X12_isAgain_J245_ok h hc he0)

theorem X12_isAgain_B207_ok {w : Gw} {d : Nat} {x0 : Nat} {M : Gm} {q : Int32 × Int32} {o : Go} {M' : Gm} {out : (Int32 × Int32) ⊕ Int32} (h : X12_isAgain_B207 x0 M q = some out) (hc : ∀ t : Int32 × Int32, out = .inl t → Wp w mdX12_isAgain (d + 1) 207 [some (.inr x0), some (.inl t.1), some (.inl t.2), none] [] M o M') (he0 : ∀ t : Int32, out = .inr t → Wp w mdX12_isAgain (d + 1) 252 [some (.inr x0), some (.inl t), none, none] [] M o M') : Wp w mdX12_isAgain (d + 1) 207 [some (.inr x0), some (.inl q.1), some (.inl q.2), none] [] M o M' := by
  unfold X12_isAgain_B207 at h
  refine wp_iload_n dX12_isAgain_207 rfl ?_
  refine wp_aload_n dX12_isAgain_208 rfl ?_
  obtain ⟨q1, e2, h⟩ := bnd h
  refine wp_callV (As := []) dX12_isAgain_209 (sh_X12_devices_ok (d := d) e2) okX12_devices nnX12_devices vvX12_devices ml_RX12_263 rfl (Nat.le_of_ble_eq_true rfl) ?_
  refine wp_icmp_ge (tgt := 252) dX12_isAgain_212 (by decide) (fun hc_ => ?_) (fun hc_ => ?_)
  · replace h := ite_t hc_ h
    cases h
    exact wp_ls (lsS (lsS (lsN (lsN lsZ)))) (he0 q.1 rfl)
  · replace h := ite_f hc_ h
    refine wp_iload_n dX12_isAgain_215 rfl ?_
    refine wp_if_eq (tgt := 244) dX12_isAgain_216 (by decide) (fun hc_ => ?_) (fun hc_ => ?_)
    · replace h := ite_t hc_ h
      exact wp_ls (lsS (lsN (lsS (lsN lsZ)))) (X12_isAgain_J244_ok h hc he0)
    · replace h := ite_f hc_ h
      refine wp_aload_n dX12_isAgain_219 rfl ?_
      obtain ⟨v3, e4, h⟩ := bnd h
      refine wp_getR (c := 12) (k := 5) dX12_isAgain_220 e4 (by decide) (by decide) rfl fl_RX12_58 ?_
      refine wp_bipush (v := 70) dX12_isAgain_223 (by decide) ?_
      refine wp_iload_n dX12_isAgain_225 rfl ?_
      refine wp_iadd dX12_isAgain_226 ?_
      obtain ⟨v5, e6, h⟩ := bnd h
      refine wp_iaload dX12_isAgain_227 e6 ?_
      refine wp_aload_n dX12_isAgain_228 rfl ?_
      obtain ⟨v7, e8, h⟩ := bnd h
      refine wp_getR (c := 12) (k := 24) dX12_isAgain_229 e8 (by decide) (by decide) rfl fl_RX12_88 ?_
      refine wp_bipush (v := 70) dX12_isAgain_232 (by decide) ?_
      refine wp_iload_n dX12_isAgain_234 rfl ?_
      refine wp_iadd dX12_isAgain_235 ?_
      obtain ⟨v9, e10, h⟩ := bnd h
      refine wp_iaload dX12_isAgain_236 e10 ?_
      refine wp_icmp_ne (tgt := 244) dX12_isAgain_237 (by decide) (fun hc_ => ?_) (fun hc_ => ?_)
      · replace h := ite_f hc_ h
        exact wp_ls (lsS (lsN (lsS (lsN lsZ)))) (X12_isAgain_J244_ok h hc he0)
      · replace h := ite_t hc_ h
        refine wp_iconst (v := 1) dX12_isAgain_240 (by decide) ?_
        refine wp_goto (tgt := 245) dX12_isAgain_241 (by decide) ?_
        exact wp_ls (lsS (lsN (lsS (lsN lsZ)))) (X12_isAgain_J245_ok h hc he0)

theorem X12_isAgain_B207_lp {w : Gw} {d : Nat} {x0 : Nat} {M : Gm} {o : Go} {M' : Gm} {r : Int32} : ∀ (n : Nat) (q : Int32 × Int32), lp (X12_isAgain_B207 x0 M) n q = some r → (∀ t : Int32, r = t → Wp w mdX12_isAgain (d + 1) 252 [some (.inr x0), some (.inl t), none, none] [] M o M') → Wp w mdX12_isAgain (d + 1) 207 [some (.inr x0), some (.inl q.1), some (.inl q.2), none] [] M o M' := by
  intro n
  induction n with
  | zero => intro q h; cases h
  | succ n ih =>
    intro q h he0
    cases hb : X12_isAgain_B207 x0 M q with
    | none => rw [lp_succ, hb] at h; cases h
    | some out =>
      rw [lp_succ, hb] at h
      exact X12_isAgain_B207_ok hb (fun t e => ih t (by rw [e] at h; exact h) he0) (fun t e => he0 t (by rw [e] at h; cases h; rfl))
theorem X12_isAgain_J286_ok {w : Gw} {d : Nat} {x0 : Nat} {x2 : Int32} {s0 : Int32} {M : Gm} {o : Go} {M' : Gm} {out : (Int32 × Int32) ⊕ Int32} (h : X12_isAgain_J286 x0 x2 s0 M = some out) (hc : ∀ t : Int32 × Int32, out = .inl t → Wp w mdX12_isAgain (d + 1) 255 [some (.inr x0), some (.inl t.1), some (.inl t.2), none] [] M o M') (he0 : ∀ t : Int32, out = .inr t → Wp w mdX12_isAgain (d + 1) 293 [none, some (.inl t), none, none] [] M o M') : Wp w mdX12_isAgain (d + 1) 286 [some (.inr x0), none, some (.inl x2), none] [.inl s0] M o M' := by
  unfold X12_isAgain_J286 at h
  refine wp_istore_n dX12_isAgain_286 (Nat.le_of_ble_eq_true rfl) ?_
  refine wp_iinc (v := x2 + 1) dX12_isAgain_287 rfl rfl ?_
  refine wp_goto (tgt := 255) dX12_isAgain_290 (by decide) ?_
  cases h
  exact wp_ls (lsS (lsS (lsS (lsN lsZ)))) (hc (s0, x2 + 1) rfl)

theorem X12_isAgain_B255_ok {w : Gw} {d : Nat} {x0 : Nat} {M : Gm} {q : Int32 × Int32} {o : Go} {M' : Gm} {out : (Int32 × Int32) ⊕ Int32} (h : X12_isAgain_B255 x0 M q = some out) (hc : ∀ t : Int32 × Int32, out = .inl t → Wp w mdX12_isAgain (d + 1) 255 [some (.inr x0), some (.inl t.1), some (.inl t.2), none] [] M o M') (he0 : ∀ t : Int32, out = .inr t → Wp w mdX12_isAgain (d + 1) 293 [none, some (.inl t), none, none] [] M o M') : Wp w mdX12_isAgain (d + 1) 255 [some (.inr x0), some (.inl q.1), some (.inl q.2), none] [] M o M' := by
  unfold X12_isAgain_B255 at h
  refine wp_iload_n dX12_isAgain_255 rfl ?_
  refine wp_sipush (v := 142) dX12_isAgain_256 (by decide) ?_
  refine wp_icmp_ge (tgt := 293) dX12_isAgain_259 (by decide) (fun hc_ => ?_) (fun hc_ => ?_)
  · replace h := ite_t hc_ h
    cases h
    exact wp_ls (lsN (lsS (lsN (lsN lsZ)))) (he0 q.1 rfl)
  · replace h := ite_f hc_ h
    refine wp_iload_n dX12_isAgain_262 rfl ?_
    refine wp_if_eq (tgt := 293) dX12_isAgain_263 (by decide) (fun hc_ => ?_) (fun hc_ => ?_)
    · replace h := ite_t hc_ h
      cases h
      exact wp_ls (lsN (lsS (lsN (lsN lsZ)))) (he0 q.1 rfl)
    · replace h := ite_f hc_ h
      refine wp_aload_n dX12_isAgain_266 rfl ?_
      obtain ⟨v1, e2, h⟩ := bnd h
      refine wp_getR (c := 12) (k := 5) dX12_isAgain_267 e2 (by decide) (by decide) rfl fl_RX12_58 ?_
      refine wp_iload_n dX12_isAgain_270 rfl ?_
      obtain ⟨v3, e4, h⟩ := bnd h
      refine wp_iaload dX12_isAgain_271 e4 ?_
      refine wp_aload_n dX12_isAgain_272 rfl ?_
      obtain ⟨v5, e6, h⟩ := bnd h
      refine wp_getR (c := 12) (k := 24) dX12_isAgain_273 e6 (by decide) (by decide) rfl fl_RX12_88 ?_
      refine wp_iload_n dX12_isAgain_276 rfl ?_
      obtain ⟨v7, e8, h⟩ := bnd h
      refine wp_iaload dX12_isAgain_277 e8 ?_
      refine wp_icmp_ne (tgt := 285) dX12_isAgain_278 (by decide) (fun hc_ => ?_) (fun hc_ => ?_)
      · replace h := ite_f hc_ h
        refine wp_iconst (v := 0) dX12_isAgain_285 (by decide) ?_
        exact wp_ls (lsS (lsN (lsS (lsN lsZ)))) (X12_isAgain_J286_ok h hc he0)
      · replace h := ite_t hc_ h
        refine wp_iconst (v := 1) dX12_isAgain_281 (by decide) ?_
        refine wp_goto (tgt := 286) dX12_isAgain_282 (by decide) ?_
        exact wp_ls (lsS (lsN (lsS (lsN lsZ)))) (X12_isAgain_J286_ok h hc he0)

theorem X12_isAgain_B255_lp {w : Gw} {d : Nat} {x0 : Nat} {M : Gm} {o : Go} {M' : Gm} {r : Int32} : ∀ (n : Nat) (q : Int32 × Int32), lp (X12_isAgain_B255 x0 M) n q = some r → (∀ t : Int32, r = t → Wp w mdX12_isAgain (d + 1) 293 [none, some (.inl t), none, none] [] M o M') → Wp w mdX12_isAgain (d + 1) 255 [some (.inr x0), some (.inl q.1), some (.inl q.2), none] [] M o M' := by
  intro n
  induction n with
  | zero => intro q h; cases h
  | succ n ih =>
    intro q h he0
    cases hb : X12_isAgain_B255 x0 M q with
    | none => rw [lp_succ, hb] at h; cases h
    | some out =>
      rw [lp_succ, hb] at h
      exact X12_isAgain_B255_ok hb (fun t e => ih t (by rw [e] at h; exact h) he0) (fun t e => he0 t (by rw [e] at h; cases h; rfl))
theorem X12_isAgain_J293_ok {w : Gw} {d : Nat} {x1 : Int32} {M : Gm} {out : Int32} (h : X12_isAgain_J293 x1 M = some out) : Wp w mdX12_isAgain (d + 1) 293 [none, some (.inl x1), none, none] [] M (.inl (some (.inl out))) M := by
  unfold X12_isAgain_J293 at h
  refine wp_iload_n dX12_isAgain_293 rfl ?_
  obtain ⟨z1, e2, h⟩ := bnd h
  obtain ⟨hz_, rfl⟩ := zck_of e2
  cases h
  exact wp_zret dX12_isAgain_294 rfl hz_

theorem X12_isAgain_F_ok {w : Gw} {d : Nat} {x0 : Nat} {M : Gm} {out : Int32} (h : X12_isAgain_F x0 M = some out) : Wp w mdX12_isAgain (d + 1) 0 [some (.inr x0), none, none, none] [] M (.inl (some (.inl out))) M := by
  unfold X12_isAgain_F at h
  refine wp_iconst (v := 1) dX12_isAgain_0 (by decide) ?_
  refine wp_istore_n dX12_isAgain_1 (Nat.le_of_ble_eq_true rfl) ?_
  refine wp_iconst (v := 0) dX12_isAgain_2 (by decide) ?_
  refine wp_istore_n dX12_isAgain_3 (Nat.le_of_ble_eq_true rfl) ?_
  obtain ⟨r1, e2, h⟩ := bnd h
  refine wp_ls (lsS (lsS (lsS (lsN lsZ)))) (X12_isAgain_B4_lp FU _ e2 ?_)
  intro t_ ht_; cases ht_
  refine wp_iconst (v := 0) dX12_isAgain_158 (by decide) ?_
  refine wp_istore_n dX12_isAgain_159 (Nat.le_of_ble_eq_true rfl) ?_
  obtain ⟨r3, e4, h⟩ := bnd h
  refine wp_ls (lsS (lsS (lsS (lsN lsZ)))) (X12_isAgain_B160_lp FU _ e4 ?_)
  intro t_ ht_; cases ht_
  refine wp_iconst (v := 0) dX12_isAgain_205 (by decide) ?_
  refine wp_istore_n dX12_isAgain_206 (Nat.le_of_ble_eq_true rfl) ?_
  obtain ⟨r5, e6, h⟩ := bnd h
  refine wp_ls (lsS (lsS (lsS (lsN lsZ)))) (X12_isAgain_B207_lp FU _ e6 ?_)
  intro t_ ht_; cases ht_
  refine wp_bipush (v := 82) dX12_isAgain_252 (by decide) ?_
  refine wp_istore_n dX12_isAgain_254 (Nat.le_of_ble_eq_true rfl) ?_
  obtain ⟨r7, e8, h⟩ := bnd h
  refine wp_ls (lsS (lsS (lsS (lsN lsZ)))) (X12_isAgain_B255_lp FU _ e8 ?_)
  intro t_ ht_; cases ht_
  exact wp_ls (lsN (lsS (lsN (lsN lsZ)))) (X12_isAgain_J293_ok h)

theorem sh_X12_isAgain_ok {w : Gw} {d : Nat} {x0 : Nat} {M : Gm} {out : Int32} (h : sh_X12_isAgain x0 M = some out) : Ev w mdX12_isAgain (d + 1) [.inr x0] M (.inl (some (.inl out))) M := by
  obtain ⟨u, e0, h⟩ := bnd h
  exact ev_of okX12_isAgain ⟨_, _, rfl, isO_of e0 (by decide), by decide⟩ (Nat.le_of_ble_eq_true rfl) (X12_isAgain_F_ok h)

/-! HeatGovernorModel.laysBack()V -/
def X12_laysBack_F (x0 : Nat) (M : Gm) : Option (Gm) :=
  (gfR M x0 12 5).bind fun v1 =>
  (gfR M x0 12 24).bind fun v3 =>
  (sh_X12_copyTo v1 v3 M).bind fun q5 =>
  some q5
def sh_X12_laysBack (x0 : Nat) (M : Gm) : Option (Gm) := (isO M x0 12).bind fun _ => X12_laysBack_F x0 M
theorem X12_laysBack_F_ok {w : Gw} {d : Nat} {x0 : Nat} {M : Gm} {out : Gm} (h : X12_laysBack_F x0 M = some out) : Wp w mdX12_laysBack (d + 1) 0 [some (.inr x0)] [] M (.inl none) out := by
  unfold X12_laysBack_F at h
  refine wp_aload_n dX12_laysBack_0 rfl ?_
  obtain ⟨v1, e2, h⟩ := bnd h
  refine wp_getR (c := 12) (k := 5) dX12_laysBack_1 e2 (by decide) (by decide) rfl fl_RX12_58 ?_
  refine wp_aload_n dX12_laysBack_4 rfl ?_
  obtain ⟨v3, e4, h⟩ := bnd h
  refine wp_getR (c := 12) (k := 24) dX12_laysBack_5 e4 (by decide) (by decide) rfl fl_RX12_88 ?_
  obtain ⟨q5, e6, h⟩ := bnd h
  refine wp_callS (As := [.inr v1, .inr v3]) dX12_laysBack_8 (sh_X12_copyTo_ok (d := d) e6) okX12_copyTo nnX12_copyTo ssX12_copyTo ml_RX12_251 rfl (Nat.le_of_ble_eq_true rfl) ?_
  cases h
  exact wp_ret dX12_laysBack_11 rfl

theorem sh_X12_laysBack_ok {w : Gw} {d : Nat} {x0 : Nat} {M : Gm} {out : Gm} (h : sh_X12_laysBack x0 M = some out) : Ev w mdX12_laysBack (d + 1) [.inr x0] M (.inl none) out := by
  obtain ⟨u, e0, h⟩ := bnd h
  exact ev_of okX12_laysBack ⟨_, _, rfl, isO_of e0 (by decide), by decide⟩ (Nat.le_of_ble_eq_true rfl) (X12_laysBack_F_ok h)

/-! HeatGovernorModel.by(II)I -/
def X12_by_J19 (s0 : Int32) (M : Gm) : Option (Int32) :=
  some s0
def X12_by_F (x0 : Int32) (x1 : Int32) (M : Gm) : Option (Int32) :=
  if x0 < 0 then
    (dvI (((-x0) + x1) - 1) x1).bind fun v1 =>
    X12_by_J19 (-v1) M
  else
    (dvI x0 x1).bind fun v3 =>
    X12_by_J19 v3 M
def sh_X12_by (x0 : Int32) (x1 : Int32) (M : Gm) : Option (Int32) := X12_by_F x0 x1 M
theorem X12_by_J19_ok {w : Gw} {d : Nat} {s0 : Int32} {M : Gm} {out : Int32} (h : X12_by_J19 s0 M = some out) : Wp w mdX12_by d 19 [none, none] [.inl s0] M (.inl (some (.inl out))) M := by
  unfold X12_by_J19 at h
  cases h
  exact wp_iret dX12_by_19 rfl

theorem X12_by_F_ok {w : Gw} {d : Nat} {x0 : Int32} {x1 : Int32} {M : Gm} {out : Int32} (h : X12_by_F x0 x1 M = some out) : Wp w mdX12_by d 0 [some (.inl x0), some (.inl x1)] [] M (.inl (some (.inl out))) M := by
  unfold X12_by_F at h
  refine wp_iload_n dX12_by_0 rfl ?_
  refine wp_if_lt (tgt := 10) dX12_by_1 (by decide) (fun hc_ => ?_) (fun hc_ => ?_)
  · replace h := ite_t hc_ h
    refine wp_iload_n dX12_by_10 rfl ?_
    refine wp_ineg dX12_by_11 ?_
    refine wp_iload_n dX12_by_12 rfl ?_
    refine wp_iadd dX12_by_13 ?_
    refine wp_iconst (v := 1) dX12_by_14 (by decide) ?_
    refine wp_isub dX12_by_15 ?_
    refine wp_iload_n dX12_by_16 rfl ?_
    obtain ⟨v1, e2, h⟩ := bnd h
    refine wp_idiv dX12_by_17 e2 ?_
    refine wp_ineg dX12_by_18 ?_
    exact wp_ls (lsN (lsN lsZ)) (X12_by_J19_ok h)
  · replace h := ite_f hc_ h
    refine wp_iload_n dX12_by_4 rfl ?_
    refine wp_iload_n dX12_by_5 rfl ?_
    obtain ⟨v3, e4, h⟩ := bnd h
    refine wp_idiv dX12_by_6 e4 ?_
    refine wp_goto (tgt := 19) dX12_by_7 (by decide) ?_
    exact wp_ls (lsN (lsN lsZ)) (X12_by_J19_ok h)

theorem sh_X12_by_ok {w : Gw} {d : Nat} {x0 : Int32} {x1 : Int32} {M : Gm} {out : Int32} (h : sh_X12_by x0 x1 M = some out) : Ev w mdX12_by d [.inl x0, .inl x1] M (.inl (some (.inl out))) M := ev_of okX12_by trivial (Nat.le_of_ble_eq_true rfl) (X12_by_F_ok h)

/-! HeatGovernorModel.cooled(I)I -/
def X12_cooled_J49 (x0 : Nat) (x1 : Int32) (x3 : Int32) (s0 : Int32) (s1 : Int32) (M : Gm) : Option ((Int32 × Int32) ⊕ Int32) :=
  some (.inl (s0 + s1, x3 + 1))
def X12_cooled_B4 (x0 : Nat) (x1 : Int32) (M : Gm) (q : Int32 × Int32) : Option ((Int32 × Int32) ⊕ Int32) :=
  (sh_X12_devices x0 M).bind fun q1 =>
  if q1 ≤ q.2 then
    some (.inr q.1)
  else
    (gfR M x0 12 6).bind fun v3 =>
    (ldA M 0 v3 (61 + q.2)).bind fun v5 =>
    if v5 = x1 then
      (gfR M x0 12 5).bind fun v7 =>
      (ldA M 0 v7 (70 + q.2)).bind fun v9 =>
      (gfR M x0 12 6).bind fun v11 =>
      (ldA M 0 v11 (73 + q.2)).bind fun v13 =>
      X12_cooled_J49 x0 x1 q.2 q.1 (v9 * v13) M
    else
      X12_cooled_J49 x0 x1 q.2 q.1 0 M
def X12_cooled_F (x0 : Nat) (x1 : Int32) (M : Gm) : Option (Int32) :=
  (lp (X12_cooled_B4 x0 x1 M) FU (0, 0)).bind fun r1 =>
  some r1
def sh_X12_cooled (x0 : Nat) (x1 : Int32) (M : Gm) : Option (Int32) := (isO M x0 12).bind fun _ => X12_cooled_F x0 x1 M
theorem X12_cooled_J49_ok {w : Gw} {d : Nat} {x0 : Nat} {x1 : Int32} {x3 : Int32} {s0 : Int32} {s1 : Int32} {M : Gm} {o : Go} {M' : Gm} {out : (Int32 × Int32) ⊕ Int32} (h : X12_cooled_J49 x0 x1 x3 s0 s1 M = some out) (hc : ∀ t : Int32 × Int32, out = .inl t → Wp w mdX12_cooled (d + 1) 4 [some (.inr x0), some (.inl x1), some (.inl t.1), some (.inl t.2)] [] M o M') (he0 : ∀ t : Int32, out = .inr t → Wp w mdX12_cooled (d + 1) 57 [none, none, some (.inl t), none] [] M o M') : Wp w mdX12_cooled (d + 1) 49 [some (.inr x0), some (.inl x1), none, some (.inl x3)] [.inl s1, .inl s0] M o M' := by
  unfold X12_cooled_J49 at h
  refine wp_iadd dX12_cooled_49 ?_
  refine wp_istore_n dX12_cooled_50 (Nat.le_of_ble_eq_true rfl) ?_
  refine wp_iinc (v := x3 + 1) dX12_cooled_51 rfl rfl ?_
  refine wp_goto (tgt := 4) dX12_cooled_54 (by decide) ?_
  cases h
  exact wp_ls (lsS (lsS (lsS (lsS lsZ)))) (hc (s0 + s1, x3 + 1) rfl)

theorem X12_cooled_B4_ok {w : Gw} {d : Nat} {x0 : Nat} {x1 : Int32} {M : Gm} {q : Int32 × Int32} {o : Go} {M' : Gm} {out : (Int32 × Int32) ⊕ Int32} (h : X12_cooled_B4 x0 x1 M q = some out) (hc : ∀ t : Int32 × Int32, out = .inl t → Wp w mdX12_cooled (d + 1) 4 [some (.inr x0), some (.inl x1), some (.inl t.1), some (.inl t.2)] [] M o M') (he0 : ∀ t : Int32, out = .inr t → Wp w mdX12_cooled (d + 1) 57 [none, none, some (.inl t), none] [] M o M') : Wp w mdX12_cooled (d + 1) 4 [some (.inr x0), some (.inl x1), some (.inl q.1), some (.inl q.2)] [] M o M' := by
  unfold X12_cooled_B4 at h
  refine wp_iload_n dX12_cooled_4 rfl ?_
  refine wp_aload_n dX12_cooled_5 rfl ?_
  obtain ⟨q1, e2, h⟩ := bnd h
  refine wp_callV (As := []) dX12_cooled_6 (sh_X12_devices_ok (d := d) e2) okX12_devices nnX12_devices vvX12_devices ml_RX12_263 rfl (Nat.le_of_ble_eq_true rfl) ?_
  refine wp_icmp_ge (tgt := 57) dX12_cooled_9 (by decide) (fun hc_ => ?_) (fun hc_ => ?_)
  · replace h := ite_t hc_ h
    cases h
    exact wp_ls (lsN (lsN (lsS (lsN lsZ)))) (he0 q.1 rfl)
  · replace h := ite_f hc_ h
    refine wp_iload_n dX12_cooled_12 rfl ?_
    refine wp_aload_n dX12_cooled_13 rfl ?_
    obtain ⟨v3, e4, h⟩ := bnd h
    refine wp_getR (c := 12) (k := 6) dX12_cooled_14 e4 (by decide) (by decide) rfl fl_RX12_62 ?_
    refine wp_bipush (v := 61) dX12_cooled_17 (by decide) ?_
    refine wp_iload_n dX12_cooled_19 rfl ?_
    refine wp_iadd dX12_cooled_20 ?_
    obtain ⟨v5, e6, h⟩ := bnd h
    refine wp_iaload dX12_cooled_21 e6 ?_
    refine wp_iload_n dX12_cooled_22 rfl ?_
    refine wp_icmp_ne (tgt := 48) dX12_cooled_23 (by decide) (fun hc_ => ?_) (fun hc_ => ?_)
    · replace h := ite_f hc_ h
      refine wp_iconst (v := 0) dX12_cooled_48 (by decide) ?_
      exact wp_ls (lsS (lsS (lsN (lsS lsZ)))) (X12_cooled_J49_ok h hc he0)
    · replace h := ite_t hc_ h
      refine wp_aload_n dX12_cooled_26 rfl ?_
      obtain ⟨v7, e8, h⟩ := bnd h
      refine wp_getR (c := 12) (k := 5) dX12_cooled_27 e8 (by decide) (by decide) rfl fl_RX12_58 ?_
      refine wp_bipush (v := 70) dX12_cooled_30 (by decide) ?_
      refine wp_iload_n dX12_cooled_32 rfl ?_
      refine wp_iadd dX12_cooled_33 ?_
      obtain ⟨v9, e10, h⟩ := bnd h
      refine wp_iaload dX12_cooled_34 e10 ?_
      refine wp_aload_n dX12_cooled_35 rfl ?_
      obtain ⟨v11, e12, h⟩ := bnd h
      refine wp_getR (c := 12) (k := 6) dX12_cooled_36 e12 (by decide) (by decide) rfl fl_RX12_62 ?_
      refine wp_bipush (v := 73) dX12_cooled_39 (by decide) ?_
      refine wp_iload_n dX12_cooled_41 rfl ?_
      refine wp_iadd dX12_cooled_42 ?_
      obtain ⟨v13, e14, h⟩ := bnd h
      refine wp_iaload dX12_cooled_43 e14 ?_
      refine wp_imul dX12_cooled_44 ?_
      refine wp_goto (tgt := 49) dX12_cooled_45 (by decide) ?_
      exact wp_ls (lsS (lsS (lsN (lsS lsZ)))) (X12_cooled_J49_ok h hc he0)

theorem X12_cooled_B4_lp {w : Gw} {d : Nat} {x0 : Nat} {x1 : Int32} {M : Gm} {o : Go} {M' : Gm} {r : Int32} : ∀ (n : Nat) (q : Int32 × Int32), lp (X12_cooled_B4 x0 x1 M) n q = some r → (∀ t : Int32, r = t → Wp w mdX12_cooled (d + 1) 57 [none, none, some (.inl t), none] [] M o M') → Wp w mdX12_cooled (d + 1) 4 [some (.inr x0), some (.inl x1), some (.inl q.1), some (.inl q.2)] [] M o M' := by
  intro n
  induction n with
  | zero => intro q h; cases h
  | succ n ih =>
    intro q h he0
    cases hb : X12_cooled_B4 x0 x1 M q with
    | none => rw [lp_succ, hb] at h; cases h
    | some out =>
      rw [lp_succ, hb] at h
      exact X12_cooled_B4_ok hb (fun t e => ih t (by rw [e] at h; exact h) he0) (fun t e => he0 t (by rw [e] at h; cases h; rfl))
theorem X12_cooled_F_ok {w : Gw} {d : Nat} {x0 : Nat} {x1 : Int32} {M : Gm} {out : Int32} (h : X12_cooled_F x0 x1 M = some out) : Wp w mdX12_cooled (d + 1) 0 [some (.inr x0), some (.inl x1), none, none] [] M (.inl (some (.inl out))) M := by
  unfold X12_cooled_F at h
  refine wp_iconst (v := 0) dX12_cooled_0 (by decide) ?_
  refine wp_istore_n dX12_cooled_1 (Nat.le_of_ble_eq_true rfl) ?_
  refine wp_iconst (v := 0) dX12_cooled_2 (by decide) ?_
  refine wp_istore_n dX12_cooled_3 (Nat.le_of_ble_eq_true rfl) ?_
  obtain ⟨r1, e2, h⟩ := bnd h
  refine wp_ls (lsS (lsS (lsS (lsS lsZ)))) (X12_cooled_B4_lp FU _ e2 ?_)
  intro t_ ht_; cases ht_
  refine wp_iload_n dX12_cooled_57 rfl ?_
  cases h
  exact wp_iret dX12_cooled_58 rfl

theorem sh_X12_cooled_ok {w : Gw} {d : Nat} {x0 : Nat} {x1 : Int32} {M : Gm} {out : Int32} (h : sh_X12_cooled x0 x1 M = some out) : Ev w mdX12_cooled (d + 1) [.inr x0, .inl x1] M (.inl (some (.inl out))) M := by
  obtain ⟨u, e0, h⟩ := bnd h
  exact ev_of okX12_cooled ⟨_, _, rfl, isO_of e0 (by decide), by decide⟩ (Nat.le_of_ble_eq_true rfl) (X12_cooled_F_ok h)

/-! HeatGovernorModel.held(III)I -/
def X12_held_J19 (s0 : Int32) (M : Gm) : Option (Int32) :=
  some s0
def X12_held_F (x0 : Int32) (x1 : Int32) (x2 : Int32) (M : Gm) : Option (Int32) :=
  if x1 ≤ x0 then
    if x0 ≤ x2 then
      X12_held_J19 x0 M
    else
      X12_held_J19 x2 M
  else
    X12_held_J19 x1 M
def sh_X12_held (x0 : Int32) (x1 : Int32) (x2 : Int32) (M : Gm) : Option (Int32) := X12_held_F x0 x1 x2 M
theorem X12_held_J19_ok {w : Gw} {d : Nat} {s0 : Int32} {M : Gm} {out : Int32} (h : X12_held_J19 s0 M = some out) : Wp w mdX12_held d 19 [none, none, none] [.inl s0] M (.inl (some (.inl out))) M := by
  unfold X12_held_J19 at h
  cases h
  exact wp_iret dX12_held_19 rfl

theorem X12_held_F_ok {w : Gw} {d : Nat} {x0 : Int32} {x1 : Int32} {x2 : Int32} {M : Gm} {out : Int32} (h : X12_held_F x0 x1 x2 M = some out) : Wp w mdX12_held d 0 [some (.inl x0), some (.inl x1), some (.inl x2)] [] M (.inl (some (.inl out))) M := by
  unfold X12_held_F at h
  refine wp_iload_n dX12_held_0 rfl ?_
  refine wp_iload_n dX12_held_1 rfl ?_
  refine wp_icmp_ge (tgt := 9) dX12_held_2 (by decide) (fun hc_ => ?_) (fun hc_ => ?_)
  · replace h := ite_t hc_ h
    refine wp_iload_n dX12_held_9 rfl ?_
    refine wp_iload_n dX12_held_10 rfl ?_
    refine wp_icmp_le (tgt := 18) dX12_held_11 (by decide) (fun hc_ => ?_) (fun hc_ => ?_)
    · replace h := ite_t hc_ h
      refine wp_iload_n dX12_held_18 rfl ?_
      exact wp_ls (lsN (lsN (lsN lsZ))) (X12_held_J19_ok h)
    · replace h := ite_f hc_ h
      refine wp_iload_n dX12_held_14 rfl ?_
      refine wp_goto (tgt := 19) dX12_held_15 (by decide) ?_
      exact wp_ls (lsN (lsN (lsN lsZ))) (X12_held_J19_ok h)
  · replace h := ite_f hc_ h
    refine wp_iload_n dX12_held_5 rfl ?_
    refine wp_goto (tgt := 19) dX12_held_6 (by decide) ?_
    exact wp_ls (lsN (lsN (lsN lsZ))) (X12_held_J19_ok h)

theorem sh_X12_held_ok {w : Gw} {d : Nat} {x0 : Int32} {x1 : Int32} {x2 : Int32} {M : Gm} {out : Int32} (h : sh_X12_held x0 x1 x2 M = some out) : Ev w mdX12_held d [.inl x0, .inl x1, .inl x2] M (.inl (some (.inl out))) M := ev_of okX12_held trivial (Nat.le_of_ble_eq_true rfl) (X12_held_F_ok h)

/-! HeatGovernorModel.heats()V -/
def X12_heats_J48 (x0 : Nat) (x1 : Int32) (s0 : Nat) (s1 : Int32) (s2 : Int32) (s3 : Int32) (M : Gm) : Option ((Int32 × Gm) ⊕ Gm) :=
  (gfR M x0 12 5).bind fun v1 =>
  (ldA M 0 v1 (0 + x1)).bind fun v3 =>
  (gfR M x0 12 6).bind fun v5 =>
  (ldA M 0 v5 (0 + x1)).bind fun v7 =>
  (sh_X12_by (v3 - 200) v7 M).bind fun q9 =>
  (sh_X12_cooled x0 x1 M).bind fun q11 =>
  (stA M 0 s0 s1 (((s2 + s3) - q9) - q11)).bind fun M13 =>
  some (.inl (x1 + 1, M13))
def X12_heats_B2 (x0 : Nat) (q : Int32 × Gm) : Option ((Int32 × Gm) ⊕ Gm) :=
  (sh_X12_zones x0 q.2).bind fun q1 =>
  if q1 ≤ q.1 then
    some (.inr q.2)
  else
    (gfR q.2 x0 12 22).bind fun v3 =>
    (gfR q.2 x0 12 5).bind fun v5 =>
    (ldA q.2 0 v5 (0 + q.1)).bind fun v7 =>
    (gfR q.2 x0 12 5).bind fun v9 =>
    (ldA q.2 0 v9 (10 + q.1)).bind fun v11 =>
    if v11 = 1 then
      X12_heats_J48 x0 q.1 v3 q.1 v7 0 q.2
    else
      (gfR q.2 x0 12 5).bind fun v13 =>
      (ldA q.2 0 v13 (5 + q.1)).bind fun v15 =>
      X12_heats_J48 x0 q.1 v3 q.1 v7 v15 q.2
def X12_heats_B88 (x0 : Nat) (q : Int32 × Gm) : Option ((Int32 × Gm) ⊕ Gm) :=
  (gfR q.2 x0 12 6).bind fun v1 =>
  (ldA q.2 0 v1 167).bind fun v3 =>
  if v3 ≤ q.1 then
    some (.inr q.2)
  else
    (gfR q.2 x0 12 6).bind fun v5 =>
    (ldA q.2 0 v5 (139 + q.1)).bind fun v7 =>
    (gfR q.2 x0 12 6).bind fun v9 =>
    (ldA q.2 0 v9 (147 + q.1)).bind fun v11 =>
    (gfR q.2 x0 12 5).bind fun v13 =>
    (ldA q.2 0 v13 (0 + v7)).bind fun v15 =>
    (gfR q.2 x0 12 5).bind fun v17 =>
    (ldA q.2 0 v17 (0 + v11)).bind fun v19 =>
    (gfR q.2 x0 12 6).bind fun v21 =>
    (ldA q.2 0 v21 (155 + q.1)).bind fun v23 =>
    (sh_X12_by (v15 - v19) v23 q.2).bind fun q25 =>
    (gfR q.2 x0 12 22).bind fun v27 =>
    (ldA q.2 0 v27 v7).bind fun v29 =>
    (stA q.2 0 v27 v7 (v29 - q25)).bind fun M31 =>
    (gfR M31 x0 12 22).bind fun v33 =>
    (ldA M31 0 v33 v11).bind fun v35 =>
    (stA M31 0 v33 v11 (v35 + q25)).bind fun M37 =>
    some (.inl (q.1 + 1, M37))
def X12_heats_B184 (x0 : Nat) (q : Int32 × Gm) : Option ((Int32 × Gm) ⊕ Gm) :=
  (sh_X12_zones x0 q.2).bind fun q1 =>
  if q1 ≤ q.1 then
    some (.inr q.2)
  else
    (gfR q.2 x0 12 5).bind fun v3 =>
    (gfR q.2 x0 12 22).bind fun v5 =>
    (ldA q.2 0 v5 q.1).bind fun v7 =>
    (sh_X12_held v7 0 1500 q.2).bind fun q9 =>
    (stA q.2 0 v3 (0 + q.1) q9).bind fun M11 =>
    some (.inl (q.1 + 1, M11))
def X12_heats_F (x0 : Nat) (M : Gm) : Option (Gm) :=
  (lp (X12_heats_B2 x0) FU (0, M)).bind fun r1 =>
  (lp (X12_heats_B88 x0) FU (0, r1)).bind fun r3 =>
  (lp (X12_heats_B184 x0) FU (0, r3)).bind fun r5 =>
  some r5
def sh_X12_heats (x0 : Nat) (M : Gm) : Option (Gm) := (isO M x0 12).bind fun _ => X12_heats_F x0 M
theorem X12_heats_J48_ok {w : Gw} {d : Nat} {x0 : Nat} {x1 : Int32} {s0 : Nat} {s1 : Int32} {s2 : Int32} {s3 : Int32} {M : Gm} {o : Go} {M' : Gm} {out : (Int32 × Gm) ⊕ Gm} (h : X12_heats_J48 x0 x1 s0 s1 s2 s3 M = some out) (hc : ∀ t : Int32 × Gm, out = .inl t → Wp w mdX12_heats (d + 2) 2 [some (.inr x0), some (.inl t.1), none, none, none] [] t.2 o M') (he0 : ∀ t : Gm, out = .inr t → Wp w mdX12_heats (d + 2) 86 [some (.inr x0), none, none, none, none] [] t o M') : Wp w mdX12_heats (d + 2) 48 [some (.inr x0), some (.inl x1), none, none, none] [.inl s3, .inl s2, .inl s1, .inr s0] M o M' := by
  unfold X12_heats_J48 at h
  refine wp_iadd dX12_heats_48 ?_
  refine wp_aload_n dX12_heats_49 rfl ?_
  obtain ⟨v1, e2, h⟩ := bnd h
  refine wp_getR (c := 12) (k := 5) dX12_heats_50 e2 (by decide) (by decide) rfl fl_RX12_58 ?_
  refine wp_iconst (v := 0) dX12_heats_53 (by decide) ?_
  refine wp_iload_n dX12_heats_54 rfl ?_
  refine wp_iadd dX12_heats_55 ?_
  obtain ⟨v3, e4, h⟩ := bnd h
  refine wp_iaload dX12_heats_56 e4 ?_
  refine wp_sipush (v := 200) dX12_heats_57 (by decide) ?_
  refine wp_isub dX12_heats_60 ?_
  refine wp_aload_n dX12_heats_61 rfl ?_
  obtain ⟨v5, e6, h⟩ := bnd h
  refine wp_getR (c := 12) (k := 6) dX12_heats_62 e6 (by decide) (by decide) rfl fl_RX12_62 ?_
  refine wp_iconst (v := 0) dX12_heats_65 (by decide) ?_
  refine wp_iload_n dX12_heats_66 rfl ?_
  refine wp_iadd dX12_heats_67 ?_
  obtain ⟨v7, e8, h⟩ := bnd h
  refine wp_iaload dX12_heats_68 e8 ?_
  obtain ⟨q9, e10, h⟩ := bnd h
  refine wp_callS (As := [.inl (v3 - 200), .inl v7]) dX12_heats_69 (sh_X12_by_ok (d := d + 1) e10) okX12_by nnX12_by ssX12_by ml_RX12_269 rfl (Nat.le_of_ble_eq_true rfl) ?_
  refine wp_isub dX12_heats_72 ?_
  refine wp_aload_n dX12_heats_73 rfl ?_
  refine wp_iload_n dX12_heats_74 rfl ?_
  obtain ⟨q11, e12, h⟩ := bnd h
  refine wp_callV (As := [.inl x1]) dX12_heats_75 (sh_X12_cooled_ok (d := d) e12) okX12_cooled nnX12_cooled vvX12_cooled ml_RX12_272 rfl (Nat.le_of_ble_eq_true rfl) ?_
  refine wp_isub dX12_heats_78 ?_
  obtain ⟨M13, e14, h⟩ := bnd h
  refine wp_iastore dX12_heats_79 e14 ?_
  refine wp_iinc (v := x1 + 1) dX12_heats_80 rfl rfl ?_
  refine wp_goto (tgt := 2) dX12_heats_83 (by decide) ?_
  cases h
  exact wp_ls (lsS (lsS (lsN (lsN (lsN lsZ))))) (hc (x1 + 1, M13) rfl)

theorem X12_heats_B2_ok {w : Gw} {d : Nat} {x0 : Nat} {q : Int32 × Gm} {o : Go} {M' : Gm} {out : (Int32 × Gm) ⊕ Gm} (h : X12_heats_B2 x0 q = some out) (hc : ∀ t : Int32 × Gm, out = .inl t → Wp w mdX12_heats (d + 2) 2 [some (.inr x0), some (.inl t.1), none, none, none] [] t.2 o M') (he0 : ∀ t : Gm, out = .inr t → Wp w mdX12_heats (d + 2) 86 [some (.inr x0), none, none, none, none] [] t o M') : Wp w mdX12_heats (d + 2) 2 [some (.inr x0), some (.inl q.1), none, none, none] [] q.2 o M' := by
  unfold X12_heats_B2 at h
  refine wp_iload_n dX12_heats_2 rfl ?_
  refine wp_aload_n dX12_heats_3 rfl ?_
  obtain ⟨q1, e2, h⟩ := bnd h
  refine wp_callV (As := []) dX12_heats_4 (sh_X12_zones_ok (d := d + 1) e2) okX12_zones nnX12_zones vvX12_zones ml_RX12_266 rfl (Nat.le_of_ble_eq_true rfl) ?_
  refine wp_icmp_ge (tgt := 86) dX12_heats_7 (by decide) (fun hc_ => ?_) (fun hc_ => ?_)
  · replace h := ite_t hc_ h
    cases h
    exact wp_ls (lsS (lsN (lsN (lsN (lsN lsZ))))) (he0 q.2 rfl)
  · replace h := ite_f hc_ h
    refine wp_aload_n dX12_heats_10 rfl ?_
    obtain ⟨v3, e4, h⟩ := bnd h
    refine wp_getR (c := 12) (k := 22) dX12_heats_11 e4 (by decide) (by decide) rfl fl_RX12_81 ?_
    refine wp_iload_n dX12_heats_14 rfl ?_
    refine wp_aload_n dX12_heats_15 rfl ?_
    obtain ⟨v5, e6, h⟩ := bnd h
    refine wp_getR (c := 12) (k := 5) dX12_heats_16 e6 (by decide) (by decide) rfl fl_RX12_58 ?_
    refine wp_iconst (v := 0) dX12_heats_19 (by decide) ?_
    refine wp_iload_n dX12_heats_20 rfl ?_
    refine wp_iadd dX12_heats_21 ?_
    obtain ⟨v7, e8, h⟩ := bnd h
    refine wp_iaload dX12_heats_22 e8 ?_
    refine wp_aload_n dX12_heats_23 rfl ?_
    obtain ⟨v9, e10, h⟩ := bnd h
    refine wp_getR (c := 12) (k := 5) dX12_heats_24 e10 (by decide) (by decide) rfl fl_RX12_58 ?_
    refine wp_bipush (v := 10) dX12_heats_27 (by decide) ?_
    refine wp_iload_n dX12_heats_29 rfl ?_
    refine wp_iadd dX12_heats_30 ?_
    obtain ⟨v11, e12, h⟩ := bnd h
    refine wp_iaload dX12_heats_31 e12 ?_
    refine wp_iconst (v := 1) dX12_heats_32 (by decide) ?_
    refine wp_icmp_ne (tgt := 40) dX12_heats_33 (by decide) (fun hc_ => ?_) (fun hc_ => ?_)
    · replace h := ite_f hc_ h
      refine wp_aload_n dX12_heats_40 rfl ?_
      obtain ⟨v13, e14, h⟩ := bnd h
      refine wp_getR (c := 12) (k := 5) dX12_heats_41 e14 (by decide) (by decide) rfl fl_RX12_58 ?_
      refine wp_iconst (v := 5) dX12_heats_44 (by decide) ?_
      refine wp_iload_n dX12_heats_45 rfl ?_
      refine wp_iadd dX12_heats_46 ?_
      obtain ⟨v15, e16, h⟩ := bnd h
      refine wp_iaload dX12_heats_47 e16 ?_
      exact wp_ls (lsS (lsS (lsN (lsN (lsN lsZ))))) (X12_heats_J48_ok h hc he0)
    · replace h := ite_t hc_ h
      refine wp_iconst (v := 0) dX12_heats_36 (by decide) ?_
      refine wp_goto (tgt := 48) dX12_heats_37 (by decide) ?_
      exact wp_ls (lsS (lsS (lsN (lsN (lsN lsZ))))) (X12_heats_J48_ok h hc he0)

theorem X12_heats_B2_lp {w : Gw} {d : Nat} {x0 : Nat} {o : Go} {M' : Gm} {r : Gm} : ∀ (n : Nat) (q : Int32 × Gm), lp (X12_heats_B2 x0) n q = some r → (∀ t : Gm, r = t → Wp w mdX12_heats (d + 2) 86 [some (.inr x0), none, none, none, none] [] t o M') → Wp w mdX12_heats (d + 2) 2 [some (.inr x0), some (.inl q.1), none, none, none] [] q.2 o M' := by
  intro n
  induction n with
  | zero => intro q h; cases h
  | succ n ih =>
    intro q h he0
    cases hb : X12_heats_B2 x0 q with
    | none => rw [lp_succ, hb] at h; cases h
    | some out =>
      rw [lp_succ, hb] at h
      exact X12_heats_B2_ok hb (fun t e => ih t (by rw [e] at h; exact h) he0) (fun t e => he0 t (by rw [e] at h; cases h; rfl))
theorem X12_heats_B88_ok {w : Gw} {d : Nat} {x0 : Nat} {q : Int32 × Gm} {o : Go} {M' : Gm} {out : (Int32 × Gm) ⊕ Gm} (h : X12_heats_B88 x0 q = some out) (hc : ∀ t : Int32 × Gm, out = .inl t → Wp w mdX12_heats (d + 2) 88 [some (.inr x0), some (.inl t.1), none, none, none] [] t.2 o M') (he0 : ∀ t : Gm, out = .inr t → Wp w mdX12_heats (d + 2) 182 [some (.inr x0), none, none, none, none] [] t o M') : Wp w mdX12_heats (d + 2) 88 [some (.inr x0), some (.inl q.1), none, none, none] [] q.2 o M' := by
  unfold X12_heats_B88 at h
  refine wp_iload_n dX12_heats_88 rfl ?_
  refine wp_aload_n dX12_heats_89 rfl ?_
  obtain ⟨v1, e2, h⟩ := bnd h
  refine wp_getR (c := 12) (k := 6) dX12_heats_90 e2 (by decide) (by decide) rfl fl_RX12_62 ?_
  refine wp_sipush (v := 167) dX12_heats_93 (by decide) ?_
  obtain ⟨v3, e4, h⟩ := bnd h
  refine wp_iaload dX12_heats_96 e4 ?_
  refine wp_icmp_ge (tgt := 182) dX12_heats_97 (by decide) (fun hc_ => ?_) (fun hc_ => ?_)
  · replace h := ite_t hc_ h
    cases h
    exact wp_ls (lsS (lsN (lsN (lsN (lsN lsZ))))) (he0 q.2 rfl)
  · replace h := ite_f hc_ h
    refine wp_aload_n dX12_heats_100 rfl ?_
    obtain ⟨v5, e6, h⟩ := bnd h
    refine wp_getR (c := 12) (k := 6) dX12_heats_101 e6 (by decide) (by decide) rfl fl_RX12_62 ?_
    refine wp_sipush (v := 139) dX12_heats_104 (by decide) ?_
    refine wp_iload_n dX12_heats_107 rfl ?_
    refine wp_iadd dX12_heats_108 ?_
    obtain ⟨v7, e8, h⟩ := bnd h
    refine wp_iaload dX12_heats_109 e8 ?_
    refine wp_istore_n dX12_heats_110 (Nat.le_of_ble_eq_true rfl) ?_
    refine wp_aload_n dX12_heats_111 rfl ?_
    obtain ⟨v9, e10, h⟩ := bnd h
    refine wp_getR (c := 12) (k := 6) dX12_heats_112 e10 (by decide) (by decide) rfl fl_RX12_62 ?_
    refine wp_sipush (v := 147) dX12_heats_115 (by decide) ?_
    refine wp_iload_n dX12_heats_118 rfl ?_
    refine wp_iadd dX12_heats_119 ?_
    obtain ⟨v11, e12, h⟩ := bnd h
    refine wp_iaload dX12_heats_120 e12 ?_
    refine wp_istore_n dX12_heats_121 (Nat.le_of_ble_eq_true rfl) ?_
    refine wp_aload_n dX12_heats_122 rfl ?_
    obtain ⟨v13, e14, h⟩ := bnd h
    refine wp_getR (c := 12) (k := 5) dX12_heats_123 e14 (by decide) (by decide) rfl fl_RX12_58 ?_
    refine wp_iconst (v := 0) dX12_heats_126 (by decide) ?_
    refine wp_iload_n dX12_heats_127 rfl ?_
    refine wp_iadd dX12_heats_128 ?_
    obtain ⟨v15, e16, h⟩ := bnd h
    refine wp_iaload dX12_heats_129 e16 ?_
    refine wp_aload_n dX12_heats_130 rfl ?_
    obtain ⟨v17, e18, h⟩ := bnd h
    refine wp_getR (c := 12) (k := 5) dX12_heats_131 e18 (by decide) (by decide) rfl fl_RX12_58 ?_
    refine wp_iconst (v := 0) dX12_heats_134 (by decide) ?_
    refine wp_iload_n dX12_heats_135 rfl ?_
    refine wp_iadd dX12_heats_136 ?_
    obtain ⟨v19, e20, h⟩ := bnd h
    refine wp_iaload dX12_heats_137 e20 ?_
    refine wp_isub dX12_heats_138 ?_
    refine wp_aload_n dX12_heats_139 rfl ?_
    obtain ⟨v21, e22, h⟩ := bnd h
    refine wp_getR (c := 12) (k := 6) dX12_heats_140 e22 (by decide) (by decide) rfl fl_RX12_62 ?_
    refine wp_sipush (v := 155) dX12_heats_143 (by decide) ?_
    refine wp_iload_n dX12_heats_146 rfl ?_
    refine wp_iadd dX12_heats_147 ?_
    obtain ⟨v23, e24, h⟩ := bnd h
    refine wp_iaload dX12_heats_148 e24 ?_
    obtain ⟨q25, e26, h⟩ := bnd h
    refine wp_callS (As := [.inl (v15 - v19), .inl v23]) dX12_heats_149 (sh_X12_by_ok (d := d + 1) e26) okX12_by nnX12_by ssX12_by ml_RX12_269 rfl (Nat.le_of_ble_eq_true rfl) ?_
    refine wp_istore dX12_heats_152 (Nat.le_of_ble_eq_true rfl) ?_
    refine wp_aload_n dX12_heats_154 rfl ?_
    obtain ⟨v27, e28, h⟩ := bnd h
    refine wp_getR (c := 12) (k := 22) dX12_heats_155 e28 (by decide) (by decide) rfl fl_RX12_81 ?_
    refine wp_iload_n dX12_heats_158 rfl ?_
    refine wp_dup2 dX12_heats_159 ?_
    obtain ⟨v29, e30, h⟩ := bnd h
    refine wp_iaload dX12_heats_160 e30 ?_
    refine wp_iload dX12_heats_161 rfl ?_
    refine wp_isub dX12_heats_163 ?_
    obtain ⟨M31, e32, h⟩ := bnd h
    refine wp_iastore dX12_heats_164 e32 ?_
    refine wp_aload_n dX12_heats_165 rfl ?_
    obtain ⟨v33, e34, h⟩ := bnd h
    refine wp_getR (c := 12) (k := 22) dX12_heats_166 e34 (by decide) (by decide) rfl fl_RX12_81 ?_
    refine wp_iload_n dX12_heats_169 rfl ?_
    refine wp_dup2 dX12_heats_170 ?_
    obtain ⟨v35, e36, h⟩ := bnd h
    refine wp_iaload dX12_heats_171 e36 ?_
    refine wp_iload dX12_heats_172 rfl ?_
    refine wp_iadd dX12_heats_174 ?_
    obtain ⟨M37, e38, h⟩ := bnd h
    refine wp_iastore dX12_heats_175 e38 ?_
    refine wp_iinc (v := q.1 + 1) dX12_heats_176 rfl rfl ?_
    refine wp_goto (tgt := 88) dX12_heats_179 (by decide) ?_
    cases h
    exact wp_ls (lsS (lsS (lsN (lsN (lsN lsZ))))) (hc (q.1 + 1, M37) rfl)

theorem X12_heats_B88_lp {w : Gw} {d : Nat} {x0 : Nat} {o : Go} {M' : Gm} {r : Gm} : ∀ (n : Nat) (q : Int32 × Gm), lp (X12_heats_B88 x0) n q = some r → (∀ t : Gm, r = t → Wp w mdX12_heats (d + 2) 182 [some (.inr x0), none, none, none, none] [] t o M') → Wp w mdX12_heats (d + 2) 88 [some (.inr x0), some (.inl q.1), none, none, none] [] q.2 o M' := by
  intro n
  induction n with
  | zero => intro q h; cases h
  | succ n ih =>
    intro q h he0
    cases hb : X12_heats_B88 x0 q with
    | none => rw [lp_succ, hb] at h; cases h
    | some out =>
      rw [lp_succ, hb] at h
      exact X12_heats_B88_ok hb (fun t e => ih t (by rw [e] at h; exact h) he0) (fun t e => he0 t (by rw [e] at h; cases h; rfl))
theorem X12_heats_B184_ok {w : Gw} {d : Nat} {x0 : Nat} {q : Int32 × Gm} {o : Go} {M' : Gm} {out : (Int32 × Gm) ⊕ Gm} (h : X12_heats_B184 x0 q = some out) (hc : ∀ t : Int32 × Gm, out = .inl t → Wp w mdX12_heats (d + 2) 184 [some (.inr x0), some (.inl t.1), none, none, none] [] t.2 o M') (he0 : ∀ t : Gm, out = .inr t → Wp w mdX12_heats (d + 2) 219 [none, none, none, none, none] [] t o M') : Wp w mdX12_heats (d + 2) 184 [some (.inr x0), some (.inl q.1), none, none, none] [] q.2 o M' := by
  unfold X12_heats_B184 at h
  refine wp_iload_n dX12_heats_184 rfl ?_
  refine wp_aload_n dX12_heats_185 rfl ?_
  obtain ⟨q1, e2, h⟩ := bnd h
  refine wp_callV (As := []) dX12_heats_186 (sh_X12_zones_ok (d := d + 1) e2) okX12_zones nnX12_zones vvX12_zones ml_RX12_266 rfl (Nat.le_of_ble_eq_true rfl) ?_
  refine wp_icmp_ge (tgt := 219) dX12_heats_189 (by decide) (fun hc_ => ?_) (fun hc_ => ?_)
  · replace h := ite_t hc_ h
    cases h
    exact wp_ls (lsN (lsN (lsN (lsN (lsN lsZ))))) (he0 q.2 rfl)
  · replace h := ite_f hc_ h
    refine wp_aload_n dX12_heats_192 rfl ?_
    obtain ⟨v3, e4, h⟩ := bnd h
    refine wp_getR (c := 12) (k := 5) dX12_heats_193 e4 (by decide) (by decide) rfl fl_RX12_58 ?_
    refine wp_iconst (v := 0) dX12_heats_196 (by decide) ?_
    refine wp_iload_n dX12_heats_197 rfl ?_
    refine wp_iadd dX12_heats_198 ?_
    refine wp_aload_n dX12_heats_199 rfl ?_
    obtain ⟨v5, e6, h⟩ := bnd h
    refine wp_getR (c := 12) (k := 22) dX12_heats_200 e6 (by decide) (by decide) rfl fl_RX12_81 ?_
    refine wp_iload_n dX12_heats_203 rfl ?_
    obtain ⟨v7, e8, h⟩ := bnd h
    refine wp_iaload dX12_heats_204 e8 ?_
    refine wp_iconst (v := 0) dX12_heats_205 (by decide) ?_
    refine wp_sipush (v := 1500) dX12_heats_206 (by decide) ?_
    obtain ⟨q9, e10, h⟩ := bnd h
    refine wp_callS (As := [.inl v7, .inl 0, .inl 1500]) dX12_heats_209 (sh_X12_held_ok (d := d + 1) e10) okX12_held nnX12_held ssX12_held ml_RX12_275 rfl (Nat.le_of_ble_eq_true rfl) ?_
    obtain ⟨M11, e12, h⟩ := bnd h
    refine wp_iastore dX12_heats_212 e12 ?_
    refine wp_iinc (v := q.1 + 1) dX12_heats_213 rfl rfl ?_
    refine wp_goto (tgt := 184) dX12_heats_216 (by decide) ?_
    cases h
    exact wp_ls (lsS (lsS (lsN (lsN (lsN lsZ))))) (hc (q.1 + 1, M11) rfl)

theorem X12_heats_B184_lp {w : Gw} {d : Nat} {x0 : Nat} {o : Go} {M' : Gm} {r : Gm} : ∀ (n : Nat) (q : Int32 × Gm), lp (X12_heats_B184 x0) n q = some r → (∀ t : Gm, r = t → Wp w mdX12_heats (d + 2) 219 [none, none, none, none, none] [] t o M') → Wp w mdX12_heats (d + 2) 184 [some (.inr x0), some (.inl q.1), none, none, none] [] q.2 o M' := by
  intro n
  induction n with
  | zero => intro q h; cases h
  | succ n ih =>
    intro q h he0
    cases hb : X12_heats_B184 x0 q with
    | none => rw [lp_succ, hb] at h; cases h
    | some out =>
      rw [lp_succ, hb] at h
      exact X12_heats_B184_ok hb (fun t e => ih t (by rw [e] at h; exact h) he0) (fun t e => he0 t (by rw [e] at h; cases h; rfl))
theorem X12_heats_F_ok {w : Gw} {d : Nat} {x0 : Nat} {M : Gm} {out : Gm} (h : X12_heats_F x0 M = some out) : Wp w mdX12_heats (d + 2) 0 [some (.inr x0), none, none, none, none] [] M (.inl none) out := by
  unfold X12_heats_F at h
  refine wp_iconst (v := 0) dX12_heats_0 (by decide) ?_
  refine wp_istore_n dX12_heats_1 (Nat.le_of_ble_eq_true rfl) ?_
  obtain ⟨r1, e2, h⟩ := bnd h
  refine wp_ls (lsS (lsS (lsN (lsN (lsN lsZ))))) (X12_heats_B2_lp FU _ e2 ?_)
  intro t_ ht_; cases ht_
  refine wp_iconst (v := 0) dX12_heats_86 (by decide) ?_
  refine wp_istore_n dX12_heats_87 (Nat.le_of_ble_eq_true rfl) ?_
  obtain ⟨r3, e4, h⟩ := bnd h
  refine wp_ls (lsS (lsS (lsN (lsN (lsN lsZ))))) (X12_heats_B88_lp FU _ e4 ?_)
  intro t_ ht_; cases ht_
  refine wp_iconst (v := 0) dX12_heats_182 (by decide) ?_
  refine wp_istore_n dX12_heats_183 (Nat.le_of_ble_eq_true rfl) ?_
  obtain ⟨r5, e6, h⟩ := bnd h
  refine wp_ls (lsS (lsS (lsN (lsN (lsN lsZ))))) (X12_heats_B184_lp FU _ e6 ?_)
  intro t_ ht_; cases ht_
  cases h
  exact wp_ret dX12_heats_219 rfl

theorem sh_X12_heats_ok {w : Gw} {d : Nat} {x0 : Nat} {M : Gm} {out : Gm} (h : sh_X12_heats x0 M = some out) : Ev w mdX12_heats (d + 2) [.inr x0] M (.inl none) out := by
  obtain ⟨u, e0, h⟩ := bnd h
  exact ev_of okX12_heats ⟨_, _, rfl, isO_of e0 (by decide), by decide⟩ (Nat.le_of_ble_eq_true rfl) (X12_heats_F_ok h)

/-! HeatGovernorModel.wanted(II)I -/
def X12_wanted_F (x0 : Nat) (x1 : Int32) (x2 : Int32) (M : Gm) : Option (Int32) :=
  (gfR M x0 12 5).bind fun v1 =>
  (ldA M 0 v1 ((82 + (6 * x1)) + x2)).bind fun v3 =>
  some v3
def sh_X12_wanted (x0 : Nat) (x1 : Int32) (x2 : Int32) (M : Gm) : Option (Int32) := (isO M x0 12).bind fun _ => X12_wanted_F x0 x1 x2 M
theorem X12_wanted_F_ok {w : Gw} {d : Nat} {x0 : Nat} {x1 : Int32} {x2 : Int32} {M : Gm} {out : Int32} (h : X12_wanted_F x0 x1 x2 M = some out) : Wp w mdX12_wanted d 0 [some (.inr x0), some (.inl x1), some (.inl x2)] [] M (.inl (some (.inl out))) M := by
  unfold X12_wanted_F at h
  refine wp_aload_n dX12_wanted_0 rfl ?_
  obtain ⟨v1, e2, h⟩ := bnd h
  refine wp_getR (c := 12) (k := 5) dX12_wanted_1 e2 (by decide) (by decide) rfl fl_RX12_58 ?_
  refine wp_bipush (v := 82) dX12_wanted_4 (by decide) ?_
  refine wp_bipush (v := 6) dX12_wanted_6 (by decide) ?_
  refine wp_iload_n dX12_wanted_8 rfl ?_
  refine wp_imul dX12_wanted_9 ?_
  refine wp_iadd dX12_wanted_10 ?_
  refine wp_iload_n dX12_wanted_11 rfl ?_
  refine wp_iadd dX12_wanted_12 ?_
  obtain ⟨v3, e4, h⟩ := bnd h
  refine wp_iaload dX12_wanted_13 e4 ?_
  cases h
  exact wp_iret dX12_wanted_14 rfl

theorem sh_X12_wanted_ok {w : Gw} {d : Nat} {x0 : Nat} {x1 : Int32} {x2 : Int32} {M : Gm} {out : Int32} (h : sh_X12_wanted x0 x1 x2 M = some out) : Ev w mdX12_wanted d [.inr x0, .inl x1, .inl x2] M (.inl (some (.inl out))) M := by
  obtain ⟨u, e0, h⟩ := bnd h
  exact ev_of okX12_wanted ⟨_, _, rfl, isO_of e0 (by decide), by decide⟩ (Nat.le_of_ble_eq_true rfl) (X12_wanted_F_ok h)

/-! HeatGovernorModel.weight(II)I -/
def X12_weight_F (x0 : Nat) (x1 : Int32) (x2 : Int32) (M : Gm) : Option (Int32) :=
  (gfR M x0 12 6).bind fun v1 =>
  (ldA M 0 v1 ((79 + (6 * x1)) + x2)).bind fun v3 =>
  some v3
def sh_X12_weight (x0 : Nat) (x1 : Int32) (x2 : Int32) (M : Gm) : Option (Int32) := (isO M x0 12).bind fun _ => X12_weight_F x0 x1 x2 M
theorem X12_weight_F_ok {w : Gw} {d : Nat} {x0 : Nat} {x1 : Int32} {x2 : Int32} {M : Gm} {out : Int32} (h : X12_weight_F x0 x1 x2 M = some out) : Wp w mdX12_weight d 0 [some (.inr x0), some (.inl x1), some (.inl x2)] [] M (.inl (some (.inl out))) M := by
  unfold X12_weight_F at h
  refine wp_aload_n dX12_weight_0 rfl ?_
  obtain ⟨v1, e2, h⟩ := bnd h
  refine wp_getR (c := 12) (k := 6) dX12_weight_1 e2 (by decide) (by decide) rfl fl_RX12_62 ?_
  refine wp_bipush (v := 79) dX12_weight_4 (by decide) ?_
  refine wp_bipush (v := 6) dX12_weight_6 (by decide) ?_
  refine wp_iload_n dX12_weight_8 rfl ?_
  refine wp_imul dX12_weight_9 ?_
  refine wp_iadd dX12_weight_10 ?_
  refine wp_iload_n dX12_weight_11 rfl ?_
  refine wp_iadd dX12_weight_12 ?_
  obtain ⟨v3, e4, h⟩ := bnd h
  refine wp_iaload dX12_weight_13 e4 ?_
  cases h
  exact wp_iret dX12_weight_14 rfl

theorem sh_X12_weight_ok {w : Gw} {d : Nat} {x0 : Nat} {x1 : Int32} {x2 : Int32} {M : Gm} {out : Int32} (h : sh_X12_weight x0 x1 x2 M = some out) : Ev w mdX12_weight d [.inr x0, .inl x1, .inl x2] M (.inl (some (.inl out))) M := by
  obtain ⟨u, e0, h⟩ := bnd h
  exact ev_of okX12_weight ⟨_, _, rfl, isO_of e0 (by decide), by decide⟩ (Nat.le_of_ble_eq_true rfl) (X12_weight_F_ok h)

/-! HeatGovernorModel.mostWanted(I)I -/
def X12_mostWanted_J35 (x0 : Nat) (x1 : Int32) (x3 : Int32) (s0 : Int32) (M : Gm) : Option ((Int32 × Int32) ⊕ Int32) :=
  some (.inl (s0, x3 + 1))
def X12_mostWanted_B4 (x0 : Nat) (x1 : Int32) (M : Gm) (q : Int32 × Int32) : Option ((Int32 × Int32) ⊕ Int32) :=
  (sh_X12_trips x0 M).bind fun q1 =>
  if q1 ≤ q.2 then
    some (.inr q.1)
  else
    (sh_X12_weight x0 q.2 x1 M).bind fun q3 =>
    if q3 ≤ 0 then
      X12_mostWanted_J35 x0 x1 q.2 q.1 M
    else
      (sh_X12_wanted x0 q.2 x1 M).bind fun q5 =>
      (sh_J9_max_7cf53 q.1 q5 M).bind fun q7 =>
      X12_mostWanted_J35 x0 x1 q.2 q7 M
def X12_mostWanted_F (x0 : Nat) (x1 : Int32) (M : Gm) : Option (Int32) :=
  (lp (X12_mostWanted_B4 x0 x1 M) FU (0, 0)).bind fun r1 =>
  some r1
def sh_X12_mostWanted (x0 : Nat) (x1 : Int32) (M : Gm) : Option (Int32) := (isO M x0 12).bind fun _ => X12_mostWanted_F x0 x1 M
theorem X12_mostWanted_J35_ok {w : Gw} {d : Nat} {x0 : Nat} {x1 : Int32} {x3 : Int32} {s0 : Int32} {M : Gm} {o : Go} {M' : Gm} {out : (Int32 × Int32) ⊕ Int32} (h : X12_mostWanted_J35 x0 x1 x3 s0 M = some out) (hc : ∀ t : Int32 × Int32, out = .inl t → Wp w mdX12_mostWanted (d + 1) 4 [some (.inr x0), some (.inl x1), some (.inl t.1), some (.inl t.2)] [] M o M') (he0 : ∀ t : Int32, out = .inr t → Wp w mdX12_mostWanted (d + 1) 42 [none, none, some (.inl t), none] [] M o M') : Wp w mdX12_mostWanted (d + 1) 35 [some (.inr x0), some (.inl x1), none, some (.inl x3)] [.inl s0] M o M' := by
  unfold X12_mostWanted_J35 at h
  refine wp_istore_n dX12_mostWanted_35 (Nat.le_of_ble_eq_true rfl) ?_
  refine wp_iinc (v := x3 + 1) dX12_mostWanted_36 rfl rfl ?_
  refine wp_goto (tgt := 4) dX12_mostWanted_39 (by decide) ?_
  cases h
  exact wp_ls (lsS (lsS (lsS (lsS lsZ)))) (hc (s0, x3 + 1) rfl)

theorem X12_mostWanted_B4_ok {w : Gw} {d : Nat} {x0 : Nat} {x1 : Int32} {M : Gm} {q : Int32 × Int32} {o : Go} {M' : Gm} {out : (Int32 × Int32) ⊕ Int32} (h : X12_mostWanted_B4 x0 x1 M q = some out) (hc : ∀ t : Int32 × Int32, out = .inl t → Wp w mdX12_mostWanted (d + 1) 4 [some (.inr x0), some (.inl x1), some (.inl t.1), some (.inl t.2)] [] M o M') (he0 : ∀ t : Int32, out = .inr t → Wp w mdX12_mostWanted (d + 1) 42 [none, none, some (.inl t), none] [] M o M') : Wp w mdX12_mostWanted (d + 1) 4 [some (.inr x0), some (.inl x1), some (.inl q.1), some (.inl q.2)] [] M o M' := by
  unfold X12_mostWanted_B4 at h
  refine wp_iload_n dX12_mostWanted_4 rfl ?_
  refine wp_aload_n dX12_mostWanted_5 rfl ?_
  obtain ⟨q1, e2, h⟩ := bnd h
  refine wp_callV (As := []) dX12_mostWanted_6 (sh_X12_trips_ok (d := d) e2) okX12_trips nnX12_trips vvX12_trips ml_RX12_312 rfl (Nat.le_of_ble_eq_true rfl) ?_
  refine wp_icmp_ge (tgt := 42) dX12_mostWanted_9 (by decide) (fun hc_ => ?_) (fun hc_ => ?_)
  · replace h := ite_t hc_ h
    cases h
    exact wp_ls (lsN (lsN (lsS (lsN lsZ)))) (he0 q.1 rfl)
  · replace h := ite_f hc_ h
    refine wp_aload_n dX12_mostWanted_12 rfl ?_
    refine wp_iload_n dX12_mostWanted_13 rfl ?_
    refine wp_iload_n dX12_mostWanted_14 rfl ?_
    obtain ⟨q3, e4, h⟩ := bnd h
    refine wp_callV (As := [.inl q.2, .inl x1]) dX12_mostWanted_15 (sh_X12_weight_ok (d := d) e4) okX12_weight nnX12_weight vvX12_weight ml_RX12_294 rfl (Nat.le_of_ble_eq_true rfl) ?_
    refine wp_if_le (tgt := 34) dX12_mostWanted_18 (by decide) (fun hc_ => ?_) (fun hc_ => ?_)
    · replace h := ite_t hc_ h
      refine wp_iload_n dX12_mostWanted_34 rfl ?_
      exact wp_ls (lsS (lsS (lsN (lsS lsZ)))) (X12_mostWanted_J35_ok h hc he0)
    · replace h := ite_f hc_ h
      refine wp_iload_n dX12_mostWanted_21 rfl ?_
      refine wp_aload_n dX12_mostWanted_22 rfl ?_
      refine wp_iload_n dX12_mostWanted_23 rfl ?_
      refine wp_iload_n dX12_mostWanted_24 rfl ?_
      obtain ⟨q5, e6, h⟩ := bnd h
      refine wp_callV (As := [.inl q.2, .inl x1]) dX12_mostWanted_25 (sh_X12_wanted_ok (d := d) e6) okX12_wanted nnX12_wanted vvX12_wanted ml_RX12_300 rfl (Nat.le_of_ble_eq_true rfl) ?_
      obtain ⟨q7, e8, h⟩ := bnd h
      refine wp_callS (As := [.inl q.1, .inl q5]) dX12_mostWanted_28 (sh_J9_max_7cf53_ok (d := d) e8) okJ9_max_7cf53 nnJ9_max_7cf53 ssJ9_max_7cf53 ml_RX12_297 rfl (Nat.le_of_ble_eq_true rfl) ?_
      refine wp_goto (tgt := 35) dX12_mostWanted_31 (by decide) ?_
      exact wp_ls (lsS (lsS (lsN (lsS lsZ)))) (X12_mostWanted_J35_ok h hc he0)

theorem X12_mostWanted_B4_lp {w : Gw} {d : Nat} {x0 : Nat} {x1 : Int32} {M : Gm} {o : Go} {M' : Gm} {r : Int32} : ∀ (n : Nat) (q : Int32 × Int32), lp (X12_mostWanted_B4 x0 x1 M) n q = some r → (∀ t : Int32, r = t → Wp w mdX12_mostWanted (d + 1) 42 [none, none, some (.inl t), none] [] M o M') → Wp w mdX12_mostWanted (d + 1) 4 [some (.inr x0), some (.inl x1), some (.inl q.1), some (.inl q.2)] [] M o M' := by
  intro n
  induction n with
  | zero => intro q h; cases h
  | succ n ih =>
    intro q h he0
    cases hb : X12_mostWanted_B4 x0 x1 M q with
    | none => rw [lp_succ, hb] at h; cases h
    | some out =>
      rw [lp_succ, hb] at h
      exact X12_mostWanted_B4_ok hb (fun t e => ih t (by rw [e] at h; exact h) he0) (fun t e => he0 t (by rw [e] at h; cases h; rfl))
theorem X12_mostWanted_F_ok {w : Gw} {d : Nat} {x0 : Nat} {x1 : Int32} {M : Gm} {out : Int32} (h : X12_mostWanted_F x0 x1 M = some out) : Wp w mdX12_mostWanted (d + 1) 0 [some (.inr x0), some (.inl x1), none, none] [] M (.inl (some (.inl out))) M := by
  unfold X12_mostWanted_F at h
  refine wp_iconst (v := 0) dX12_mostWanted_0 (by decide) ?_
  refine wp_istore_n dX12_mostWanted_1 (Nat.le_of_ble_eq_true rfl) ?_
  refine wp_iconst (v := 0) dX12_mostWanted_2 (by decide) ?_
  refine wp_istore_n dX12_mostWanted_3 (Nat.le_of_ble_eq_true rfl) ?_
  obtain ⟨r1, e2, h⟩ := bnd h
  refine wp_ls (lsS (lsS (lsS (lsS lsZ)))) (X12_mostWanted_B4_lp FU _ e2 ?_)
  intro t_ ht_; cases ht_
  refine wp_iload_n dX12_mostWanted_42 rfl ?_
  cases h
  exact wp_iret dX12_mostWanted_43 rfl

theorem sh_X12_mostWanted_ok {w : Gw} {d : Nat} {x0 : Nat} {x1 : Int32} {M : Gm} {out : Int32} (h : sh_X12_mostWanted x0 x1 M = some out) : Ev w mdX12_mostWanted (d + 1) [.inr x0, .inl x1] M (.inl (some (.inl out))) M := by
  obtain ⟨u, e0, h⟩ := bnd h
  exact ev_of okX12_mostWanted ⟨_, _, rfl, isO_of e0 (by decide), by decide⟩ (Nat.le_of_ble_eq_true rfl) (X12_mostWanted_F_ok h)

/-! HeatGovernorModel.moves(I)V -/
def X12_moves_J119 (s0 : Nat) (s1 : Int32) (s2 : Int32) (M : Gm) : Option (Gm) :=
  (stA M 0 s0 s1 s2).bind fun M1 =>
  some M1
def X12_moves_J77 (x0 : Nat) (x1 : Int32) (x2 : Int32) (x3 : Int32) (s0 : Int32) (M : Gm) : Option (Gm) :=
  (gfR M x0 12 5).bind fun v1 =>
  if s0 = 0 then
    if x2 ≤ x3 then
      if x3 ≤ x2 then
        X12_moves_J119 v1 (70 + x1) x3 M
      else
        X12_moves_J119 v1 (70 + x1) (x3 - 1) M
    else
      X12_moves_J119 v1 (70 + x1) (x3 + 1) M
  else
    X12_moves_J119 v1 (70 + x1) x2 M
def X12_moves_J72 (x0 : Nat) (x1 : Int32) (x2 : Int32) (x3 : Int32) (M : Gm) : Option (Gm) :=
  X12_moves_J77 x0 x1 x2 x3 1 M
def X12_moves_J76 (x0 : Nat) (x1 : Int32) (x2 : Int32) (x3 : Int32) (M : Gm) : Option (Gm) :=
  X12_moves_J77 x0 x1 x2 x3 0 M
def X12_moves_J30 (x0 : Nat) (x1 : Int32) (s0 : Int32) (M : Gm) : Option (Gm) :=
  (gfR M x0 12 5).bind fun v1 =>
  (ldA M 0 v1 (70 + x1)).bind fun v3 =>
  (gfR M x0 12 6).bind fun v5 =>
  (ldA M 0 v5 (55 + x1)).bind fun v7 =>
  if v7 = 1 then
    X12_moves_J72 x0 x1 s0 v3 M
  else
    (gfR M x0 12 6).bind fun v9 =>
    (ldA M 0 v9 (55 + x1)).bind fun v11 =>
    if v11 = 2 then
      if s0 ≤ v3 then
        X12_moves_J76 x0 x1 s0 v3 M
      else
        X12_moves_J72 x0 x1 s0 v3 M
    else
      X12_moves_J76 x0 x1 s0 v3 M
def X12_moves_F (x0 : Nat) (x1 : Int32) (M : Gm) : Option (Gm) :=
  (gfR M x0 12 5).bind fun v1 =>
  (ldA M 0 v1 (76 + x1)).bind fun v3 =>
  if v3 = ((-1)) then
    (sh_X12_mostWanted x0 x1 M).bind fun q5 =>
    X12_moves_J30 x0 x1 q5 M
  else
    (gfR M x0 12 5).bind fun v7 =>
    (ldA M 0 v7 (76 + x1)).bind fun v9 =>
    X12_moves_J30 x0 x1 v9 M
def sh_X12_moves (x0 : Nat) (x1 : Int32) (M : Gm) : Option (Gm) := (isO M x0 12).bind fun _ => X12_moves_F x0 x1 M
theorem X12_moves_J119_ok {w : Gw} {d : Nat} {s0 : Nat} {s1 : Int32} {s2 : Int32} {M : Gm} {out : Gm} (h : X12_moves_J119 s0 s1 s2 M = some out) : Wp w mdX12_moves (d + 2) 119 [none, none, none, none, none] [.inl s2, .inl s1, .inr s0] M (.inl none) out := by
  unfold X12_moves_J119 at h
  obtain ⟨M1, e2, h⟩ := bnd h
  refine wp_iastore dX12_moves_119 e2 ?_
  cases h
  exact wp_ret dX12_moves_120 rfl

theorem X12_moves_J77_ok {w : Gw} {d : Nat} {x0 : Nat} {x1 : Int32} {x2 : Int32} {x3 : Int32} {s0 : Int32} {M : Gm} {out : Gm} (h : X12_moves_J77 x0 x1 x2 x3 s0 M = some out) : Wp w mdX12_moves (d + 2) 77 [some (.inr x0), some (.inl x1), some (.inl x2), some (.inl x3), none] [.inl s0] M (.inl none) out := by
  unfold X12_moves_J77 at h
  refine wp_istore dX12_moves_77 (Nat.le_of_ble_eq_true rfl) ?_
  refine wp_aload_n dX12_moves_79 rfl ?_
  obtain ⟨v1, e2, h⟩ := bnd h
  refine wp_getR (c := 12) (k := 5) dX12_moves_80 e2 (by decide) (by decide) rfl fl_RX12_58 ?_
  refine wp_bipush (v := 70) dX12_moves_83 (by decide) ?_
  refine wp_iload_n dX12_moves_85 rfl ?_
  refine wp_iadd dX12_moves_86 ?_
  refine wp_iload dX12_moves_87 rfl ?_
  refine wp_if_eq (tgt := 96) dX12_moves_89 (by decide) (fun hc_ => ?_) (fun hc_ => ?_)
  · replace h := ite_t hc_ h
    refine wp_iload_n dX12_moves_96 rfl ?_
    refine wp_iload_n dX12_moves_97 rfl ?_
    refine wp_icmp_le (tgt := 107) dX12_moves_98 (by decide) (fun hc_ => ?_) (fun hc_ => ?_)
    · replace h := ite_t hc_ h
      refine wp_iload_n dX12_moves_107 rfl ?_
      refine wp_iload_n dX12_moves_108 rfl ?_
      refine wp_icmp_ge (tgt := 118) dX12_moves_109 (by decide) (fun hc_ => ?_) (fun hc_ => ?_)
      · replace h := ite_t hc_ h
        refine wp_iload_n dX12_moves_118 rfl ?_
        exact wp_ls (lsN (lsN (lsN (lsN (lsN lsZ))))) (X12_moves_J119_ok h)
      · replace h := ite_f hc_ h
        refine wp_iload_n dX12_moves_112 rfl ?_
        refine wp_iconst (v := 1) dX12_moves_113 (by decide) ?_
        refine wp_isub dX12_moves_114 ?_
        refine wp_goto (tgt := 119) dX12_moves_115 (by decide) ?_
        exact wp_ls (lsN (lsN (lsN (lsN (lsN lsZ))))) (X12_moves_J119_ok h)
    · replace h := ite_f hc_ h
      refine wp_iload_n dX12_moves_101 rfl ?_
      refine wp_iconst (v := 1) dX12_moves_102 (by decide) ?_
      refine wp_iadd dX12_moves_103 ?_
      refine wp_goto (tgt := 119) dX12_moves_104 (by decide) ?_
      exact wp_ls (lsN (lsN (lsN (lsN (lsN lsZ))))) (X12_moves_J119_ok h)
  · replace h := ite_f hc_ h
    refine wp_iload_n dX12_moves_92 rfl ?_
    refine wp_goto (tgt := 119) dX12_moves_93 (by decide) ?_
    exact wp_ls (lsN (lsN (lsN (lsN (lsN lsZ))))) (X12_moves_J119_ok h)

theorem X12_moves_J72_ok {w : Gw} {d : Nat} {x0 : Nat} {x1 : Int32} {x2 : Int32} {x3 : Int32} {M : Gm} {out : Gm} (h : X12_moves_J72 x0 x1 x2 x3 M = some out) : Wp w mdX12_moves (d + 2) 72 [some (.inr x0), some (.inl x1), some (.inl x2), some (.inl x3), none] [] M (.inl none) out := by
  unfold X12_moves_J72 at h
  refine wp_iconst (v := 1) dX12_moves_72 (by decide) ?_
  refine wp_goto (tgt := 77) dX12_moves_73 (by decide) ?_
  exact wp_ls (lsS (lsS (lsS (lsS (lsN lsZ))))) (X12_moves_J77_ok h)

theorem X12_moves_J76_ok {w : Gw} {d : Nat} {x0 : Nat} {x1 : Int32} {x2 : Int32} {x3 : Int32} {M : Gm} {out : Gm} (h : X12_moves_J76 x0 x1 x2 x3 M = some out) : Wp w mdX12_moves (d + 2) 76 [some (.inr x0), some (.inl x1), some (.inl x2), some (.inl x3), none] [] M (.inl none) out := by
  unfold X12_moves_J76 at h
  refine wp_iconst (v := 0) dX12_moves_76 (by decide) ?_
  exact wp_ls (lsS (lsS (lsS (lsS (lsN lsZ))))) (X12_moves_J77_ok h)

theorem X12_moves_J30_ok {w : Gw} {d : Nat} {x0 : Nat} {x1 : Int32} {s0 : Int32} {M : Gm} {out : Gm} (h : X12_moves_J30 x0 x1 s0 M = some out) : Wp w mdX12_moves (d + 2) 30 [some (.inr x0), some (.inl x1), none, none, none] [.inl s0] M (.inl none) out := by
  unfold X12_moves_J30 at h
  refine wp_istore_n dX12_moves_30 (Nat.le_of_ble_eq_true rfl) ?_
  refine wp_aload_n dX12_moves_31 rfl ?_
  obtain ⟨v1, e2, h⟩ := bnd h
  refine wp_getR (c := 12) (k := 5) dX12_moves_32 e2 (by decide) (by decide) rfl fl_RX12_58 ?_
  refine wp_bipush (v := 70) dX12_moves_35 (by decide) ?_
  refine wp_iload_n dX12_moves_37 rfl ?_
  refine wp_iadd dX12_moves_38 ?_
  obtain ⟨v3, e4, h⟩ := bnd h
  refine wp_iaload dX12_moves_39 e4 ?_
  refine wp_istore_n dX12_moves_40 (Nat.le_of_ble_eq_true rfl) ?_
  refine wp_aload_n dX12_moves_41 rfl ?_
  obtain ⟨v5, e6, h⟩ := bnd h
  refine wp_getR (c := 12) (k := 6) dX12_moves_42 e6 (by decide) (by decide) rfl fl_RX12_62 ?_
  refine wp_bipush (v := 55) dX12_moves_45 (by decide) ?_
  refine wp_iload_n dX12_moves_47 rfl ?_
  refine wp_iadd dX12_moves_48 ?_
  obtain ⟨v7, e8, h⟩ := bnd h
  refine wp_iaload dX12_moves_49 e8 ?_
  refine wp_iconst (v := 1) dX12_moves_50 (by decide) ?_
  refine wp_icmp_eq (tgt := 72) dX12_moves_51 (by decide) (fun hc_ => ?_) (fun hc_ => ?_)
  · replace h := ite_t hc_ h
    exact wp_ls (lsS (lsS (lsS (lsS (lsN lsZ))))) (X12_moves_J72_ok h)
  · replace h := ite_f hc_ h
    refine wp_aload_n dX12_moves_54 rfl ?_
    obtain ⟨v9, e10, h⟩ := bnd h
    refine wp_getR (c := 12) (k := 6) dX12_moves_55 e10 (by decide) (by decide) rfl fl_RX12_62 ?_
    refine wp_bipush (v := 55) dX12_moves_58 (by decide) ?_
    refine wp_iload_n dX12_moves_60 rfl ?_
    refine wp_iadd dX12_moves_61 ?_
    obtain ⟨v11, e12, h⟩ := bnd h
    refine wp_iaload dX12_moves_62 e12 ?_
    refine wp_iconst (v := 2) dX12_moves_63 (by decide) ?_
    refine wp_icmp_ne (tgt := 76) dX12_moves_64 (by decide) (fun hc_ => ?_) (fun hc_ => ?_)
    · replace h := ite_f hc_ h
      exact wp_ls (lsS (lsS (lsS (lsS (lsN lsZ))))) (X12_moves_J76_ok h)
    · replace h := ite_t hc_ h
      refine wp_iload_n dX12_moves_67 rfl ?_
      refine wp_iload_n dX12_moves_68 rfl ?_
      refine wp_icmp_le (tgt := 76) dX12_moves_69 (by decide) (fun hc_ => ?_) (fun hc_ => ?_)
      · replace h := ite_t hc_ h
        exact wp_ls (lsS (lsS (lsS (lsS (lsN lsZ))))) (X12_moves_J76_ok h)
      · replace h := ite_f hc_ h
        exact wp_ls (lsS (lsS (lsS (lsS (lsN lsZ))))) (X12_moves_J72_ok h)

theorem X12_moves_F_ok {w : Gw} {d : Nat} {x0 : Nat} {x1 : Int32} {M : Gm} {out : Gm} (h : X12_moves_F x0 x1 M = some out) : Wp w mdX12_moves (d + 2) 0 [some (.inr x0), some (.inl x1), none, none, none] [] M (.inl none) out := by
  unfold X12_moves_F at h
  refine wp_aload_n dX12_moves_0 rfl ?_
  obtain ⟨v1, e2, h⟩ := bnd h
  refine wp_getR (c := 12) (k := 5) dX12_moves_1 e2 (by decide) (by decide) rfl fl_RX12_58 ?_
  refine wp_bipush (v := 76) dX12_moves_4 (by decide) ?_
  refine wp_iload_n dX12_moves_6 rfl ?_
  refine wp_iadd dX12_moves_7 ?_
  obtain ⟨v3, e4, h⟩ := bnd h
  refine wp_iaload dX12_moves_8 e4 ?_
  refine wp_iconst (v := (-1)) dX12_moves_9 (by decide) ?_
  refine wp_icmp_eq (tgt := 25) dX12_moves_10 (by decide) (fun hc_ => ?_) (fun hc_ => ?_)
  · replace h := ite_t hc_ h
    refine wp_aload_n dX12_moves_25 rfl ?_
    refine wp_iload_n dX12_moves_26 rfl ?_
    obtain ⟨q5, e6, h⟩ := bnd h
    refine wp_callV (As := [.inl x1]) dX12_moves_27 (sh_X12_mostWanted_ok (d := d) e6) okX12_mostWanted nnX12_mostWanted vvX12_mostWanted ml_RX12_315 rfl (Nat.le_of_ble_eq_true rfl) ?_
    exact wp_ls (lsS (lsS (lsN (lsN (lsN lsZ))))) (X12_moves_J30_ok h)
  · replace h := ite_f hc_ h
    refine wp_aload_n dX12_moves_13 rfl ?_
    obtain ⟨v7, e8, h⟩ := bnd h
    refine wp_getR (c := 12) (k := 5) dX12_moves_14 e8 (by decide) (by decide) rfl fl_RX12_58 ?_
    refine wp_bipush (v := 76) dX12_moves_17 (by decide) ?_
    refine wp_iload_n dX12_moves_19 rfl ?_
    refine wp_iadd dX12_moves_20 ?_
    obtain ⟨v9, e10, h⟩ := bnd h
    refine wp_iaload dX12_moves_21 e10 ?_
    refine wp_goto (tgt := 30) dX12_moves_22 (by decide) ?_
    exact wp_ls (lsS (lsS (lsN (lsN (lsN lsZ))))) (X12_moves_J30_ok h)

theorem sh_X12_moves_ok {w : Gw} {d : Nat} {x0 : Nat} {x1 : Int32} {M : Gm} {out : Gm} (h : sh_X12_moves x0 x1 M = some out) : Ev w mdX12_moves (d + 2) [.inr x0, .inl x1] M (.inl none) out := by
  obtain ⟨u, e0, h⟩ := bnd h
  exact ev_of okX12_moves ⟨_, _, rfl, isO_of e0 (by decide), by decide⟩ (Nat.le_of_ble_eq_true rfl) (X12_moves_F_ok h)

/-! HeatGovernorModel.median(II)I -/
def X12_median_J64 (x0 : Nat) (x1 : Int32) (x2 : Int32) (x3 : Int32) (x5 : Int32) (s0 : Int32) (s1 : Int32) (M : Gm) : Option ((Int32 × Int32) ⊕ Int32) :=
  some (.inl (s0 + s1, x5 + 1))
def X12_median_J59 (x0 : Nat) (x1 : Int32) (x2 : Int32) (x3 : Int32) (x5 : Int32) (s0 : Int32) (M : Gm) : Option ((Int32 × Int32) ⊕ Int32) :=
  X12_median_J64 x0 x1 x2 x3 x5 s0 1 M
def X12_median_J63 (x0 : Nat) (x1 : Int32) (x2 : Int32) (x3 : Int32) (x5 : Int32) (s0 : Int32) (M : Gm) : Option ((Int32 × Int32) ⊕ Int32) :=
  X12_median_J64 x0 x1 x2 x3 x5 s0 0 M
def X12_median_B13 (x0 : Nat) (x1 : Int32) (x2 : Int32) (x3 : Int32) (M : Gm) (q : Int32 × Int32) : Option ((Int32 × Int32) ⊕ Int32) :=
  if x2 ≤ q.2 then
    some (.inr q.1)
  else
    (sh_X12_read x0 x1 q.2 M).bind fun q1 =>
    (sh_X12_read x0 x1 x3 M).bind fun q3 =>
    if q1 < q3 then
      X12_median_J59 x0 x1 x2 x3 q.2 q.1 M
    else
      (sh_X12_read x0 x1 q.2 M).bind fun q5 =>
      (sh_X12_read x0 x1 x3 M).bind fun q7 =>
      if q5 = q7 then
        if x3 ≤ q.2 then
          X12_median_J63 x0 x1 x2 x3 q.2 q.1 M
        else
          X12_median_J59 x0 x1 x2 x3 q.2 q.1 M
      else
        X12_median_J63 x0 x1 x2 x3 q.2 q.1 M
def X12_median_B2 (x0 : Nat) (x1 : Int32) (x2 : Int32) (M : Gm) (q : Int32) : Option (Int32 ⊕ Unit ⊕ Int32) :=
  if x2 ≤ q then
    some (.inr (.inl ()))
  else
    (lp (X12_median_B13 x0 x1 x2 q M) FU (0, 0)).bind fun r1 =>
    (dvI (x2 - 1) 2).bind fun v3 =>
    if r1 = v3 then
      some (.inr (.inr q))
    else
      some (.inl (q + 1))
def X12_median_F (x0 : Nat) (x1 : Int32) (x2 : Int32) (M : Gm) : Option (Int32) :=
  (lp (X12_median_B2 x0 x1 x2 M) FU 0).bind fun r1 =>
  Sum.elim (fun u3 =>
    some 0) (fun u4 =>
    (sh_X12_read x0 x1 u4 M).bind fun q5 =>
    some q5) r1
def sh_X12_median (x0 : Nat) (x1 : Int32) (x2 : Int32) (M : Gm) : Option (Int32) := (isO M x0 12).bind fun _ => X12_median_F x0 x1 x2 M
theorem X12_median_J64_ok {w : Gw} {d : Nat} {x0 : Nat} {x1 : Int32} {x2 : Int32} {x3 : Int32} {x5 : Int32} {s0 : Int32} {s1 : Int32} {M : Gm} {o : Go} {M' : Gm} {out : (Int32 × Int32) ⊕ Int32} (h : X12_median_J64 x0 x1 x2 x3 x5 s0 s1 M = some out) (hc : ∀ t : Int32 × Int32, out = .inl t → Wp w mdX12_median (d + 1) 13 [some (.inr x0), some (.inl x1), some (.inl x2), some (.inl x3), some (.inl t.1), some (.inl t.2)] [] M o M') (he0 : ∀ t : Int32, out = .inr t → Wp w mdX12_median (d + 1) 73 [some (.inr x0), some (.inl x1), some (.inl x2), some (.inl x3), some (.inl t), none] [] M o M') : Wp w mdX12_median (d + 1) 64 [some (.inr x0), some (.inl x1), some (.inl x2), some (.inl x3), none, some (.inl x5)] [.inl s1, .inl s0] M o M' := by
  unfold X12_median_J64 at h
  refine wp_iadd dX12_median_64 ?_
  refine wp_istore dX12_median_65 (Nat.le_of_ble_eq_true rfl) ?_
  refine wp_iinc (v := x5 + 1) dX12_median_67 rfl rfl ?_
  refine wp_goto (tgt := 13) dX12_median_70 (by decide) ?_
  cases h
  exact wp_ls (lsS (lsS (lsS (lsS (lsS (lsS lsZ)))))) (hc (s0 + s1, x5 + 1) rfl)

theorem X12_median_J59_ok {w : Gw} {d : Nat} {x0 : Nat} {x1 : Int32} {x2 : Int32} {x3 : Int32} {x5 : Int32} {s0 : Int32} {M : Gm} {o : Go} {M' : Gm} {out : (Int32 × Int32) ⊕ Int32} (h : X12_median_J59 x0 x1 x2 x3 x5 s0 M = some out) (hc : ∀ t : Int32 × Int32, out = .inl t → Wp w mdX12_median (d + 1) 13 [some (.inr x0), some (.inl x1), some (.inl x2), some (.inl x3), some (.inl t.1), some (.inl t.2)] [] M o M') (he0 : ∀ t : Int32, out = .inr t → Wp w mdX12_median (d + 1) 73 [some (.inr x0), some (.inl x1), some (.inl x2), some (.inl x3), some (.inl t), none] [] M o M') : Wp w mdX12_median (d + 1) 59 [some (.inr x0), some (.inl x1), some (.inl x2), some (.inl x3), none, some (.inl x5)] [.inl s0] M o M' := by
  unfold X12_median_J59 at h
  refine wp_iconst (v := 1) dX12_median_59 (by decide) ?_
  refine wp_goto (tgt := 64) dX12_median_60 (by decide) ?_
  exact wp_ls (lsS (lsS (lsS (lsS (lsN (lsS lsZ)))))) (X12_median_J64_ok h hc he0)

theorem X12_median_J63_ok {w : Gw} {d : Nat} {x0 : Nat} {x1 : Int32} {x2 : Int32} {x3 : Int32} {x5 : Int32} {s0 : Int32} {M : Gm} {o : Go} {M' : Gm} {out : (Int32 × Int32) ⊕ Int32} (h : X12_median_J63 x0 x1 x2 x3 x5 s0 M = some out) (hc : ∀ t : Int32 × Int32, out = .inl t → Wp w mdX12_median (d + 1) 13 [some (.inr x0), some (.inl x1), some (.inl x2), some (.inl x3), some (.inl t.1), some (.inl t.2)] [] M o M') (he0 : ∀ t : Int32, out = .inr t → Wp w mdX12_median (d + 1) 73 [some (.inr x0), some (.inl x1), some (.inl x2), some (.inl x3), some (.inl t), none] [] M o M') : Wp w mdX12_median (d + 1) 63 [some (.inr x0), some (.inl x1), some (.inl x2), some (.inl x3), none, some (.inl x5)] [.inl s0] M o M' := by
  unfold X12_median_J63 at h
  refine wp_iconst (v := 0) dX12_median_63 (by decide) ?_
  exact wp_ls (lsS (lsS (lsS (lsS (lsN (lsS lsZ)))))) (X12_median_J64_ok h hc he0)

theorem X12_median_B13_ok {w : Gw} {d : Nat} {x0 : Nat} {x1 : Int32} {x2 : Int32} {x3 : Int32} {M : Gm} {q : Int32 × Int32} {o : Go} {M' : Gm} {out : (Int32 × Int32) ⊕ Int32} (h : X12_median_B13 x0 x1 x2 x3 M q = some out) (hc : ∀ t : Int32 × Int32, out = .inl t → Wp w mdX12_median (d + 1) 13 [some (.inr x0), some (.inl x1), some (.inl x2), some (.inl x3), some (.inl t.1), some (.inl t.2)] [] M o M') (he0 : ∀ t : Int32, out = .inr t → Wp w mdX12_median (d + 1) 73 [some (.inr x0), some (.inl x1), some (.inl x2), some (.inl x3), some (.inl t), none] [] M o M') : Wp w mdX12_median (d + 1) 13 [some (.inr x0), some (.inl x1), some (.inl x2), some (.inl x3), some (.inl q.1), some (.inl q.2)] [] M o M' := by
  unfold X12_median_B13 at h
  refine wp_iload dX12_median_13 rfl ?_
  refine wp_iload_n dX12_median_15 rfl ?_
  refine wp_icmp_ge (tgt := 73) dX12_median_16 (by decide) (fun hc_ => ?_) (fun hc_ => ?_)
  · replace h := ite_t hc_ h
    cases h
    exact wp_ls (lsS (lsS (lsS (lsS (lsS (lsN lsZ)))))) (he0 q.1 rfl)
  · replace h := ite_f hc_ h
    refine wp_iload dX12_median_19 rfl ?_
    refine wp_aload_n dX12_median_21 rfl ?_
    refine wp_iload_n dX12_median_22 rfl ?_
    refine wp_iload dX12_median_23 rfl ?_
    obtain ⟨q1, e2, h⟩ := bnd h
    refine wp_callV (As := [.inl x1, .inl q.2]) dX12_median_25 (sh_X12_read_ok (d := d) e2) okX12_read nnX12_read vvX12_read ml_RX12_279 rfl (Nat.le_of_ble_eq_true rfl) ?_
    refine wp_aload_n dX12_median_28 rfl ?_
    refine wp_iload_n dX12_median_29 rfl ?_
    refine wp_iload_n dX12_median_30 rfl ?_
    obtain ⟨q3, e4, h⟩ := bnd h
    refine wp_callV (As := [.inl x1, .inl x3]) dX12_median_31 (sh_X12_read_ok (d := d) e4) okX12_read nnX12_read vvX12_read ml_RX12_279 rfl (Nat.le_of_ble_eq_true rfl) ?_
    refine wp_icmp_lt (tgt := 59) dX12_median_34 (by decide) (fun hc_ => ?_) (fun hc_ => ?_)
    · replace h := ite_t hc_ h
      exact wp_ls (lsS (lsS (lsS (lsS (lsN (lsS lsZ)))))) (X12_median_J59_ok h hc he0)
    · replace h := ite_f hc_ h
      refine wp_aload_n dX12_median_37 rfl ?_
      refine wp_iload_n dX12_median_38 rfl ?_
      refine wp_iload dX12_median_39 rfl ?_
      obtain ⟨q5, e6, h⟩ := bnd h
      refine wp_callV (As := [.inl x1, .inl q.2]) dX12_median_41 (sh_X12_read_ok (d := d) e6) okX12_read nnX12_read vvX12_read ml_RX12_279 rfl (Nat.le_of_ble_eq_true rfl) ?_
      refine wp_aload_n dX12_median_44 rfl ?_
      refine wp_iload_n dX12_median_45 rfl ?_
      refine wp_iload_n dX12_median_46 rfl ?_
      obtain ⟨q7, e8, h⟩ := bnd h
      refine wp_callV (As := [.inl x1, .inl x3]) dX12_median_47 (sh_X12_read_ok (d := d) e8) okX12_read nnX12_read vvX12_read ml_RX12_279 rfl (Nat.le_of_ble_eq_true rfl) ?_
      refine wp_icmp_ne (tgt := 63) dX12_median_50 (by decide) (fun hc_ => ?_) (fun hc_ => ?_)
      · replace h := ite_f hc_ h
        exact wp_ls (lsS (lsS (lsS (lsS (lsN (lsS lsZ)))))) (X12_median_J63_ok h hc he0)
      · replace h := ite_t hc_ h
        refine wp_iload dX12_median_53 rfl ?_
        refine wp_iload_n dX12_median_55 rfl ?_
        refine wp_icmp_ge (tgt := 63) dX12_median_56 (by decide) (fun hc_ => ?_) (fun hc_ => ?_)
        · replace h := ite_t hc_ h
          exact wp_ls (lsS (lsS (lsS (lsS (lsN (lsS lsZ)))))) (X12_median_J63_ok h hc he0)
        · replace h := ite_f hc_ h
          exact wp_ls (lsS (lsS (lsS (lsS (lsN (lsS lsZ)))))) (X12_median_J59_ok h hc he0)

theorem X12_median_B13_lp {w : Gw} {d : Nat} {x0 : Nat} {x1 : Int32} {x2 : Int32} {x3 : Int32} {M : Gm} {o : Go} {M' : Gm} {r : Int32} : ∀ (n : Nat) (q : Int32 × Int32), lp (X12_median_B13 x0 x1 x2 x3 M) n q = some r → (∀ t : Int32, r = t → Wp w mdX12_median (d + 1) 73 [some (.inr x0), some (.inl x1), some (.inl x2), some (.inl x3), some (.inl t), none] [] M o M') → Wp w mdX12_median (d + 1) 13 [some (.inr x0), some (.inl x1), some (.inl x2), some (.inl x3), some (.inl q.1), some (.inl q.2)] [] M o M' := by
  intro n
  induction n with
  | zero => intro q h; cases h
  | succ n ih =>
    intro q h he0
    cases hb : X12_median_B13 x0 x1 x2 x3 M q with
    | none => rw [lp_succ, hb] at h; cases h
    | some out =>
      rw [lp_succ, hb] at h
      exact X12_median_B13_ok hb (fun t e => ih t (by rw [e] at h; exact h) he0) (fun t e => he0 t (by rw [e] at h; cases h; rfl))
theorem X12_median_B2_ok {w : Gw} {d : Nat} {x0 : Nat} {x1 : Int32} {x2 : Int32} {M : Gm} {q : Int32} {o : Go} {M' : Gm} {out : Int32 ⊕ Unit ⊕ Int32} (h : X12_median_B2 x0 x1 x2 M q = some out) (hc : ∀ t : Int32, out = .inl t → Wp w mdX12_median (d + 1) 2 [some (.inr x0), some (.inl x1), some (.inl x2), some (.inl t), none, none] [] M o M') (he0 : ∀ t : Unit, out = .inr (.inl t) → Wp w mdX12_median (d + 1) 96 [none, none, none, none, none, none] [] M o M') (he1 : ∀ t : Int32, out = .inr (.inr t) → Wp w mdX12_median (d + 1) 83 [some (.inr x0), some (.inl x1), none, some (.inl t), none, none] [] M o M') : Wp w mdX12_median (d + 1) 2 [some (.inr x0), some (.inl x1), some (.inl x2), some (.inl q), none, none] [] M o M' := by
  unfold X12_median_B2 at h
  refine wp_iload_n dX12_median_2 rfl ?_
  refine wp_iload_n dX12_median_3 rfl ?_
  refine wp_icmp_ge (tgt := 96) dX12_median_4 (by decide) (fun hc_ => ?_) (fun hc_ => ?_)
  · replace h := ite_t hc_ h
    cases h
    exact wp_ls (lsN (lsN (lsN (lsN (lsN (lsN lsZ)))))) (he0 () rfl)
  · replace h := ite_f hc_ h
    refine wp_iconst (v := 0) dX12_median_7 (by decide) ?_
    refine wp_istore dX12_median_8 (Nat.le_of_ble_eq_true rfl) ?_
    refine wp_iconst (v := 0) dX12_median_10 (by decide) ?_
    refine wp_istore dX12_median_11 (Nat.le_of_ble_eq_true rfl) ?_
    obtain ⟨r1, e2, h⟩ := bnd h
    refine wp_ls (lsS (lsS (lsS (lsS (lsS (lsS lsZ)))))) (X12_median_B13_lp FU _ e2 ?_)
    intro t_ ht_; cases ht_
    refine wp_iload dX12_median_73 rfl ?_
    refine wp_iload_n dX12_median_75 rfl ?_
    refine wp_iconst (v := 1) dX12_median_76 (by decide) ?_
    refine wp_isub dX12_median_77 ?_
    refine wp_iconst (v := 2) dX12_median_78 (by decide) ?_
    obtain ⟨v3, e4, h⟩ := bnd h
    refine wp_idiv dX12_median_79 e4 ?_
    refine wp_icmp_ne (tgt := 90) dX12_median_80 (by decide) (fun hc_ => ?_) (fun hc_ => ?_)
    · replace h := ite_f hc_ h
      refine wp_iinc (v := q + 1) dX12_median_90 rfl rfl ?_
      refine wp_goto (tgt := 2) dX12_median_93 (by decide) ?_
      cases h
      exact wp_ls (lsS (lsS (lsS (lsS (lsN (lsN lsZ)))))) (hc (q + 1) rfl)
    · replace h := ite_t hc_ h
      cases h
      exact wp_ls (lsS (lsS (lsN (lsS (lsN (lsN lsZ)))))) (he1 q rfl)

theorem X12_median_B2_lp {w : Gw} {d : Nat} {x0 : Nat} {x1 : Int32} {x2 : Int32} {M : Gm} {o : Go} {M' : Gm} {r : Unit ⊕ Int32} : ∀ (n : Nat) (q : Int32), lp (X12_median_B2 x0 x1 x2 M) n q = some r → (∀ t : Unit, r = (.inl t) → Wp w mdX12_median (d + 1) 96 [none, none, none, none, none, none] [] M o M') → (∀ t : Int32, r = (.inr t) → Wp w mdX12_median (d + 1) 83 [some (.inr x0), some (.inl x1), none, some (.inl t), none, none] [] M o M') → Wp w mdX12_median (d + 1) 2 [some (.inr x0), some (.inl x1), some (.inl x2), some (.inl q), none, none] [] M o M' := by
  intro n
  induction n with
  | zero => intro q h; cases h
  | succ n ih =>
    intro q h he0 he1
    cases hb : X12_median_B2 x0 x1 x2 M q with
    | none => rw [lp_succ, hb] at h; cases h
    | some out =>
      rw [lp_succ, hb] at h
      exact X12_median_B2_ok hb (fun t e => ih t (by rw [e] at h; exact h) he0 he1) (fun t e => he0 t (by rw [e] at h; cases h; rfl)) (fun t e => he1 t (by rw [e] at h; cases h; rfl))
theorem X12_median_F_ok {w : Gw} {d : Nat} {x0 : Nat} {x1 : Int32} {x2 : Int32} {M : Gm} {out : Int32} (h : X12_median_F x0 x1 x2 M = some out) : Wp w mdX12_median (d + 1) 0 [some (.inr x0), some (.inl x1), some (.inl x2), none, none, none] [] M (.inl (some (.inl out))) M := by
  unfold X12_median_F at h
  refine wp_iconst (v := 0) dX12_median_0 (by decide) ?_
  refine wp_istore_n dX12_median_1 (Nat.le_of_ble_eq_true rfl) ?_
  obtain ⟨r1, e2, h⟩ := bnd h
  refine wp_ls (lsS (lsS (lsS (lsS (lsN (lsN lsZ)))))) (X12_median_B2_lp FU _ e2 ?_ ?_)
  · intro y3 ht_; subst ht_
    replace h := elim_l h
    refine wp_iconst (v := 0) dX12_median_96 (by decide) ?_
    cases h
    exact wp_iret dX12_median_97 rfl
  · intro y4 ht_; subst ht_
    replace h := elim_r h
    refine wp_aload_n dX12_median_83 rfl ?_
    refine wp_iload_n dX12_median_84 rfl ?_
    refine wp_iload_n dX12_median_85 rfl ?_
    obtain ⟨q5, e6, h⟩ := bnd h
    refine wp_callV (As := [.inl x1, .inl y4]) dX12_median_86 (sh_X12_read_ok (d := d) e6) okX12_read nnX12_read vvX12_read ml_RX12_279 rfl (Nat.le_of_ble_eq_true rfl) ?_
    cases h
    exact wp_iret dX12_median_89 rfl

theorem sh_X12_median_ok {w : Gw} {d : Nat} {x0 : Nat} {x1 : Int32} {x2 : Int32} {M : Gm} {out : Int32} (h : sh_X12_median x0 x1 x2 M = some out) : Ev w mdX12_median (d + 1) [.inr x0, .inl x1, .inl x2] M (.inl (some (.inl out))) M := by
  obtain ⟨u, e0, h⟩ := bnd h
  exact ev_of okX12_median ⟨_, _, rfl, isO_of e0 (by decide), by decide⟩ (Nat.le_of_ble_eq_true rfl) (X12_median_F_ok h)

/-! HeatGovernorModel.tempOf(I)I -/
def X12_tempOf_B56 (x0 : Nat) (x1 : Int32) (x2 : Int32) (M : Gm) (q : Int32 × Int32) : Option ((Int32 × Int32) ⊕ Int32) :=
  if x2 ≤ q.2 then
    some (.inr q.1)
  else
    (sh_X12_read x0 x1 q.2 M).bind fun q1 =>
    some (.inl (q.1 + q1, q.2 + 1))
def X12_tempOf_F (x0 : Nat) (x1 : Int32) (M : Gm) : Option (Int32) :=
  (gfR M x0 12 6).bind fun v1 =>
  (ldA M 0 v1 (10 + x1)).bind fun v3 =>
  (gfR M x0 12 6).bind fun v5 =>
  (ldA M 0 v5 (5 + x1)).bind fun v7 =>
  if v7 = 0 then
    (sh_X12_read x0 x1 0 M).bind fun q9 =>
    some q9
  else if v7 = 1 then
    (lp (X12_tempOf_B56 x0 x1 v3 M) FU (0, 0)).bind fun r11 =>
    (sh_X12_by r11 v3 M).bind fun q13 =>
    some q13
  else if v7 = 2 then
    (sh_X12_median x0 x1 v3 M).bind fun q15 =>
    some q15
  else
    (gfR M x0 12 5).bind fun v17 =>
    (ldA M 0 v17 (20 + x1)).bind fun v19 =>
    (sh_X12_read x0 x1 0 M).bind fun q21 =>
    (gfR M x0 12 5).bind fun v23 =>
    (ldA M 0 v23 (20 + x1)).bind fun v25 =>
    (sh_X12_by (q21 - v25) v3 M).bind fun q27 =>
    some (v19 + q27)
def sh_X12_tempOf (x0 : Nat) (x1 : Int32) (M : Gm) : Option (Int32) := (isO M x0 12).bind fun _ => X12_tempOf_F x0 x1 M
theorem X12_tempOf_B56_ok {w : Gw} {d : Nat} {x0 : Nat} {x1 : Int32} {x2 : Int32} {M : Gm} {q : Int32 × Int32} {o : Go} {M' : Gm} {out : (Int32 × Int32) ⊕ Int32} (h : X12_tempOf_B56 x0 x1 x2 M q = some out) (hc : ∀ t : Int32 × Int32, out = .inl t → Wp w mdX12_tempOf (d + 2) 56 [some (.inr x0), some (.inl x1), some (.inl x2), some (.inl t.1), some (.inl t.2)] [] M o M') (he0 : ∀ t : Int32, out = .inr t → Wp w mdX12_tempOf (d + 2) 78 [none, none, some (.inl x2), some (.inl t), none] [] M o M') : Wp w mdX12_tempOf (d + 2) 56 [some (.inr x0), some (.inl x1), some (.inl x2), some (.inl q.1), some (.inl q.2)] [] M o M' := by
  unfold X12_tempOf_B56 at h
  refine wp_iload dX12_tempOf_56 rfl ?_
  refine wp_iload_n dX12_tempOf_58 rfl ?_
  refine wp_icmp_ge (tgt := 78) dX12_tempOf_59 (by decide) (fun hc_ => ?_) (fun hc_ => ?_)
  · replace h := ite_t hc_ h
    cases h
    exact wp_ls (lsN (lsN (lsS (lsS (lsN lsZ))))) (he0 q.1 rfl)
  · replace h := ite_f hc_ h
    refine wp_iload_n dX12_tempOf_62 rfl ?_
    refine wp_aload_n dX12_tempOf_63 rfl ?_
    refine wp_iload_n dX12_tempOf_64 rfl ?_
    refine wp_iload dX12_tempOf_65 rfl ?_
    obtain ⟨q1, e2, h⟩ := bnd h
    refine wp_callV (As := [.inl x1, .inl q.2]) dX12_tempOf_67 (sh_X12_read_ok (d := d + 1) e2) okX12_read nnX12_read vvX12_read ml_RX12_279 rfl (Nat.le_of_ble_eq_true rfl) ?_
    refine wp_iadd dX12_tempOf_70 ?_
    refine wp_istore_n dX12_tempOf_71 (Nat.le_of_ble_eq_true rfl) ?_
    refine wp_iinc (v := q.2 + 1) dX12_tempOf_72 rfl rfl ?_
    refine wp_goto (tgt := 56) dX12_tempOf_75 (by decide) ?_
    cases h
    exact wp_ls (lsS (lsS (lsS (lsS (lsS lsZ))))) (hc (q.1 + q1, q.2 + 1) rfl)

theorem X12_tempOf_B56_lp {w : Gw} {d : Nat} {x0 : Nat} {x1 : Int32} {x2 : Int32} {M : Gm} {o : Go} {M' : Gm} {r : Int32} : ∀ (n : Nat) (q : Int32 × Int32), lp (X12_tempOf_B56 x0 x1 x2 M) n q = some r → (∀ t : Int32, r = t → Wp w mdX12_tempOf (d + 2) 78 [none, none, some (.inl x2), some (.inl t), none] [] M o M') → Wp w mdX12_tempOf (d + 2) 56 [some (.inr x0), some (.inl x1), some (.inl x2), some (.inl q.1), some (.inl q.2)] [] M o M' := by
  intro n
  induction n with
  | zero => intro q h; cases h
  | succ n ih =>
    intro q h he0
    cases hb : X12_tempOf_B56 x0 x1 x2 M q with
    | none => rw [lp_succ, hb] at h; cases h
    | some out =>
      rw [lp_succ, hb] at h
      exact X12_tempOf_B56_ok hb (fun t e => ih t (by rw [e] at h; exact h) he0) (fun t e => he0 t (by rw [e] at h; cases h; rfl))
theorem X12_tempOf_F_ok {w : Gw} {d : Nat} {x0 : Nat} {x1 : Int32} {M : Gm} {out : Int32} (h : X12_tempOf_F x0 x1 M = some out) : Wp w mdX12_tempOf (d + 2) 0 [some (.inr x0), some (.inl x1), none, none, none] [] M (.inl (some (.inl out))) M := by
  unfold X12_tempOf_F at h
  refine wp_aload_n dX12_tempOf_0 rfl ?_
  obtain ⟨v1, e2, h⟩ := bnd h
  refine wp_getR (c := 12) (k := 6) dX12_tempOf_1 e2 (by decide) (by decide) rfl fl_RX12_62 ?_
  refine wp_bipush (v := 10) dX12_tempOf_4 (by decide) ?_
  refine wp_iload_n dX12_tempOf_6 rfl ?_
  refine wp_iadd dX12_tempOf_7 ?_
  obtain ⟨v3, e4, h⟩ := bnd h
  refine wp_iaload dX12_tempOf_8 e4 ?_
  refine wp_istore_n dX12_tempOf_9 (Nat.le_of_ble_eq_true rfl) ?_
  refine wp_aload_n dX12_tempOf_10 rfl ?_
  obtain ⟨v5, e6, h⟩ := bnd h
  refine wp_getR (c := 12) (k := 6) dX12_tempOf_11 e6 (by decide) (by decide) rfl fl_RX12_62 ?_
  refine wp_iconst (v := 5) dX12_tempOf_14 (by decide) ?_
  refine wp_iload_n dX12_tempOf_15 rfl ?_
  refine wp_iadd dX12_tempOf_16 ?_
  obtain ⟨v7, e8, h⟩ := bnd h
  refine wp_iaload dX12_tempOf_17 e8 ?_
  by_cases cz0 : v7 = 0
  · replace h := ite_t cz0 h
    refine wp_tableIn (tgt := 44) dX12_tempOf_18 0 (by rw [cz0]; decide) (by decide) rfl (by decide) ?_
    refine wp_aload_n dX12_tempOf_44 rfl ?_
    refine wp_iload_n dX12_tempOf_45 rfl ?_
    refine wp_iconst (v := 0) dX12_tempOf_46 (by decide) ?_
    obtain ⟨q9, e10, h⟩ := bnd h
    refine wp_callV (As := [.inl x1, .inl 0]) dX12_tempOf_47 (sh_X12_read_ok (d := d + 1) e10) okX12_read nnX12_read vvX12_read ml_RX12_279 rfl (Nat.le_of_ble_eq_true rfl) ?_
    cases h
    exact wp_iret dX12_tempOf_50 rfl
  replace h := ite_f cz0 h
  by_cases cz1 : v7 = 1
  · replace h := ite_t cz1 h
    refine wp_tableIn (tgt := 51) dX12_tempOf_18 1 (by rw [cz1]; decide) (by decide) rfl (by decide) ?_
    refine wp_iconst (v := 0) dX12_tempOf_51 (by decide) ?_
    refine wp_istore_n dX12_tempOf_52 (Nat.le_of_ble_eq_true rfl) ?_
    refine wp_iconst (v := 0) dX12_tempOf_53 (by decide) ?_
    refine wp_istore dX12_tempOf_54 (Nat.le_of_ble_eq_true rfl) ?_
    obtain ⟨r11, e12, h⟩ := bnd h
    refine wp_ls (lsS (lsS (lsS (lsS (lsS lsZ))))) (X12_tempOf_B56_lp FU _ e12 ?_)
    intro t_ ht_; cases ht_
    refine wp_iload_n dX12_tempOf_78 rfl ?_
    refine wp_iload_n dX12_tempOf_79 rfl ?_
    obtain ⟨q13, e14, h⟩ := bnd h
    refine wp_callS (As := [.inl r11, .inl v3]) dX12_tempOf_80 (sh_X12_by_ok (d := d + 1) e14) okX12_by nnX12_by ssX12_by ml_RX12_269 rfl (Nat.le_of_ble_eq_true rfl) ?_
    cases h
    exact wp_iret dX12_tempOf_83 rfl
  replace h := ite_f cz1 h
  by_cases cz2 : v7 = 2
  · replace h := ite_t cz2 h
    refine wp_tableIn (tgt := 84) dX12_tempOf_18 2 (by rw [cz2]; decide) (by decide) rfl (by decide) ?_
    refine wp_aload_n dX12_tempOf_84 rfl ?_
    refine wp_iload_n dX12_tempOf_85 rfl ?_
    refine wp_iload_n dX12_tempOf_86 rfl ?_
    obtain ⟨q15, e16, h⟩ := bnd h
    refine wp_callV (As := [.inl x1, .inl v3]) dX12_tempOf_87 (sh_X12_median_ok (d := d) e16) okX12_median nnX12_median vvX12_median ml_RX12_282 rfl (Nat.le_of_ble_eq_true rfl) ?_
    cases h
    exact wp_iret dX12_tempOf_90 rfl
  replace h := ite_f cz2 h
  refine wp_tableOut (tgt := 91) dX12_tempOf_18 (by have g0 := lv_neT cz0 (show (0 : Int32).toInt = 0 by decide); have g1 := lv_neT cz1 (show (1 : Int32).toInt = 1 by decide); have g2 := lv_neT cz2 (show (2 : Int32).toInt = 2 by decide); omega) (by decide) ?_
  refine wp_aload_n dX12_tempOf_91 rfl ?_
  obtain ⟨v17, e18, h⟩ := bnd h
  refine wp_getR (c := 12) (k := 5) dX12_tempOf_92 e18 (by decide) (by decide) rfl fl_RX12_58 ?_
  refine wp_bipush (v := 20) dX12_tempOf_95 (by decide) ?_
  refine wp_iload_n dX12_tempOf_97 rfl ?_
  refine wp_iadd dX12_tempOf_98 ?_
  obtain ⟨v19, e20, h⟩ := bnd h
  refine wp_iaload dX12_tempOf_99 e20 ?_
  refine wp_aload_n dX12_tempOf_100 rfl ?_
  refine wp_iload_n dX12_tempOf_101 rfl ?_
  refine wp_iconst (v := 0) dX12_tempOf_102 (by decide) ?_
  obtain ⟨q21, e22, h⟩ := bnd h
  refine wp_callV (As := [.inl x1, .inl 0]) dX12_tempOf_103 (sh_X12_read_ok (d := d + 1) e22) okX12_read nnX12_read vvX12_read ml_RX12_279 rfl (Nat.le_of_ble_eq_true rfl) ?_
  refine wp_aload_n dX12_tempOf_106 rfl ?_
  obtain ⟨v23, e24, h⟩ := bnd h
  refine wp_getR (c := 12) (k := 5) dX12_tempOf_107 e24 (by decide) (by decide) rfl fl_RX12_58 ?_
  refine wp_bipush (v := 20) dX12_tempOf_110 (by decide) ?_
  refine wp_iload_n dX12_tempOf_112 rfl ?_
  refine wp_iadd dX12_tempOf_113 ?_
  obtain ⟨v25, e26, h⟩ := bnd h
  refine wp_iaload dX12_tempOf_114 e26 ?_
  refine wp_isub dX12_tempOf_115 ?_
  refine wp_iload_n dX12_tempOf_116 rfl ?_
  obtain ⟨q27, e28, h⟩ := bnd h
  refine wp_callS (As := [.inl (q21 - v25), .inl v3]) dX12_tempOf_117 (sh_X12_by_ok (d := d + 1) e28) okX12_by nnX12_by ssX12_by ml_RX12_269 rfl (Nat.le_of_ble_eq_true rfl) ?_
  refine wp_iadd dX12_tempOf_120 ?_
  cases h
  exact wp_iret dX12_tempOf_121 rfl

theorem sh_X12_tempOf_ok {w : Gw} {d : Nat} {x0 : Nat} {x1 : Int32} {M : Gm} {out : Int32} (h : sh_X12_tempOf x0 x1 M = some out) : Ev w mdX12_tempOf (d + 2) [.inr x0, .inl x1] M (.inl (some (.inl out))) M := by
  obtain ⟨u, e0, h⟩ := bnd h
  exact ev_of okX12_tempOf ⟨_, _, rfl, isO_of e0 (by decide), by decide⟩ (Nat.le_of_ble_eq_true rfl) (X12_tempOf_F_ok h)

/-! HeatGovernorModel.readings()V -/
def X12_readings_B12 (x0 : Nat) (x1 : Int32) (q : Int32 × Gm) : Option ((Int32 × Gm) ⊕ Gm) :=
  if q.1 ≤ 0 then
    some (.inr q.2)
  else
    (gfR q.2 x0 12 5).bind fun v1 =>
    (sh_X12_read x0 x1 (q.1 - 1) q.2).bind fun q3 =>
    (stA q.2 0 v1 ((30 + (4 * x1)) + q.1) q3).bind fun M5 =>
    some (.inl (q.1 + (-1), M5))
def X12_readings_B2 (x0 : Nat) (q : Int32 × Gm) : Option ((Int32 × Gm) ⊕ Gm) :=
  (sh_X12_zones x0 q.2).bind fun q1 =>
  if q1 ≤ q.1 then
    some (.inr q.2)
  else
    (lp (X12_readings_B12 x0 q.1) FU (3, q.2)).bind fun r3 =>
    (gfR r3 x0 12 5).bind fun v5 =>
    (gfR r3 x0 12 5).bind fun v7 =>
    (ldA r3 0 v7 (0 + q.1)).bind fun v9 =>
    (stA r3 0 v5 (30 + (4 * q.1)) v9).bind fun M11 =>
    (sh_X12_tempOf x0 q.1 M11).bind fun q13 =>
    (gfR M11 x0 12 5).bind fun v15 =>
    (gfR M11 x0 12 5).bind fun v17 =>
    (ldA M11 0 v17 (20 + q.1)).bind fun v19 =>
    (stA M11 0 v15 (25 + q.1) (q13 - v19)).bind fun M21 =>
    (gfR M21 x0 12 5).bind fun v23 =>
    (stA M21 0 v23 (20 + q.1) q13).bind fun M25 =>
    some (.inl (q.1 + 1, M25))
def X12_readings_F (x0 : Nat) (M : Gm) : Option (Gm) :=
  (lp (X12_readings_B2 x0) FU (0, M)).bind fun r1 =>
  some r1
def sh_X12_readings (x0 : Nat) (M : Gm) : Option (Gm) := (isO M x0 12).bind fun _ => X12_readings_F x0 M
theorem X12_readings_B12_ok {w : Gw} {d : Nat} {x0 : Nat} {x1 : Int32} {q : Int32 × Gm} {o : Go} {M' : Gm} {out : (Int32 × Gm) ⊕ Gm} (h : X12_readings_B12 x0 x1 q = some out) (hc : ∀ t : Int32 × Gm, out = .inl t → Wp w mdX12_readings (d + 3) 12 [some (.inr x0), some (.inl x1), some (.inl t.1)] [] t.2 o M') (he0 : ∀ t : Gm, out = .inr t → Wp w mdX12_readings (d + 3) 43 [some (.inr x0), some (.inl x1), none] [] t o M') : Wp w mdX12_readings (d + 3) 12 [some (.inr x0), some (.inl x1), some (.inl q.1)] [] q.2 o M' := by
  unfold X12_readings_B12 at h
  refine wp_iload_n dX12_readings_12 rfl ?_
  refine wp_if_le (tgt := 43) dX12_readings_13 (by decide) (fun hc_ => ?_) (fun hc_ => ?_)
  · replace h := ite_t hc_ h
    cases h
    exact wp_ls (lsS (lsS (lsN lsZ))) (he0 q.2 rfl)
  · replace h := ite_f hc_ h
    refine wp_aload_n dX12_readings_16 rfl ?_
    obtain ⟨v1, e2, h⟩ := bnd h
    refine wp_getR (c := 12) (k := 5) dX12_readings_17 e2 (by decide) (by decide) rfl fl_RX12_58 ?_
    refine wp_bipush (v := 30) dX12_readings_20 (by decide) ?_
    refine wp_iconst (v := 4) dX12_readings_22 (by decide) ?_
    refine wp_iload_n dX12_readings_23 rfl ?_
    refine wp_imul dX12_readings_24 ?_
    refine wp_iadd dX12_readings_25 ?_
    refine wp_iload_n dX12_readings_26 rfl ?_
    refine wp_iadd dX12_readings_27 ?_
    refine wp_aload_n dX12_readings_28 rfl ?_
    refine wp_iload_n dX12_readings_29 rfl ?_
    refine wp_iload_n dX12_readings_30 rfl ?_
    refine wp_iconst (v := 1) dX12_readings_31 (by decide) ?_
    refine wp_isub dX12_readings_32 ?_
    obtain ⟨q3, e4, h⟩ := bnd h
    refine wp_callV (As := [.inl x1, .inl (q.1 - 1)]) dX12_readings_33 (sh_X12_read_ok (d := d + 2) e4) okX12_read nnX12_read vvX12_read ml_RX12_279 rfl (Nat.le_of_ble_eq_true rfl) ?_
    obtain ⟨M5, e6, h⟩ := bnd h
    refine wp_iastore dX12_readings_36 e6 ?_
    refine wp_iinc (v := q.1 + (-1)) dX12_readings_37 rfl rfl ?_
    refine wp_goto (tgt := 12) dX12_readings_40 (by decide) ?_
    cases h
    exact wp_ls (lsS (lsS (lsS lsZ))) (hc (q.1 + (-1), M5) rfl)

theorem X12_readings_B12_lp {w : Gw} {d : Nat} {x0 : Nat} {x1 : Int32} {o : Go} {M' : Gm} {r : Gm} : ∀ (n : Nat) (q : Int32 × Gm), lp (X12_readings_B12 x0 x1) n q = some r → (∀ t : Gm, r = t → Wp w mdX12_readings (d + 3) 43 [some (.inr x0), some (.inl x1), none] [] t o M') → Wp w mdX12_readings (d + 3) 12 [some (.inr x0), some (.inl x1), some (.inl q.1)] [] q.2 o M' := by
  intro n
  induction n with
  | zero => intro q h; cases h
  | succ n ih =>
    intro q h he0
    cases hb : X12_readings_B12 x0 x1 q with
    | none => rw [lp_succ, hb] at h; cases h
    | some out =>
      rw [lp_succ, hb] at h
      exact X12_readings_B12_ok hb (fun t e => ih t (by rw [e] at h; exact h) he0) (fun t e => he0 t (by rw [e] at h; cases h; rfl))
theorem X12_readings_B2_ok {w : Gw} {d : Nat} {x0 : Nat} {q : Int32 × Gm} {o : Go} {M' : Gm} {out : (Int32 × Gm) ⊕ Gm} (h : X12_readings_B2 x0 q = some out) (hc : ∀ t : Int32 × Gm, out = .inl t → Wp w mdX12_readings (d + 3) 2 [some (.inr x0), some (.inl t.1), none] [] t.2 o M') (he0 : ∀ t : Gm, out = .inr t → Wp w mdX12_readings (d + 3) 104 [none, none, none] [] t o M') : Wp w mdX12_readings (d + 3) 2 [some (.inr x0), some (.inl q.1), none] [] q.2 o M' := by
  unfold X12_readings_B2 at h
  refine wp_iload_n dX12_readings_2 rfl ?_
  refine wp_aload_n dX12_readings_3 rfl ?_
  obtain ⟨q1, e2, h⟩ := bnd h
  refine wp_callV (As := []) dX12_readings_4 (sh_X12_zones_ok (d := d + 2) e2) okX12_zones nnX12_zones vvX12_zones ml_RX12_266 rfl (Nat.le_of_ble_eq_true rfl) ?_
  refine wp_icmp_ge (tgt := 104) dX12_readings_7 (by decide) (fun hc_ => ?_) (fun hc_ => ?_)
  · replace h := ite_t hc_ h
    cases h
    exact wp_ls (lsN (lsN (lsN lsZ))) (he0 q.2 rfl)
  · replace h := ite_f hc_ h
    refine wp_iconst (v := 3) dX12_readings_10 (by decide) ?_
    refine wp_istore_n dX12_readings_11 (Nat.le_of_ble_eq_true rfl) ?_
    obtain ⟨r3, e4, h⟩ := bnd h
    refine wp_ls (lsS (lsS (lsS lsZ))) (X12_readings_B12_lp FU _ e4 ?_)
    intro t_ ht_; cases ht_
    refine wp_aload_n dX12_readings_43 rfl ?_
    obtain ⟨v5, e6, h⟩ := bnd h
    refine wp_getR (c := 12) (k := 5) dX12_readings_44 e6 (by decide) (by decide) rfl fl_RX12_58 ?_
    refine wp_bipush (v := 30) dX12_readings_47 (by decide) ?_
    refine wp_iconst (v := 4) dX12_readings_49 (by decide) ?_
    refine wp_iload_n dX12_readings_50 rfl ?_
    refine wp_imul dX12_readings_51 ?_
    refine wp_iadd dX12_readings_52 ?_
    refine wp_aload_n dX12_readings_53 rfl ?_
    obtain ⟨v7, e8, h⟩ := bnd h
    refine wp_getR (c := 12) (k := 5) dX12_readings_54 e8 (by decide) (by decide) rfl fl_RX12_58 ?_
    refine wp_iconst (v := 0) dX12_readings_57 (by decide) ?_
    refine wp_iload_n dX12_readings_58 rfl ?_
    refine wp_iadd dX12_readings_59 ?_
    obtain ⟨v9, e10, h⟩ := bnd h
    refine wp_iaload dX12_readings_60 e10 ?_
    obtain ⟨M11, e12, h⟩ := bnd h
    refine wp_iastore dX12_readings_61 e12 ?_
    refine wp_aload_n dX12_readings_62 rfl ?_
    refine wp_iload_n dX12_readings_63 rfl ?_
    obtain ⟨q13, e14, h⟩ := bnd h
    refine wp_callV (As := [.inl q.1]) dX12_readings_64 (sh_X12_tempOf_ok (d := d) e14) okX12_tempOf nnX12_tempOf vvX12_tempOf ml_RX12_284 rfl (Nat.le_of_ble_eq_true rfl) ?_
    refine wp_istore_n dX12_readings_67 (Nat.le_of_ble_eq_true rfl) ?_
    refine wp_aload_n dX12_readings_68 rfl ?_
    obtain ⟨v15, e16, h⟩ := bnd h
    refine wp_getR (c := 12) (k := 5) dX12_readings_69 e16 (by decide) (by decide) rfl fl_RX12_58 ?_
    refine wp_bipush (v := 25) dX12_readings_72 (by decide) ?_
    refine wp_iload_n dX12_readings_74 rfl ?_
    refine wp_iadd dX12_readings_75 ?_
    refine wp_iload_n dX12_readings_76 rfl ?_
    refine wp_aload_n dX12_readings_77 rfl ?_
    obtain ⟨v17, e18, h⟩ := bnd h
    refine wp_getR (c := 12) (k := 5) dX12_readings_78 e18 (by decide) (by decide) rfl fl_RX12_58 ?_
    refine wp_bipush (v := 20) dX12_readings_81 (by decide) ?_
    refine wp_iload_n dX12_readings_83 rfl ?_
    refine wp_iadd dX12_readings_84 ?_
    obtain ⟨v19, e20, h⟩ := bnd h
    refine wp_iaload dX12_readings_85 e20 ?_
    refine wp_isub dX12_readings_86 ?_
    obtain ⟨M21, e22, h⟩ := bnd h
    refine wp_iastore dX12_readings_87 e22 ?_
    refine wp_aload_n dX12_readings_88 rfl ?_
    obtain ⟨v23, e24, h⟩ := bnd h
    refine wp_getR (c := 12) (k := 5) dX12_readings_89 e24 (by decide) (by decide) rfl fl_RX12_58 ?_
    refine wp_bipush (v := 20) dX12_readings_92 (by decide) ?_
    refine wp_iload_n dX12_readings_94 rfl ?_
    refine wp_iadd dX12_readings_95 ?_
    refine wp_iload_n dX12_readings_96 rfl ?_
    obtain ⟨M25, e26, h⟩ := bnd h
    refine wp_iastore dX12_readings_97 e26 ?_
    refine wp_iinc (v := q.1 + 1) dX12_readings_98 rfl rfl ?_
    refine wp_goto (tgt := 2) dX12_readings_101 (by decide) ?_
    cases h
    exact wp_ls (lsS (lsS (lsN lsZ))) (hc (q.1 + 1, M25) rfl)

theorem X12_readings_B2_lp {w : Gw} {d : Nat} {x0 : Nat} {o : Go} {M' : Gm} {r : Gm} : ∀ (n : Nat) (q : Int32 × Gm), lp (X12_readings_B2 x0) n q = some r → (∀ t : Gm, r = t → Wp w mdX12_readings (d + 3) 104 [none, none, none] [] t o M') → Wp w mdX12_readings (d + 3) 2 [some (.inr x0), some (.inl q.1), none] [] q.2 o M' := by
  intro n
  induction n with
  | zero => intro q h; cases h
  | succ n ih =>
    intro q h he0
    cases hb : X12_readings_B2 x0 q with
    | none => rw [lp_succ, hb] at h; cases h
    | some out =>
      rw [lp_succ, hb] at h
      exact X12_readings_B2_ok hb (fun t e => ih t (by rw [e] at h; exact h) he0) (fun t e => he0 t (by rw [e] at h; cases h; rfl))
theorem X12_readings_F_ok {w : Gw} {d : Nat} {x0 : Nat} {M : Gm} {out : Gm} (h : X12_readings_F x0 M = some out) : Wp w mdX12_readings (d + 3) 0 [some (.inr x0), none, none] [] M (.inl none) out := by
  unfold X12_readings_F at h
  refine wp_iconst (v := 0) dX12_readings_0 (by decide) ?_
  refine wp_istore_n dX12_readings_1 (Nat.le_of_ble_eq_true rfl) ?_
  obtain ⟨r1, e2, h⟩ := bnd h
  refine wp_ls (lsS (lsS (lsN lsZ))) (X12_readings_B2_lp FU _ e2 ?_)
  intro t_ ht_; cases ht_
  cases h
  exact wp_ret dX12_readings_104 rfl

theorem sh_X12_readings_ok {w : Gw} {d : Nat} {x0 : Nat} {M : Gm} {out : Gm} (h : sh_X12_readings x0 M = some out) : Ev w mdX12_readings (d + 3) [.inr x0] M (.inl none) out := by
  obtain ⟨u, e0, h⟩ := bnd h
  exact ev_of okX12_readings ⟨_, _, rfl, isO_of e0 (by decide), by decide⟩ (Nat.le_of_ble_eq_true rfl) (X12_readings_F_ok h)

/-! HeatGovernorModel.zoneOf(I)I -/
def X12_zoneOf_F (x0 : Nat) (x1 : Int32) (M : Gm) : Option (Int32) :=
  (gfR M x0 12 6).bind fun v1 =>
  (ldA M 0 v1 (15 + x1)).bind fun v3 =>
  some v3
def sh_X12_zoneOf (x0 : Nat) (x1 : Int32) (M : Gm) : Option (Int32) := (isO M x0 12).bind fun _ => X12_zoneOf_F x0 x1 M
theorem X12_zoneOf_F_ok {w : Gw} {d : Nat} {x0 : Nat} {x1 : Int32} {M : Gm} {out : Int32} (h : X12_zoneOf_F x0 x1 M = some out) : Wp w mdX12_zoneOf d 0 [some (.inr x0), some (.inl x1)] [] M (.inl (some (.inl out))) M := by
  unfold X12_zoneOf_F at h
  refine wp_aload_n dX12_zoneOf_0 rfl ?_
  obtain ⟨v1, e2, h⟩ := bnd h
  refine wp_getR (c := 12) (k := 6) dX12_zoneOf_1 e2 (by decide) (by decide) rfl fl_RX12_62 ?_
  refine wp_bipush (v := 15) dX12_zoneOf_4 (by decide) ?_
  refine wp_iload_n dX12_zoneOf_6 rfl ?_
  refine wp_iadd dX12_zoneOf_7 ?_
  obtain ⟨v3, e4, h⟩ := bnd h
  refine wp_iaload dX12_zoneOf_8 e4 ?_
  cases h
  exact wp_iret dX12_zoneOf_9 rfl

theorem sh_X12_zoneOf_ok {w : Gw} {d : Nat} {x0 : Nat} {x1 : Int32} {M : Gm} {out : Int32} (h : sh_X12_zoneOf x0 x1 M = some out) : Ev w mdX12_zoneOf d [.inr x0, .inl x1] M (.inl (some (.inl out))) M := by
  obtain ⟨u, e0, h⟩ := bnd h
  exact ev_of okX12_zoneOf ⟨_, _, rfl, isO_of e0 (by decide), by decide⟩ (Nat.le_of_ble_eq_true rfl) (X12_zoneOf_F_ok h)
