/-! HeatGovernorModel.askedOf(I)I -/
def X12_askedOf_J25 (M : Gm) : Option (Int32) :=
  some 0
def X12_askedOf_J62 (x0 : Nat) (x1 : Int32) (x3 : Int32) (s0 : Int32) (s1 : Int32) (M : Gm) : Option ((Int32 × Int32) ⊕ Int32) :=
  some (.inl (s0 + s1, x3 + 1))
def X12_askedOf_B31 (x0 : Nat) (x1 : Int32) (M : Gm) (q : Int32 × Int32) : Option ((Int32 × Int32) ⊕ Int32) :=
  (sh_X12_devices x0 M).bind fun q1 =>
  if q1 ≤ q.2 then
    some (.inr q.1)
  else
    (sh_X12_weight x0 x1 q.2 M).bind fun q3 =>
    if q3 ≤ 0 then
      X12_askedOf_J62 x0 x1 q.2 q.1 0 M
    else
      (gfR M x0 12 6).bind fun v5 =>
      (ldA M 0 v5 (67 + q.2)).bind fun v7 =>
      X12_askedOf_J62 x0 x1 q.2 q.1 v7 M
def X12_askedOf_F (x0 : Nat) (x1 : Int32) (M : Gm) : Option (Int32) :=
  (gfR M x0 12 6).bind fun v1 =>
  (ldA M 0 v1 (25 + x1)).bind fun v3 =>
  if v3 = 1 then
    (gfR M x0 12 5).bind fun v5 =>
    (ldA M 0 v5 (50 + x1)).bind fun v7 =>
    if v7 = 0 then
      X12_askedOf_J25 M
    else
      (lp (X12_askedOf_B31 x0 x1 M) FU (0, 0)).bind fun r9 =>
      (gfR M x0 12 5).bind fun v11 =>
      (sh_X12_zoneOf x0 x1 M).bind fun q13 =>
      (ldA M 0 v11 (20 + q13)).bind fun v15 =>
      (gfR M x0 12 6).bind fun v17 =>
      (ldA M 0 v17 (35 + x1)).bind fun v19 =>
      (sh_X12_by (v15 - v19) 10 M).bind fun q21 =>
      (sh_J9_max_7cf53 1 (q21 + 1) M).bind fun q23 =>
      (sh_J9_min_7cf53 r9 q23 M).bind fun q25 =>
      some q25
  else
    X12_askedOf_J25 M
def sh_X12_askedOf (x0 : Nat) (x1 : Int32) (M : Gm) : Option (Int32) := (isO M x0 12).bind fun _ => X12_askedOf_F x0 x1 M
theorem X12_askedOf_J25_ok {w : Gw} {d : Nat} {M : Gm} {out : Int32} (h : X12_askedOf_J25 M = some out) : Wp w mdX12_askedOf (d + 1) 25 [none, none, none, none] [] M (.inl (some (.inl out))) M := by
  unfold X12_askedOf_J25 at h
  refine wp_iconst (v := 0) dX12_askedOf_25 (by decide) ?_
  cases h
  exact wp_iret dX12_askedOf_26 rfl

theorem X12_askedOf_J62_ok {w : Gw} {d : Nat} {x0 : Nat} {x1 : Int32} {x3 : Int32} {s0 : Int32} {s1 : Int32} {M : Gm} {o : Go} {M' : Gm} {out : (Int32 × Int32) ⊕ Int32} (h : X12_askedOf_J62 x0 x1 x3 s0 s1 M = some out) (hc : ∀ t : Int32 × Int32, out = .inl t → Wp w mdX12_askedOf (d + 1) 31 [some (.inr x0), some (.inl x1), some (.inl t.1), some (.inl t.2)] [] M o M') (he0 : ∀ t : Int32, out = .inr t → Wp w mdX12_askedOf (d + 1) 70 [some (.inr x0), some (.inl x1), some (.inl t), none] [] M o M') : Wp w mdX12_askedOf (d + 1) 62 [some (.inr x0), some (.inl x1), none, some (.inl x3)] [.inl s1, .inl s0] M o M' := by
  unfold X12_askedOf_J62 at h
  refine wp_iadd dX12_askedOf_62 ?_
  refine wp_istore_n dX12_askedOf_63 (Nat.le_of_ble_eq_true rfl) ?_
  refine wp_iinc (v := x3 + 1) dX12_askedOf_64 rfl rfl ?_
  refine wp_goto (tgt := 31) dX12_askedOf_67 (by decide) ?_
  cases h
  exact wp_ls (lsS (lsS (lsS (lsS lsZ)))) (hc (s0 + s1, x3 + 1) rfl)

theorem X12_askedOf_B31_ok {w : Gw} {d : Nat} {x0 : Nat} {x1 : Int32} {M : Gm} {q : Int32 × Int32} {o : Go} {M' : Gm} {out : (Int32 × Int32) ⊕ Int32} (h : X12_askedOf_B31 x0 x1 M q = some out) (hc : ∀ t : Int32 × Int32, out = .inl t → Wp w mdX12_askedOf (d + 1) 31 [some (.inr x0), some (.inl x1), some (.inl t.1), some (.inl t.2)] [] M o M') (he0 : ∀ t : Int32, out = .inr t → Wp w mdX12_askedOf (d + 1) 70 [some (.inr x0), some (.inl x1), some (.inl t), none] [] M o M') : Wp w mdX12_askedOf (d + 1) 31 [some (.inr x0), some (.inl x1), some (.inl q.1), some (.inl q.2)] [] M o M' := by
  unfold X12_askedOf_B31 at h
  refine wp_iload_n dX12_askedOf_31 rfl ?_
  refine wp_aload_n dX12_askedOf_32 rfl ?_
  obtain ⟨q1, e2, h⟩ := bnd h
  refine wp_callV (As := []) dX12_askedOf_33 (sh_X12_devices_ok (d := d) e2) okX12_devices nnX12_devices vvX12_devices ml_RX12_263 rfl (Nat.le_of_ble_eq_true rfl) ?_
  refine wp_icmp_ge (tgt := 70) dX12_askedOf_36 (by decide) (fun hc_ => ?_) (fun hc_ => ?_)
  · replace h := ite_t hc_ h
    cases h
    exact wp_ls (lsS (lsS (lsS (lsN lsZ)))) (he0 q.1 rfl)
  · replace h := ite_f hc_ h
    refine wp_iload_n dX12_askedOf_39 rfl ?_
    refine wp_aload_n dX12_askedOf_40 rfl ?_
    refine wp_iload_n dX12_askedOf_41 rfl ?_
    refine wp_iload_n dX12_askedOf_42 rfl ?_
    obtain ⟨q3, e4, h⟩ := bnd h
    refine wp_callV (As := [.inl x1, .inl q.2]) dX12_askedOf_43 (sh_X12_weight_ok (d := d) e4) okX12_weight nnX12_weight vvX12_weight ml_RX12_294 rfl (Nat.le_of_ble_eq_true rfl) ?_
    refine wp_if_le (tgt := 61) dX12_askedOf_46 (by decide) (fun hc_ => ?_) (fun hc_ => ?_)
    · replace h := ite_t hc_ h
      refine wp_iconst (v := 0) dX12_askedOf_61 (by decide) ?_
      exact wp_ls (lsS (lsS (lsN (lsS lsZ)))) (X12_askedOf_J62_ok h hc he0)
    · replace h := ite_f hc_ h
      refine wp_aload_n dX12_askedOf_49 rfl ?_
      obtain ⟨v5, e6, h⟩ := bnd h
      refine wp_getR (c := 12) (k := 6) dX12_askedOf_50 e6 (by decide) (by decide) rfl fl_RX12_62 ?_
      refine wp_bipush (v := 67) dX12_askedOf_53 (by decide) ?_
      refine wp_iload_n dX12_askedOf_55 rfl ?_
      refine wp_iadd dX12_askedOf_56 ?_
      obtain ⟨v7, e8, h⟩ := bnd h
      refine wp_iaload dX12_askedOf_57 e8 ?_
      refine wp_goto (tgt := 62) dX12_askedOf_58 (by decide) ?_
      exact wp_ls (lsS (lsS (lsN (lsS lsZ)))) (X12_askedOf_J62_ok h hc he0)

theorem X12_askedOf_B31_lp {w : Gw} {d : Nat} {x0 : Nat} {x1 : Int32} {M : Gm} {o : Go} {M' : Gm} {r : Int32} : ∀ (n : Nat) (q : Int32 × Int32), lp (X12_askedOf_B31 x0 x1 M) n q = some r → (∀ t : Int32, r = t → Wp w mdX12_askedOf (d + 1) 70 [some (.inr x0), some (.inl x1), some (.inl t), none] [] M o M') → Wp w mdX12_askedOf (d + 1) 31 [some (.inr x0), some (.inl x1), some (.inl q.1), some (.inl q.2)] [] M o M' := by
  intro n
  induction n with
  | zero => intro q h; cases h
  | succ n ih =>
    intro q h he0
    cases hb : X12_askedOf_B31 x0 x1 M q with
    | none => rw [lp_succ, hb] at h; cases h
    | some out =>
      rw [lp_succ, hb] at h
      exact X12_askedOf_B31_ok hb (fun t e => ih t (by rw [e] at h; exact h) he0) (fun t e => he0 t (by rw [e] at h; cases h; rfl))
theorem X12_askedOf_F_ok {w : Gw} {d : Nat} {x0 : Nat} {x1 : Int32} {M : Gm} {out : Int32} (h : X12_askedOf_F x0 x1 M = some out) : Wp w mdX12_askedOf (d + 1) 0 [some (.inr x0), some (.inl x1), none, none] [] M (.inl (some (.inl out))) M := by
  unfold X12_askedOf_F at h
  refine wp_aload_n dX12_askedOf_0 rfl ?_
  obtain ⟨v1, e2, h⟩ := bnd h
  refine wp_getR (c := 12) (k := 6) dX12_askedOf_1 e2 (by decide) (by decide) rfl fl_RX12_62 ?_
  refine wp_bipush (v := 25) dX12_askedOf_4 (by decide) ?_
  refine wp_iload_n dX12_askedOf_6 rfl ?_
  refine wp_iadd dX12_askedOf_7 ?_
  obtain ⟨v3, e4, h⟩ := bnd h
  refine wp_iaload dX12_askedOf_8 e4 ?_
  refine wp_iconst (v := 1) dX12_askedOf_9 (by decide) ?_
  refine wp_icmp_ne (tgt := 25) dX12_askedOf_10 (by decide) (fun hc_ => ?_) (fun hc_ => ?_)
  · replace h := ite_f hc_ h
    exact wp_ls (lsN (lsN (lsN (lsN lsZ)))) (X12_askedOf_J25_ok h)
  · replace h := ite_t hc_ h
    refine wp_aload_n dX12_askedOf_13 rfl ?_
    obtain ⟨v5, e6, h⟩ := bnd h
    refine wp_getR (c := 12) (k := 5) dX12_askedOf_14 e6 (by decide) (by decide) rfl fl_RX12_58 ?_
    refine wp_bipush (v := 50) dX12_askedOf_17 (by decide) ?_
    refine wp_iload_n dX12_askedOf_19 rfl ?_
    refine wp_iadd dX12_askedOf_20 ?_
    obtain ⟨v7, e8, h⟩ := bnd h
    refine wp_iaload dX12_askedOf_21 e8 ?_
    refine wp_if_ne (tgt := 27) dX12_askedOf_22 (by decide) (fun hc_ => ?_) (fun hc_ => ?_)
    · replace h := ite_f hc_ h
      refine wp_iconst (v := 0) dX12_askedOf_27 (by decide) ?_
      refine wp_istore_n dX12_askedOf_28 (Nat.le_of_ble_eq_true rfl) ?_
      refine wp_iconst (v := 0) dX12_askedOf_29 (by decide) ?_
      refine wp_istore_n dX12_askedOf_30 (Nat.le_of_ble_eq_true rfl) ?_
      obtain ⟨r9, e10, h⟩ := bnd h
      refine wp_ls (lsS (lsS (lsS (lsS lsZ)))) (X12_askedOf_B31_lp FU _ e10 ?_)
      intro t_ ht_; cases ht_
      refine wp_iload_n dX12_askedOf_70 rfl ?_
      refine wp_iconst (v := 1) dX12_askedOf_71 (by decide) ?_
      refine wp_aload_n dX12_askedOf_72 rfl ?_
      obtain ⟨v11, e12, h⟩ := bnd h
      refine wp_getR (c := 12) (k := 5) dX12_askedOf_73 e12 (by decide) (by decide) rfl fl_RX12_58 ?_
      refine wp_bipush (v := 20) dX12_askedOf_76 (by decide) ?_
      refine wp_aload_n dX12_askedOf_78 rfl ?_
      refine wp_iload_n dX12_askedOf_79 rfl ?_
      obtain ⟨q13, e14, h⟩ := bnd h
      refine wp_callV (As := [.inl x1]) dX12_askedOf_80 (sh_X12_zoneOf_ok (d := d) e14) okX12_zoneOf nnX12_zoneOf vvX12_zoneOf ml_RX12_287 rfl (Nat.le_of_ble_eq_true rfl) ?_
      refine wp_iadd dX12_askedOf_83 ?_
      obtain ⟨v15, e16, h⟩ := bnd h
      refine wp_iaload dX12_askedOf_84 e16 ?_
      refine wp_aload_n dX12_askedOf_85 rfl ?_
      obtain ⟨v17, e18, h⟩ := bnd h
      refine wp_getR (c := 12) (k := 6) dX12_askedOf_86 e18 (by decide) (by decide) rfl fl_RX12_62 ?_
      refine wp_bipush (v := 35) dX12_askedOf_89 (by decide) ?_
      refine wp_iload_n dX12_askedOf_91 rfl ?_
      refine wp_iadd dX12_askedOf_92 ?_
      obtain ⟨v19, e20, h⟩ := bnd h
      refine wp_iaload dX12_askedOf_93 e20 ?_
      refine wp_isub dX12_askedOf_94 ?_
      refine wp_bipush (v := 10) dX12_askedOf_95 (by decide) ?_
      obtain ⟨q21, e22, h⟩ := bnd h
      refine wp_callS (As := [.inl (v15 - v19), .inl 10]) dX12_askedOf_97 (sh_X12_by_ok (d := d) e22) okX12_by nnX12_by ssX12_by ml_RX12_269 rfl (Nat.le_of_ble_eq_true rfl) ?_
      refine wp_iconst (v := 1) dX12_askedOf_100 (by decide) ?_
      refine wp_iadd dX12_askedOf_101 ?_
      obtain ⟨q23, e24, h⟩ := bnd h
      refine wp_callS (As := [.inl 1, .inl (q21 + 1)]) dX12_askedOf_102 (sh_J9_max_7cf53_ok (d := d) e24) okJ9_max_7cf53 nnJ9_max_7cf53 ssJ9_max_7cf53 ml_RX12_297 rfl (Nat.le_of_ble_eq_true rfl) ?_
      obtain ⟨q25, e26, h⟩ := bnd h
      refine wp_callS (As := [.inl r9, .inl q23]) dX12_askedOf_105 (sh_J9_min_7cf53_ok (d := d) e26) okJ9_min_7cf53 nnJ9_min_7cf53 ssJ9_min_7cf53 ml_RX12_164 rfl (Nat.le_of_ble_eq_true rfl) ?_
      cases h
      exact wp_iret dX12_askedOf_108 rfl
    · replace h := ite_t hc_ h
      exact wp_ls (lsN (lsN (lsN (lsN lsZ)))) (X12_askedOf_J25_ok h)

theorem sh_X12_askedOf_ok {w : Gw} {d : Nat} {x0 : Nat} {x1 : Int32} {M : Gm} {out : Int32} (h : sh_X12_askedOf x0 x1 M = some out) : Ev w mdX12_askedOf (d + 1) [.inr x0, .inl x1] M (.inl (some (.inl out))) M := by
  obtain ⟨u, e0, h⟩ := bnd h
  exact ev_of okX12_askedOf ⟨_, _, rfl, isO_of e0 (by decide), by decide⟩ (Nat.le_of_ble_eq_true rfl) (X12_askedOf_F_ok h)

/-! HeatGovernorModel.nextGiven(I)I -/
def X12_nextGiven_J82 (x0 : Nat) (x1 : Int32) (x2 : Int32) (x3 : Int32) (M : Gm) : Option ((Int32 × Int32) ⊕ Int32) :=
  some (.inl (x2, x3 + 1))
def X12_nextGiven_J80 (x0 : Nat) (x1 : Int32) (x3 : Int32) (M : Gm) : Option ((Int32 × Int32) ⊕ Int32) :=
  X12_nextGiven_J82 x0 x1 x3 x3 M
def X12_nextGiven_J53 (x0 : Nat) (x1 : Int32) (x2 : Int32) (x3 : Int32) (s0 : Int32) (M : Gm) : Option ((Int32 × Int32) ⊕ Int32) :=
  if s0 = 0 then
    X12_nextGiven_J82 x0 x1 x2 x3 M
  else
    if x2 = ((-1)) then
      X12_nextGiven_J80 x0 x1 x3 M
    else
      (sh_X12_weight x0 x1 x3 M).bind fun q1 =>
      (sh_X12_weight x0 x1 x2 M).bind fun q3 =>
      if q1 ≤ q3 then
        X12_nextGiven_J82 x0 x1 x2 x3 M
      else
        X12_nextGiven_J80 x0 x1 x3 M
def X12_nextGiven_J52 (x0 : Nat) (x1 : Int32) (x2 : Int32) (x3 : Int32) (M : Gm) : Option ((Int32 × Int32) ⊕ Int32) :=
  X12_nextGiven_J53 x0 x1 x2 x3 0 M
def X12_nextGiven_B4 (x0 : Nat) (x1 : Int32) (M : Gm) (q : Int32 × Int32) : Option ((Int32 × Int32) ⊕ Int32) :=
  (sh_X12_devices x0 M).bind fun q1 =>
  if q1 ≤ q.2 then
    some (.inr q.1)
  else
    (sh_X12_weight x0 x1 q.2 M).bind fun q3 =>
    if q3 ≤ 0 then
      X12_nextGiven_J52 x0 x1 q.1 q.2 M
    else
      (gfR M x0 12 23).bind fun v5 =>
      (ldA M 2 v5 q.2).bind fun v7 =>
      if v7 = 0 then
        (sh_X12_wanted x0 x1 q.2 M).bind fun q9 =>
        (gfR M x0 12 6).bind fun v11 =>
        (ldA M 0 v11 (67 + q.2)).bind fun v13 =>
        if v13 ≤ q9 then
          X12_nextGiven_J52 x0 x1 q.1 q.2 M
        else
          X12_nextGiven_J53 x0 x1 q.1 q.2 1 M
      else
        X12_nextGiven_J52 x0 x1 q.1 q.2 M
def X12_nextGiven_F (x0 : Nat) (x1 : Int32) (M : Gm) : Option (Int32) :=
  (lp (X12_nextGiven_B4 x0 x1 M) FU ((-1), 0)).bind fun r1 =>
  some r1
def sh_X12_nextGiven (x0 : Nat) (x1 : Int32) (M : Gm) : Option (Int32) := (isO M x0 12).bind fun _ => X12_nextGiven_F x0 x1 M
theorem X12_nextGiven_J82_ok {w : Gw} {d : Nat} {x0 : Nat} {x1 : Int32} {x2 : Int32} {x3 : Int32} {M : Gm} {o : Go} {M' : Gm} {out : (Int32 × Int32) ⊕ Int32} (h : X12_nextGiven_J82 x0 x1 x2 x3 M = some out) (hc : ∀ t : Int32 × Int32, out = .inl t → Wp w mdX12_nextGiven (d + 1) 4 [some (.inr x0), some (.inl x1), some (.inl t.1), some (.inl t.2), none] [] M o M') (he0 : ∀ t : Int32, out = .inr t → Wp w mdX12_nextGiven (d + 1) 88 [none, none, some (.inl t), none, none] [] M o M') : Wp w mdX12_nextGiven (d + 1) 82 [some (.inr x0), some (.inl x1), some (.inl x2), some (.inl x3), none] [] M o M' := by
  unfold X12_nextGiven_J82 at h
  refine wp_iinc (v := x3 + 1) dX12_nextGiven_82 rfl rfl ?_
  refine wp_goto (tgt := 4) dX12_nextGiven_85 (by decide) ?_
  cases h
  exact wp_ls (lsS (lsS (lsS (lsS (lsN lsZ))))) (hc (x2, x3 + 1) rfl)

theorem X12_nextGiven_J80_ok {w : Gw} {d : Nat} {x0 : Nat} {x1 : Int32} {x3 : Int32} {M : Gm} {o : Go} {M' : Gm} {out : (Int32 × Int32) ⊕ Int32} (h : X12_nextGiven_J80 x0 x1 x3 M = some out) (hc : ∀ t : Int32 × Int32, out = .inl t → Wp w mdX12_nextGiven (d + 1) 4 [some (.inr x0), some (.inl x1), some (.inl t.1), some (.inl t.2), none] [] M o M') (he0 : ∀ t : Int32, out = .inr t → Wp w mdX12_nextGiven (d + 1) 88 [none, none, some (.inl t), none, none] [] M o M') : Wp w mdX12_nextGiven (d + 1) 80 [some (.inr x0), some (.inl x1), none, some (.inl x3), none] [] M o M' := by
  unfold X12_nextGiven_J80 at h
  refine wp_iload_n dX12_nextGiven_80 rfl ?_
  refine wp_istore_n dX12_nextGiven_81 (Nat.le_of_ble_eq_true rfl) ?_
  exact wp_ls (lsS (lsS (lsS (lsS (lsN lsZ))))) (X12_nextGiven_J82_ok h hc he0)

theorem X12_nextGiven_J53_ok {w : Gw} {d : Nat} {x0 : Nat} {x1 : Int32} {x2 : Int32} {x3 : Int32} {s0 : Int32} {M : Gm} {o : Go} {M' : Gm} {out : (Int32 × Int32) ⊕ Int32} (h : X12_nextGiven_J53 x0 x1 x2 x3 s0 M = some out) (hc : ∀ t : Int32 × Int32, out = .inl t → Wp w mdX12_nextGiven (d + 1) 4 [some (.inr x0), some (.inl x1), some (.inl t.1), some (.inl t.2), none] [] M o M') (he0 : ∀ t : Int32, out = .inr t → Wp w mdX12_nextGiven (d + 1) 88 [none, none, some (.inl t), none, none] [] M o M') : Wp w mdX12_nextGiven (d + 1) 53 [some (.inr x0), some (.inl x1), some (.inl x2), some (.inl x3), none] [.inl s0] M o M' := by
  unfold X12_nextGiven_J53 at h
  refine wp_istore dX12_nextGiven_53 (Nat.le_of_ble_eq_true rfl) ?_
  refine wp_iload dX12_nextGiven_55 rfl ?_
  refine wp_if_eq (tgt := 82) dX12_nextGiven_57 (by decide) (fun hc_ => ?_) (fun hc_ => ?_)
  · replace h := ite_t hc_ h
    exact wp_ls (lsS (lsS (lsS (lsS (lsN lsZ))))) (X12_nextGiven_J82_ok h hc he0)
  · replace h := ite_f hc_ h
    refine wp_iload_n dX12_nextGiven_60 rfl ?_
    refine wp_iconst (v := (-1)) dX12_nextGiven_61 (by decide) ?_
    refine wp_icmp_eq (tgt := 80) dX12_nextGiven_62 (by decide) (fun hc_ => ?_) (fun hc_ => ?_)
    · replace h := ite_t hc_ h
      exact wp_ls (lsS (lsS (lsN (lsS (lsN lsZ))))) (X12_nextGiven_J80_ok h hc he0)
    · replace h := ite_f hc_ h
      refine wp_aload_n dX12_nextGiven_65 rfl ?_
      refine wp_iload_n dX12_nextGiven_66 rfl ?_
      refine wp_iload_n dX12_nextGiven_67 rfl ?_
      obtain ⟨q1, e2, h⟩ := bnd h
      refine wp_callV (As := [.inl x1, .inl x3]) dX12_nextGiven_68 (sh_X12_weight_ok (d := d) e2) okX12_weight nnX12_weight vvX12_weight ml_RX12_294 rfl (Nat.le_of_ble_eq_true rfl) ?_
      refine wp_aload_n dX12_nextGiven_71 rfl ?_
      refine wp_iload_n dX12_nextGiven_72 rfl ?_
      refine wp_iload_n dX12_nextGiven_73 rfl ?_
      obtain ⟨q3, e4, h⟩ := bnd h
      refine wp_callV (As := [.inl x1, .inl x2]) dX12_nextGiven_74 (sh_X12_weight_ok (d := d) e4) okX12_weight nnX12_weight vvX12_weight ml_RX12_294 rfl (Nat.le_of_ble_eq_true rfl) ?_
      refine wp_icmp_le (tgt := 82) dX12_nextGiven_77 (by decide) (fun hc_ => ?_) (fun hc_ => ?_)
      · replace h := ite_t hc_ h
        exact wp_ls (lsS (lsS (lsS (lsS (lsN lsZ))))) (X12_nextGiven_J82_ok h hc he0)
      · replace h := ite_f hc_ h
        exact wp_ls (lsS (lsS (lsN (lsS (lsN lsZ))))) (X12_nextGiven_J80_ok h hc he0)

theorem X12_nextGiven_J52_ok {w : Gw} {d : Nat} {x0 : Nat} {x1 : Int32} {x2 : Int32} {x3 : Int32} {M : Gm} {o : Go} {M' : Gm} {out : (Int32 × Int32) ⊕ Int32} (h : X12_nextGiven_J52 x0 x1 x2 x3 M = some out) (hc : ∀ t : Int32 × Int32, out = .inl t → Wp w mdX12_nextGiven (d + 1) 4 [some (.inr x0), some (.inl x1), some (.inl t.1), some (.inl t.2), none] [] M o M') (he0 : ∀ t : Int32, out = .inr t → Wp w mdX12_nextGiven (d + 1) 88 [none, none, some (.inl t), none, none] [] M o M') : Wp w mdX12_nextGiven (d + 1) 52 [some (.inr x0), some (.inl x1), some (.inl x2), some (.inl x3), none] [] M o M' := by
  unfold X12_nextGiven_J52 at h
  refine wp_iconst (v := 0) dX12_nextGiven_52 (by decide) ?_
  exact wp_ls (lsS (lsS (lsS (lsS (lsN lsZ))))) (X12_nextGiven_J53_ok h hc he0)

theorem X12_nextGiven_B4_ok {w : Gw} {d : Nat} {x0 : Nat} {x1 : Int32} {M : Gm} {q : Int32 × Int32} {o : Go} {M' : Gm} {out : (Int32 × Int32) ⊕ Int32} (h : X12_nextGiven_B4 x0 x1 M q = some out) (hc : ∀ t : Int32 × Int32, out = .inl t → Wp w mdX12_nextGiven (d + 1) 4 [some (.inr x0), some (.inl x1), some (.inl t.1), some (.inl t.2), none] [] M o M') (he0 : ∀ t : Int32, out = .inr t → Wp w mdX12_nextGiven (d + 1) 88 [none, none, some (.inl t), none, none] [] M o M') : Wp w mdX12_nextGiven (d + 1) 4 [some (.inr x0), some (.inl x1), some (.inl q.1), some (.inl q.2), none] [] M o M' := by
  unfold X12_nextGiven_B4 at h
  refine wp_iload_n dX12_nextGiven_4 rfl ?_
  refine wp_aload_n dX12_nextGiven_5 rfl ?_
  obtain ⟨q1, e2, h⟩ := bnd h
  refine wp_callV (As := []) dX12_nextGiven_6 (sh_X12_devices_ok (d := d) e2) okX12_devices nnX12_devices vvX12_devices ml_RX12_263 rfl (Nat.le_of_ble_eq_true rfl) ?_
  refine wp_icmp_ge (tgt := 88) dX12_nextGiven_9 (by decide) (fun hc_ => ?_) (fun hc_ => ?_)
  · replace h := ite_t hc_ h
    cases h
    exact wp_ls (lsN (lsN (lsS (lsN (lsN lsZ))))) (he0 q.1 rfl)
  · replace h := ite_f hc_ h
    refine wp_aload_n dX12_nextGiven_12 rfl ?_
    refine wp_iload_n dX12_nextGiven_13 rfl ?_
    refine wp_iload_n dX12_nextGiven_14 rfl ?_
    obtain ⟨q3, e4, h⟩ := bnd h
    refine wp_callV (As := [.inl x1, .inl q.2]) dX12_nextGiven_15 (sh_X12_weight_ok (d := d) e4) okX12_weight nnX12_weight vvX12_weight ml_RX12_294 rfl (Nat.le_of_ble_eq_true rfl) ?_
    refine wp_if_le (tgt := 52) dX12_nextGiven_18 (by decide) (fun hc_ => ?_) (fun hc_ => ?_)
    · replace h := ite_t hc_ h
      exact wp_ls (lsS (lsS (lsS (lsS (lsN lsZ))))) (X12_nextGiven_J52_ok h hc he0)
    · replace h := ite_f hc_ h
      refine wp_aload_n dX12_nextGiven_21 rfl ?_
      obtain ⟨v5, e6, h⟩ := bnd h
      refine wp_getR (c := 12) (k := 23) dX12_nextGiven_22 e6 (by decide) (by decide) rfl fl_RX12_84 ?_
      refine wp_iload_n dX12_nextGiven_25 rfl ?_
      obtain ⟨v7, e8, h⟩ := bnd h
      refine wp_zaload dX12_nextGiven_26 e8 ?_
      refine wp_if_ne (tgt := 52) dX12_nextGiven_27 (by decide) (fun hc_ => ?_) (fun hc_ => ?_)
      · replace h := ite_f hc_ h
        exact wp_ls (lsS (lsS (lsS (lsS (lsN lsZ))))) (X12_nextGiven_J52_ok h hc he0)
      · replace h := ite_t hc_ h
        refine wp_aload_n dX12_nextGiven_30 rfl ?_
        refine wp_iload_n dX12_nextGiven_31 rfl ?_
        refine wp_iload_n dX12_nextGiven_32 rfl ?_
        obtain ⟨q9, e10, h⟩ := bnd h
        refine wp_callV (As := [.inl x1, .inl q.2]) dX12_nextGiven_33 (sh_X12_wanted_ok (d := d) e10) okX12_wanted nnX12_wanted vvX12_wanted ml_RX12_300 rfl (Nat.le_of_ble_eq_true rfl) ?_
        refine wp_aload_n dX12_nextGiven_36 rfl ?_
        obtain ⟨v11, e12, h⟩ := bnd h
        refine wp_getR (c := 12) (k := 6) dX12_nextGiven_37 e12 (by decide) (by decide) rfl fl_RX12_62 ?_
        refine wp_bipush (v := 67) dX12_nextGiven_40 (by decide) ?_
        refine wp_iload_n dX12_nextGiven_42 rfl ?_
        refine wp_iadd dX12_nextGiven_43 ?_
        obtain ⟨v13, e14, h⟩ := bnd h
        refine wp_iaload dX12_nextGiven_44 e14 ?_
        refine wp_icmp_ge (tgt := 52) dX12_nextGiven_45 (by decide) (fun hc_ => ?_) (fun hc_ => ?_)
        · replace h := ite_t hc_ h
          exact wp_ls (lsS (lsS (lsS (lsS (lsN lsZ))))) (X12_nextGiven_J52_ok h hc he0)
        · replace h := ite_f hc_ h
          refine wp_iconst (v := 1) dX12_nextGiven_48 (by decide) ?_
          refine wp_goto (tgt := 53) dX12_nextGiven_49 (by decide) ?_
          exact wp_ls (lsS (lsS (lsS (lsS (lsN lsZ))))) (X12_nextGiven_J53_ok h hc he0)

theorem X12_nextGiven_B4_lp {w : Gw} {d : Nat} {x0 : Nat} {x1 : Int32} {M : Gm} {o : Go} {M' : Gm} {r : Int32} : ∀ (n : Nat) (q : Int32 × Int32), lp (X12_nextGiven_B4 x0 x1 M) n q = some r → (∀ t : Int32, r = t → Wp w mdX12_nextGiven (d + 1) 88 [none, none, some (.inl t), none, none] [] M o M') → Wp w mdX12_nextGiven (d + 1) 4 [some (.inr x0), some (.inl x1), some (.inl q.1), some (.inl q.2), none] [] M o M' := by
  intro n
  induction n with
  | zero => intro q h; cases h
  | succ n ih =>
    intro q h he0
    cases hb : X12_nextGiven_B4 x0 x1 M q with
    | none => rw [lp_succ, hb] at h; cases h
    | some out =>
      rw [lp_succ, hb] at h
      exact X12_nextGiven_B4_ok hb (fun t e => ih t (by rw [e] at h; exact h) he0) (fun t e => he0 t (by rw [e] at h; cases h; rfl))
theorem X12_nextGiven_F_ok {w : Gw} {d : Nat} {x0 : Nat} {x1 : Int32} {M : Gm} {out : Int32} (h : X12_nextGiven_F x0 x1 M = some out) : Wp w mdX12_nextGiven (d + 1) 0 [some (.inr x0), some (.inl x1), none, none, none] [] M (.inl (some (.inl out))) M := by
  unfold X12_nextGiven_F at h
  refine wp_iconst (v := (-1)) dX12_nextGiven_0 (by decide) ?_
  refine wp_istore_n dX12_nextGiven_1 (Nat.le_of_ble_eq_true rfl) ?_
  refine wp_iconst (v := 0) dX12_nextGiven_2 (by decide) ?_
  refine wp_istore_n dX12_nextGiven_3 (Nat.le_of_ble_eq_true rfl) ?_
  obtain ⟨r1, e2, h⟩ := bnd h
  refine wp_ls (lsS (lsS (lsS (lsS (lsN lsZ))))) (X12_nextGiven_B4_lp FU _ e2 ?_)
  intro t_ ht_; cases ht_
  refine wp_iload_n dX12_nextGiven_88 rfl ?_
  cases h
  exact wp_iret dX12_nextGiven_89 rfl

theorem sh_X12_nextGiven_ok {w : Gw} {d : Nat} {x0 : Nat} {x1 : Int32} {M : Gm} {out : Int32} (h : sh_X12_nextGiven x0 x1 M = some out) : Ev w mdX12_nextGiven (d + 1) [.inr x0, .inl x1] M (.inl (some (.inl out))) M := by
  obtain ⟨u, e0, h⟩ := bnd h
  exact ev_of okX12_nextGiven ⟨_, _, rfl, isO_of e0 (by decide), by decide⟩ (Nat.le_of_ble_eq_true rfl) (X12_nextGiven_F_ok h)

/-! HeatGovernorModel.wants(III)V -/
def X12_wants_F (x0 : Nat) (x1 : Int32) (x2 : Int32) (x3 : Int32) (M : Gm) : Option (Gm) :=
  (gfR M x0 12 5).bind fun v1 =>
  (stA M 0 v1 ((82 + (6 * x1)) + x2) x3).bind fun M3 =>
  some M3
def sh_X12_wants (x0 : Nat) (x1 : Int32) (x2 : Int32) (x3 : Int32) (M : Gm) : Option (Gm) := (isO M x0 12).bind fun _ => X12_wants_F x0 x1 x2 x3 M
theorem X12_wants_F_ok {w : Gw} {d : Nat} {x0 : Nat} {x1 : Int32} {x2 : Int32} {x3 : Int32} {M : Gm} {out : Gm} (h : X12_wants_F x0 x1 x2 x3 M = some out) : Wp w mdX12_wants d 0 [some (.inr x0), some (.inl x1), some (.inl x2), some (.inl x3)] [] M (.inl none) out := by
  unfold X12_wants_F at h
  refine wp_aload_n dX12_wants_0 rfl ?_
  obtain ⟨v1, e2, h⟩ := bnd h
  refine wp_getR (c := 12) (k := 5) dX12_wants_1 e2 (by decide) (by decide) rfl fl_RX12_58 ?_
  refine wp_bipush (v := 82) dX12_wants_4 (by decide) ?_
  refine wp_bipush (v := 6) dX12_wants_6 (by decide) ?_
  refine wp_iload_n dX12_wants_8 rfl ?_
  refine wp_imul dX12_wants_9 ?_
  refine wp_iadd dX12_wants_10 ?_
  refine wp_iload_n dX12_wants_11 rfl ?_
  refine wp_iadd dX12_wants_12 ?_
  refine wp_iload_n dX12_wants_13 rfl ?_
  obtain ⟨M3, e4, h⟩ := bnd h
  refine wp_iastore dX12_wants_14 e4 ?_
  cases h
  exact wp_ret dX12_wants_15 rfl

theorem sh_X12_wants_ok {w : Gw} {d : Nat} {x0 : Nat} {x1 : Int32} {x2 : Int32} {x3 : Int32} {M : Gm} {out : Gm} (h : sh_X12_wants x0 x1 x2 x3 M = some out) : Ev w mdX12_wants d [.inr x0, .inl x1, .inl x2, .inl x3] M (.inl none) out := by
  obtain ⟨u, e0, h⟩ := bnd h
  exact ev_of okX12_wants ⟨_, _, rfl, isO_of e0 (by decide), by decide⟩ (Nat.le_of_ble_eq_true rfl) (X12_wants_F_ok h)

/-! HeatGovernorModel.shares(I)V -/
def X12_shares_B14 (x0 : Nat) (x1 : Int32) (x2 : Int32) (x3 : Int32) (M : Gm) (q : Int32 × Int32) : Option ((Int32 × Int32) ⊕ Int32) :=
  (sh_X12_devices x0 M).bind fun q1 =>
  if q1 ≤ q.2 then
    some (.inr q.1)
  else
    (sh_X12_weight x0 x1 q.2 M).bind fun q3 =>
    some (.inl (q.1 + q3, q.2 + 1))
def X12_shares_J107 (x0 : Nat) (x1 : Int32) (x2 : Int32) (x3 : Int32) (x4 : Int32) (x5 : Int32) (M : Gm) : Option ((Int32 × Int32 × Gm) ⊕ (Int32 × Gm)) :=
  some (.inl (x2, x5 + 1, M))
def X12_shares_B44 (x0 : Nat) (x1 : Int32) (x3 : Int32) (x4 : Int32) (q : Int32 × Int32 × Gm) : Option ((Int32 × Int32 × Gm) ⊕ (Int32 × Gm)) :=
  (sh_X12_devices x0 q.2.2).bind fun q1 =>
  if q1 ≤ q.2.1 then
    some (.inr (q.1, q.2.2))
  else
    (sh_X12_weight x0 x1 q.2.1 q.2.2).bind fun q3 =>
    if q3 = 0 then
      X12_shares_J107 x0 x1 q.1 x3 x4 q.2.1 q.2.2
    else
      (gfR q.2.2 x0 12 6).bind fun v5 =>
      (ldA q.2.2 0 v5 (67 + q.2.1)).bind fun v7 =>
      (sh_X12_weight x0 x1 q.2.1 q.2.2).bind fun q9 =>
      (dvI (x3 * q9) x4).bind fun v11 =>
      (sh_J9_min_7cf53 v7 v11 q.2.2).bind fun q13 =>
      (sh_X12_wants x0 x1 q.2.1 q13 q.2.2).bind fun q15 =>
      X12_shares_J107 x0 x1 (q.1 - q13) x3 x4 q.2.1 q15
def X12_shares_B116 (x0 : Nat) (x1 : Int32) (x2 : Int32) (q : Int32 × Gm) : Option ((Int32 × Gm) ⊕ Gm) :=
  if 6 ≤ q.1 then
    some (.inr q.2)
  else
    (gfR q.2 x0 12 23).bind fun v1 =>
    (stA q.2 2 v1 q.1 (0 &&& 1)).bind fun M3 =>
    some (.inl (q.1 + 1, M3))
def X12_shares_B157 (x0 : Nat) (x1 : Int32) (x2 : Int32) (q : Int32 × Gm) : Option ((Int32 × Gm) ⊕ Gm) :=
  if 6 ≤ q.1 then
    some (.inr q.2)
  else
    (gfR q.2 x0 12 23).bind fun v1 =>
    (stA q.2 2 v1 q.1 (0 &&& 1)).bind fun M3 =>
    some (.inl (q.1 + 1, M3))
def X12_shares_B137 (x0 : Nat) (x1 : Int32) (q : Int32 × Gm) : Option ((Int32 × Gm) ⊕ Gm) :=
  if q.1 ≤ 0 then
    some (.inr q.2)
  else
    (sh_X12_nextGiven x0 x1 q.2).bind fun q1 =>
    if q1 = ((-1)) then
      (lp (X12_shares_B157 x0 x1 q.1) FU (0, q.2)).bind fun r11 =>
      some (.inl (q.1, r11))
    else
      (gfR q.2 x0 12 23).bind fun v3 =>
      (stA q.2 2 v3 q1 (1 &&& 1)).bind fun M5 =>
      (sh_X12_wanted x0 x1 q1 M5).bind fun q7 =>
      (sh_X12_wants x0 x1 q1 (q7 + 1) M5).bind fun q9 =>
      some (.inl (q.1 + (-1), q9))
def X12_shares_F (x0 : Nat) (x1 : Int32) (M : Gm) : Option (Gm) :=
  (sh_X12_askedOf x0 x1 M).bind fun q1 =>
  (lp (X12_shares_B14 x0 x1 q1 q1 M) FU (0, 0)).bind fun r3 =>
  (lp (X12_shares_B44 x0 x1 q1 r3) FU (q1, 0, M)).bind fun r5 =>
  (lp (X12_shares_B116 x0 x1 r5.1) FU (0, r5.2)).bind fun r7 =>
  (lp (X12_shares_B137 x0 x1) FU (r5.1, r7)).bind fun r9 =>
  some r9
def sh_X12_shares (x0 : Nat) (x1 : Int32) (M : Gm) : Option (Gm) := (isO M x0 12).bind fun _ => X12_shares_F x0 x1 M
theorem X12_shares_B14_ok {w : Gw} {d : Nat} {x0 : Nat} {x1 : Int32} {x2 : Int32} {x3 : Int32} {M : Gm} {q : Int32 × Int32} {o : Go} {M' : Gm} {out : (Int32 × Int32) ⊕ Int32} (h : X12_shares_B14 x0 x1 x2 x3 M q = some out) (hc : ∀ t : Int32 × Int32, out = .inl t → Wp w mdX12_shares (d + 2) 14 [some (.inr x0), some (.inl x1), some (.inl x2), some (.inl x3), some (.inl t.1), some (.inl t.2), none] [] M o M') (he0 : ∀ t : Int32, out = .inr t → Wp w mdX12_shares (d + 2) 41 [some (.inr x0), some (.inl x1), some (.inl x2), some (.inl x3), some (.inl t), none, none] [] M o M') : Wp w mdX12_shares (d + 2) 14 [some (.inr x0), some (.inl x1), some (.inl x2), some (.inl x3), some (.inl q.1), some (.inl q.2), none] [] M o M' := by
  unfold X12_shares_B14 at h
  refine wp_iload dX12_shares_14 rfl ?_
  refine wp_aload_n dX12_shares_16 rfl ?_
  obtain ⟨q1, e2, h⟩ := bnd h
  refine wp_callV (As := []) dX12_shares_17 (sh_X12_devices_ok (d := d + 1) e2) okX12_devices nnX12_devices vvX12_devices ml_RX12_263 rfl (Nat.le_of_ble_eq_true rfl) ?_
  refine wp_icmp_ge (tgt := 41) dX12_shares_20 (by decide) (fun hc_ => ?_) (fun hc_ => ?_)
  · replace h := ite_t hc_ h
    cases h
    exact wp_ls (lsS (lsS (lsS (lsS (lsS (lsN (lsN lsZ))))))) (he0 q.1 rfl)
  · replace h := ite_f hc_ h
    refine wp_iload dX12_shares_23 rfl ?_
    refine wp_aload_n dX12_shares_25 rfl ?_
    refine wp_iload_n dX12_shares_26 rfl ?_
    refine wp_iload dX12_shares_27 rfl ?_
    obtain ⟨q3, e4, h⟩ := bnd h
    refine wp_callV (As := [.inl x1, .inl q.2]) dX12_shares_29 (sh_X12_weight_ok (d := d + 1) e4) okX12_weight nnX12_weight vvX12_weight ml_RX12_294 rfl (Nat.le_of_ble_eq_true rfl) ?_
    refine wp_iadd dX12_shares_32 ?_
    refine wp_istore dX12_shares_33 (Nat.le_of_ble_eq_true rfl) ?_
    refine wp_iinc (v := q.2 + 1) dX12_shares_35 rfl rfl ?_
    refine wp_goto (tgt := 14) dX12_shares_38 (by decide) ?_
    cases h
    exact wp_ls (lsS (lsS (lsS (lsS (lsS (lsS (lsN lsZ))))))) (hc (q.1 + q3, q.2 + 1) rfl)

theorem X12_shares_B14_lp {w : Gw} {d : Nat} {x0 : Nat} {x1 : Int32} {x2 : Int32} {x3 : Int32} {M : Gm} {o : Go} {M' : Gm} {r : Int32} : ∀ (n : Nat) (q : Int32 × Int32), lp (X12_shares_B14 x0 x1 x2 x3 M) n q = some r → (∀ t : Int32, r = t → Wp w mdX12_shares (d + 2) 41 [some (.inr x0), some (.inl x1), some (.inl x2), some (.inl x3), some (.inl t), none, none] [] M o M') → Wp w mdX12_shares (d + 2) 14 [some (.inr x0), some (.inl x1), some (.inl x2), some (.inl x3), some (.inl q.1), some (.inl q.2), none] [] M o M' := by
  intro n
  induction n with
  | zero => intro q h; cases h
  | succ n ih =>
    intro q h he0
    cases hb : X12_shares_B14 x0 x1 x2 x3 M q with
    | none => rw [lp_succ, hb] at h; cases h
    | some out =>
      rw [lp_succ, hb] at h
      exact X12_shares_B14_ok hb (fun t e => ih t (by rw [e] at h; exact h) he0) (fun t e => he0 t (by rw [e] at h; cases h; rfl))
theorem X12_shares_J107_ok {w : Gw} {d : Nat} {x0 : Nat} {x1 : Int32} {x2 : Int32} {x3 : Int32} {x4 : Int32} {x5 : Int32} {M : Gm} {o : Go} {M' : Gm} {out : (Int32 × Int32 × Gm) ⊕ (Int32 × Gm)} (h : X12_shares_J107 x0 x1 x2 x3 x4 x5 M = some out) (hc : ∀ t : Int32 × Int32 × Gm, out = .inl t → Wp w mdX12_shares (d + 2) 44 [some (.inr x0), some (.inl x1), some (.inl t.1), some (.inl x3), some (.inl x4), some (.inl t.2.1), none] [] t.2.2 o M') (he0 : ∀ t : Int32 × Gm, out = .inr t → Wp w mdX12_shares (d + 2) 113 [some (.inr x0), some (.inl x1), some (.inl t.1), none, none, none, none] [] t.2 o M') : Wp w mdX12_shares (d + 2) 107 [some (.inr x0), some (.inl x1), some (.inl x2), some (.inl x3), some (.inl x4), some (.inl x5), none] [] M o M' := by
  unfold X12_shares_J107 at h
  refine wp_iinc (v := x5 + 1) dX12_shares_107 rfl rfl ?_
  refine wp_goto (tgt := 44) dX12_shares_110 (by decide) ?_
  cases h
  exact wp_ls (lsS (lsS (lsS (lsS (lsS (lsS (lsN lsZ))))))) (hc (x2, x5 + 1, M) rfl)

theorem X12_shares_B44_ok {w : Gw} {d : Nat} {x0 : Nat} {x1 : Int32} {x3 : Int32} {x4 : Int32} {q : Int32 × Int32 × Gm} {o : Go} {M' : Gm} {out : (Int32 × Int32 × Gm) ⊕ (Int32 × Gm)} (h : X12_shares_B44 x0 x1 x3 x4 q = some out) (hc : ∀ t : Int32 × Int32 × Gm, out = .inl t → Wp w mdX12_shares (d + 2) 44 [some (.inr x0), some (.inl x1), some (.inl t.1), some (.inl x3), some (.inl x4), some (.inl t.2.1), none] [] t.2.2 o M') (he0 : ∀ t : Int32 × Gm, out = .inr t → Wp w mdX12_shares (d + 2) 113 [some (.inr x0), some (.inl x1), some (.inl t.1), none, none, none, none] [] t.2 o M') : Wp w mdX12_shares (d + 2) 44 [some (.inr x0), some (.inl x1), some (.inl q.1), some (.inl x3), some (.inl x4), some (.inl q.2.1), none] [] q.2.2 o M' := by
  unfold X12_shares_B44 at h
  refine wp_iload dX12_shares_44 rfl ?_
  refine wp_aload_n dX12_shares_46 rfl ?_
  obtain ⟨q1, e2, h⟩ := bnd h
  refine wp_callV (As := []) dX12_shares_47 (sh_X12_devices_ok (d := d + 1) e2) okX12_devices nnX12_devices vvX12_devices ml_RX12_263 rfl (Nat.le_of_ble_eq_true rfl) ?_
  refine wp_icmp_ge (tgt := 113) dX12_shares_50 (by decide) (fun hc_ => ?_) (fun hc_ => ?_)
  · replace h := ite_t hc_ h
    cases h
    exact wp_ls (lsS (lsS (lsS (lsN (lsN (lsN (lsN lsZ))))))) (he0 (q.1, q.2.2) rfl)
  · replace h := ite_f hc_ h
    refine wp_aload_n dX12_shares_53 rfl ?_
    refine wp_iload_n dX12_shares_54 rfl ?_
    refine wp_iload dX12_shares_55 rfl ?_
    obtain ⟨q3, e4, h⟩ := bnd h
    refine wp_callV (As := [.inl x1, .inl q.2.1]) dX12_shares_57 (sh_X12_weight_ok (d := d + 1) e4) okX12_weight nnX12_weight vvX12_weight ml_RX12_294 rfl (Nat.le_of_ble_eq_true rfl) ?_
    refine wp_if_ne (tgt := 66) dX12_shares_60 (by decide) (fun hc_ => ?_) (fun hc_ => ?_)
    · replace h := ite_f hc_ h
      refine wp_aload_n dX12_shares_66 rfl ?_
      obtain ⟨v5, e6, h⟩ := bnd h
      refine wp_getR (c := 12) (k := 6) dX12_shares_67 e6 (by decide) (by decide) rfl fl_RX12_62 ?_
      refine wp_bipush (v := 67) dX12_shares_70 (by decide) ?_
      refine wp_iload dX12_shares_72 rfl ?_
      refine wp_iadd dX12_shares_74 ?_
      obtain ⟨v7, e8, h⟩ := bnd h
      refine wp_iaload dX12_shares_75 e8 ?_
      refine wp_iload_n dX12_shares_76 rfl ?_
      refine wp_aload_n dX12_shares_77 rfl ?_
      refine wp_iload_n dX12_shares_78 rfl ?_
      refine wp_iload dX12_shares_79 rfl ?_
      obtain ⟨q9, e10, h⟩ := bnd h
      refine wp_callV (As := [.inl x1, .inl q.2.1]) dX12_shares_81 (sh_X12_weight_ok (d := d + 1) e10) okX12_weight nnX12_weight vvX12_weight ml_RX12_294 rfl (Nat.le_of_ble_eq_true rfl) ?_
      refine wp_imul dX12_shares_84 ?_
      refine wp_iload dX12_shares_85 rfl ?_
      obtain ⟨v11, e12, h⟩ := bnd h
      refine wp_idiv dX12_shares_87 e12 ?_
      obtain ⟨q13, e14, h⟩ := bnd h
      refine wp_callS (As := [.inl v7, .inl v11]) dX12_shares_88 (sh_J9_min_7cf53_ok (d := d + 1) e14) okJ9_min_7cf53 nnJ9_min_7cf53 ssJ9_min_7cf53 ml_RX12_164 rfl (Nat.le_of_ble_eq_true rfl) ?_
      refine wp_istore dX12_shares_91 (Nat.le_of_ble_eq_true rfl) ?_
      refine wp_aload_n dX12_shares_93 rfl ?_
      refine wp_iload_n dX12_shares_94 rfl ?_
      refine wp_iload dX12_shares_95 rfl ?_
      refine wp_iload dX12_shares_97 rfl ?_
      obtain ⟨q15, e16, h⟩ := bnd h
      refine wp_callV (As := [.inl x1, .inl q.2.1, .inl q13]) dX12_shares_99 (sh_X12_wants_ok (d := d + 1) e16) okX12_wants nnX12_wants vvX12_wants ml_RX12_303 rfl (Nat.le_of_ble_eq_true rfl) ?_
      refine wp_iload_n dX12_shares_102 rfl ?_
      refine wp_iload dX12_shares_103 rfl ?_
      refine wp_isub dX12_shares_105 ?_
      refine wp_istore_n dX12_shares_106 (Nat.le_of_ble_eq_true rfl) ?_
      exact wp_ls (lsS (lsS (lsS (lsS (lsS (lsS (lsN lsZ))))))) (X12_shares_J107_ok h hc he0)
    · replace h := ite_t hc_ h
      refine wp_goto (tgt := 107) dX12_shares_63 (by decide) ?_
      exact wp_ls (lsS (lsS (lsS (lsS (lsS (lsS (lsN lsZ))))))) (X12_shares_J107_ok h hc he0)

theorem X12_shares_B44_lp {w : Gw} {d : Nat} {x0 : Nat} {x1 : Int32} {x3 : Int32} {x4 : Int32} {o : Go} {M' : Gm} {r : (Int32 × Gm)} : ∀ (n : Nat) (q : Int32 × Int32 × Gm), lp (X12_shares_B44 x0 x1 x3 x4) n q = some r → (∀ t : Int32 × Gm, r = t → Wp w mdX12_shares (d + 2) 113 [some (.inr x0), some (.inl x1), some (.inl t.1), none, none, none, none] [] t.2 o M') → Wp w mdX12_shares (d + 2) 44 [some (.inr x0), some (.inl x1), some (.inl q.1), some (.inl x3), some (.inl x4), some (.inl q.2.1), none] [] q.2.2 o M' := by
  intro n
  induction n with
  | zero => intro q h; cases h
  | succ n ih =>
    intro q h he0
    cases hb : X12_shares_B44 x0 x1 x3 x4 q with
    | none => rw [lp_succ, hb] at h; cases h
    | some out =>
      rw [lp_succ, hb] at h
      exact X12_shares_B44_ok hb (fun t e => ih t (by rw [e] at h; exact h) he0) (fun t e => he0 t (by rw [e] at h; cases h; rfl))
theorem X12_shares_B116_ok {w : Gw} {d : Nat} {x0 : Nat} {x1 : Int32} {x2 : Int32} {q : Int32 × Gm} {o : Go} {M' : Gm} {out : (Int32 × Gm) ⊕ Gm} (h : X12_shares_B116 x0 x1 x2 q = some out) (hc : ∀ t : Int32 × Gm, out = .inl t → Wp w mdX12_shares (d + 2) 116 [some (.inr x0), some (.inl x1), some (.inl x2), none, none, some (.inl t.1), none] [] t.2 o M') (he0 : ∀ t : Gm, out = .inr t → Wp w mdX12_shares (d + 2) 137 [some (.inr x0), some (.inl x1), some (.inl x2), none, none, none, none] [] t o M') : Wp w mdX12_shares (d + 2) 116 [some (.inr x0), some (.inl x1), some (.inl x2), none, none, some (.inl q.1), none] [] q.2 o M' := by
  unfold X12_shares_B116 at h
  refine wp_iload dX12_shares_116 rfl ?_
  refine wp_bipush (v := 6) dX12_shares_118 (by decide) ?_
  refine wp_icmp_ge (tgt := 137) dX12_shares_120 (by decide) (fun hc_ => ?_) (fun hc_ => ?_)
  · replace h := ite_t hc_ h
    cases h
    exact wp_ls (lsS (lsS (lsS (lsN (lsN (lsN (lsN lsZ))))))) (he0 q.2 rfl)
  · replace h := ite_f hc_ h
    refine wp_aload_n dX12_shares_123 rfl ?_
    obtain ⟨v1, e2, h⟩ := bnd h
    refine wp_getR (c := 12) (k := 23) dX12_shares_124 e2 (by decide) (by decide) rfl fl_RX12_84 ?_
    refine wp_iload dX12_shares_127 rfl ?_
    refine wp_iconst (v := 0) dX12_shares_129 (by decide) ?_
    obtain ⟨M3, e4, h⟩ := bnd h
    refine wp_zastore dX12_shares_130 e4 ?_
    refine wp_iinc (v := q.1 + 1) dX12_shares_131 rfl rfl ?_
    refine wp_goto (tgt := 116) dX12_shares_134 (by decide) ?_
    cases h
    exact wp_ls (lsS (lsS (lsS (lsN (lsN (lsS (lsN lsZ))))))) (hc (q.1 + 1, M3) rfl)

theorem X12_shares_B116_lp {w : Gw} {d : Nat} {x0 : Nat} {x1 : Int32} {x2 : Int32} {o : Go} {M' : Gm} {r : Gm} : ∀ (n : Nat) (q : Int32 × Gm), lp (X12_shares_B116 x0 x1 x2) n q = some r → (∀ t : Gm, r = t → Wp w mdX12_shares (d + 2) 137 [some (.inr x0), some (.inl x1), some (.inl x2), none, none, none, none] [] t o M') → Wp w mdX12_shares (d + 2) 116 [some (.inr x0), some (.inl x1), some (.inl x2), none, none, some (.inl q.1), none] [] q.2 o M' := by
  intro n
  induction n with
  | zero => intro q h; cases h
  | succ n ih =>
    intro q h he0
    cases hb : X12_shares_B116 x0 x1 x2 q with
    | none => rw [lp_succ, hb] at h; cases h
    | some out =>
      rw [lp_succ, hb] at h
      exact X12_shares_B116_ok hb (fun t e => ih t (by rw [e] at h; exact h) he0) (fun t e => he0 t (by rw [e] at h; cases h; rfl))
theorem X12_shares_B157_ok {w : Gw} {d : Nat} {x0 : Nat} {x1 : Int32} {x2 : Int32} {q : Int32 × Gm} {o : Go} {M' : Gm} {out : (Int32 × Gm) ⊕ Gm} (h : X12_shares_B157 x0 x1 x2 q = some out) (hc : ∀ t : Int32 × Gm, out = .inl t → Wp w mdX12_shares (d + 2) 157 [some (.inr x0), some (.inl x1), some (.inl x2), none, none, none, some (.inl t.1)] [] t.2 o M') (he0 : ∀ t : Gm, out = .inr t → Wp w mdX12_shares (d + 2) 178 [some (.inr x0), some (.inl x1), some (.inl x2), none, none, none, none] [] t o M') : Wp w mdX12_shares (d + 2) 157 [some (.inr x0), some (.inl x1), some (.inl x2), none, none, none, some (.inl q.1)] [] q.2 o M' := by
  unfold X12_shares_B157 at h
  refine wp_iload dX12_shares_157 rfl ?_
  refine wp_bipush (v := 6) dX12_shares_159 (by decide) ?_
  refine wp_icmp_ge (tgt := 178) dX12_shares_161 (by decide) (fun hc_ => ?_) (fun hc_ => ?_)
  · replace h := ite_t hc_ h
    cases h
    exact wp_ls (lsS (lsS (lsS (lsN (lsN (lsN (lsN lsZ))))))) (he0 q.2 rfl)
  · replace h := ite_f hc_ h
    refine wp_aload_n dX12_shares_164 rfl ?_
    obtain ⟨v1, e2, h⟩ := bnd h
    refine wp_getR (c := 12) (k := 23) dX12_shares_165 e2 (by decide) (by decide) rfl fl_RX12_84 ?_
    refine wp_iload dX12_shares_168 rfl ?_
    refine wp_iconst (v := 0) dX12_shares_170 (by decide) ?_
    obtain ⟨M3, e4, h⟩ := bnd h
    refine wp_zastore dX12_shares_171 e4 ?_
    refine wp_iinc (v := q.1 + 1) dX12_shares_172 rfl rfl ?_
    refine wp_goto (tgt := 157) dX12_shares_175 (by decide) ?_
    cases h
    exact wp_ls (lsS (lsS (lsS (lsN (lsN (lsN (lsS lsZ))))))) (hc (q.1 + 1, M3) rfl)

theorem X12_shares_B157_lp {w : Gw} {d : Nat} {x0 : Nat} {x1 : Int32} {x2 : Int32} {o : Go} {M' : Gm} {r : Gm} : ∀ (n : Nat) (q : Int32 × Gm), lp (X12_shares_B157 x0 x1 x2) n q = some r → (∀ t : Gm, r = t → Wp w mdX12_shares (d + 2) 178 [some (.inr x0), some (.inl x1), some (.inl x2), none, none, none, none] [] t o M') → Wp w mdX12_shares (d + 2) 157 [some (.inr x0), some (.inl x1), some (.inl x2), none, none, none, some (.inl q.1)] [] q.2 o M' := by
  intro n
  induction n with
  | zero => intro q h; cases h
  | succ n ih =>
    intro q h he0
    cases hb : X12_shares_B157 x0 x1 x2 q with
    | none => rw [lp_succ, hb] at h; cases h
    | some out =>
      rw [lp_succ, hb] at h
      exact X12_shares_B157_ok hb (fun t e => ih t (by rw [e] at h; exact h) he0) (fun t e => he0 t (by rw [e] at h; cases h; rfl))
theorem X12_shares_B137_ok {w : Gw} {d : Nat} {x0 : Nat} {x1 : Int32} {q : Int32 × Gm} {o : Go} {M' : Gm} {out : (Int32 × Gm) ⊕ Gm} (h : X12_shares_B137 x0 x1 q = some out) (hc : ∀ t : Int32 × Gm, out = .inl t → Wp w mdX12_shares (d + 2) 137 [some (.inr x0), some (.inl x1), some (.inl t.1), none, none, none, none] [] t.2 o M') (he0 : ∀ t : Gm, out = .inr t → Wp w mdX12_shares (d + 2) 211 [none, none, none, none, none, none, none] [] t o M') : Wp w mdX12_shares (d + 2) 137 [some (.inr x0), some (.inl x1), some (.inl q.1), none, none, none, none] [] q.2 o M' := by
  unfold X12_shares_B137 at h
  refine wp_iload_n dX12_shares_137 rfl ?_
  refine wp_if_le (tgt := 211) dX12_shares_138 (by decide) (fun hc_ => ?_) (fun hc_ => ?_)
  · replace h := ite_t hc_ h
    cases h
    exact wp_ls (lsN (lsN (lsN (lsN (lsN (lsN (lsN lsZ))))))) (he0 q.2 rfl)
  · replace h := ite_f hc_ h
    refine wp_aload_n dX12_shares_141 rfl ?_
    refine wp_iload_n dX12_shares_142 rfl ?_
    obtain ⟨q1, e2, h⟩ := bnd h
    refine wp_callV (As := [.inl x1]) dX12_shares_143 (sh_X12_nextGiven_ok (d := d) e2) okX12_nextGiven nnX12_nextGiven vvX12_nextGiven ml_RX12_309 rfl (Nat.le_of_ble_eq_true rfl) ?_
    refine wp_istore dX12_shares_146 (Nat.le_of_ble_eq_true rfl) ?_
    refine wp_iload dX12_shares_148 rfl ?_
    refine wp_iconst (v := (-1)) dX12_shares_150 (by decide) ?_
    refine wp_icmp_ne (tgt := 181) dX12_shares_151 (by decide) (fun hc_ => ?_) (fun hc_ => ?_)
    · replace h := ite_f hc_ h
      refine wp_aload_n dX12_shares_181 rfl ?_
      obtain ⟨v3, e4, h⟩ := bnd h
      refine wp_getR (c := 12) (k := 23) dX12_shares_182 e4 (by decide) (by decide) rfl fl_RX12_84 ?_
      refine wp_iload dX12_shares_185 rfl ?_
      refine wp_iconst (v := 1) dX12_shares_187 (by decide) ?_
      obtain ⟨M5, e6, h⟩ := bnd h
      refine wp_zastore dX12_shares_188 e6 ?_
      refine wp_aload_n dX12_shares_189 rfl ?_
      refine wp_iload_n dX12_shares_190 rfl ?_
      refine wp_iload dX12_shares_191 rfl ?_
      refine wp_aload_n dX12_shares_193 rfl ?_
      refine wp_iload_n dX12_shares_194 rfl ?_
      refine wp_iload dX12_shares_195 rfl ?_
      obtain ⟨q7, e8, h⟩ := bnd h
      refine wp_callV (As := [.inl x1, .inl q1]) dX12_shares_197 (sh_X12_wanted_ok (d := d + 1) e8) okX12_wanted nnX12_wanted vvX12_wanted ml_RX12_300 rfl (Nat.le_of_ble_eq_true rfl) ?_
      refine wp_iconst (v := 1) dX12_shares_200 (by decide) ?_
      refine wp_iadd dX12_shares_201 ?_
      obtain ⟨q9, e10, h⟩ := bnd h
      refine wp_callV (As := [.inl x1, .inl q1, .inl (q7 + 1)]) dX12_shares_202 (sh_X12_wants_ok (d := d + 1) e10) okX12_wants nnX12_wants vvX12_wants ml_RX12_303 rfl (Nat.le_of_ble_eq_true rfl) ?_
      refine wp_iinc (v := q.1 + (-1)) dX12_shares_205 rfl rfl ?_
      refine wp_goto (tgt := 137) dX12_shares_208 (by decide) ?_
      cases h
      exact wp_ls (lsS (lsS (lsS (lsN (lsN (lsN (lsN lsZ))))))) (hc (q.1 + (-1), q9) rfl)
    · replace h := ite_t hc_ h
      refine wp_iconst (v := 0) dX12_shares_154 (by decide) ?_
      refine wp_istore dX12_shares_155 (Nat.le_of_ble_eq_true rfl) ?_
      obtain ⟨r11, e12, h⟩ := bnd h
      refine wp_ls (lsS (lsS (lsS (lsN (lsN (lsN (lsS lsZ))))))) (X12_shares_B157_lp FU _ e12 ?_)
      intro t_ ht_; cases ht_
      refine wp_goto (tgt := 137) dX12_shares_178 (by decide) ?_
      cases h
      exact wp_ls (lsS (lsS (lsS (lsN (lsN (lsN (lsN lsZ))))))) (hc (q.1, r11) rfl)

theorem X12_shares_B137_lp {w : Gw} {d : Nat} {x0 : Nat} {x1 : Int32} {o : Go} {M' : Gm} {r : Gm} : ∀ (n : Nat) (q : Int32 × Gm), lp (X12_shares_B137 x0 x1) n q = some r → (∀ t : Gm, r = t → Wp w mdX12_shares (d + 2) 211 [none, none, none, none, none, none, none] [] t o M') → Wp w mdX12_shares (d + 2) 137 [some (.inr x0), some (.inl x1), some (.inl q.1), none, none, none, none] [] q.2 o M' := by
  intro n
  induction n with
  | zero => intro q h; cases h
  | succ n ih =>
    intro q h he0
    cases hb : X12_shares_B137 x0 x1 q with
    | none => rw [lp_succ, hb] at h; cases h
    | some out =>
      rw [lp_succ, hb] at h
      exact X12_shares_B137_ok hb (fun t e => ih t (by rw [e] at h; exact h) he0) (fun t e => he0 t (by rw [e] at h; cases h; rfl))
theorem X12_shares_F_ok {w : Gw} {d : Nat} {x0 : Nat} {x1 : Int32} {M : Gm} {out : Gm} (h : X12_shares_F x0 x1 M = some out) : Wp w mdX12_shares (d + 2) 0 [some (.inr x0), some (.inl x1), none, none, none, none, none] [] M (.inl none) out := by
  unfold X12_shares_F at h
  refine wp_aload_n dX12_shares_0 rfl ?_
  refine wp_iload_n dX12_shares_1 rfl ?_
  obtain ⟨q1, e2, h⟩ := bnd h
  refine wp_callV (As := [.inl x1]) dX12_shares_2 (sh_X12_askedOf_ok (d := d) e2) okX12_askedOf nnX12_askedOf vvX12_askedOf ml_RX12_306 rfl (Nat.le_of_ble_eq_true rfl) ?_
  refine wp_istore_n dX12_shares_5 (Nat.le_of_ble_eq_true rfl) ?_
  refine wp_iload_n dX12_shares_6 rfl ?_
  refine wp_istore_n dX12_shares_7 (Nat.le_of_ble_eq_true rfl) ?_
  refine wp_iconst (v := 0) dX12_shares_8 (by decide) ?_
  refine wp_istore dX12_shares_9 (Nat.le_of_ble_eq_true rfl) ?_
  refine wp_iconst (v := 0) dX12_shares_11 (by decide) ?_
  refine wp_istore dX12_shares_12 (Nat.le_of_ble_eq_true rfl) ?_
  obtain ⟨r3, e4, h⟩ := bnd h
  refine wp_ls (lsS (lsS (lsS (lsS (lsS (lsS (lsN lsZ))))))) (X12_shares_B14_lp FU _ e4 ?_)
  intro t_ ht_; cases ht_
  refine wp_iconst (v := 0) dX12_shares_41 (by decide) ?_
  refine wp_istore dX12_shares_42 (Nat.le_of_ble_eq_true rfl) ?_
  obtain ⟨r5, e6, h⟩ := bnd h
  refine wp_ls (lsS (lsS (lsS (lsS (lsS (lsS (lsN lsZ))))))) (X12_shares_B44_lp FU _ e6 ?_)
  intro t_ ht_; cases ht_
  refine wp_iconst (v := 0) dX12_shares_113 (by decide) ?_
  refine wp_istore dX12_shares_114 (Nat.le_of_ble_eq_true rfl) ?_
  obtain ⟨r7, e8, h⟩ := bnd h
  refine wp_ls (lsS (lsS (lsS (lsN (lsN (lsS (lsN lsZ))))))) (X12_shares_B116_lp FU _ e8 ?_)
  intro t_ ht_; cases ht_
  obtain ⟨r9, e10, h⟩ := bnd h
  refine wp_ls (lsS (lsS (lsS (lsN (lsN (lsN (lsN lsZ))))))) (X12_shares_B137_lp FU _ e10 ?_)
  intro t_ ht_; cases ht_
  cases h
  exact wp_ret dX12_shares_211 rfl

theorem sh_X12_shares_ok {w : Gw} {d : Nat} {x0 : Nat} {x1 : Int32} {M : Gm} {out : Gm} (h : sh_X12_shares x0 x1 M = some out) : Ev w mdX12_shares (d + 2) [.inr x0, .inl x1] M (.inl none) out := by
  obtain ⟨u, e0, h⟩ := bnd h
  exact ev_of okX12_shares ⟨_, _, rfl, isO_of e0 (by decide), by decide⟩ (Nat.le_of_ble_eq_true rfl) (X12_shares_F_ok h)

/-! HeatGovernorModel.isSpent(I)Z -/
def X12_isSpent_J55 (x0 : Nat) (x1 : Int32) (x3 : Int32) (s0 : Int32) (M : Gm) : Option ((Int32 × Int32) ⊕ Int32) :=
  some (.inl (s0, x3 + 1))
def X12_isSpent_J54 (x0 : Nat) (x1 : Int32) (x3 : Int32) (M : Gm) : Option ((Int32 × Int32) ⊕ Int32) :=
  X12_isSpent_J55 x0 x1 x3 0 M
def X12_isSpent_J50 (x0 : Nat) (x1 : Int32) (x3 : Int32) (M : Gm) : Option ((Int32 × Int32) ⊕ Int32) :=
  X12_isSpent_J55 x0 x1 x3 1 M
def X12_isSpent_B4 (x0 : Nat) (x1 : Int32) (M : Gm) (q : Int32 × Int32) : Option ((Int32 × Int32) ⊕ Int32) :=
  (sh_X12_devices x0 M).bind fun q1 =>
  if q1 ≤ q.2 then
    some (.inr q.1)
  else
    if q.1 = 0 then
      X12_isSpent_J54 x0 x1 q.2 M
    else
      (gfR M x0 12 6).bind fun v3 =>
      (ldA M 0 v3 (61 + q.2)).bind fun v5 =>
      if v5 = x1 then
        (gfR M x0 12 5).bind fun v7 =>
        (ldA M 0 v7 (70 + q.2)).bind fun v9 =>
        (gfR M x0 12 6).bind fun v11 =>
        (ldA M 0 v11 (67 + q.2)).bind fun v13 =>
        if v9 = v13 then
          X12_isSpent_J50 x0 x1 q.2 M
        else
          X12_isSpent_J54 x0 x1 q.2 M
      else
        X12_isSpent_J50 x0 x1 q.2 M
def X12_isSpent_F (x0 : Nat) (x1 : Int32) (M : Gm) : Option (Int32) :=
  (lp (X12_isSpent_B4 x0 x1 M) FU (1, 0)).bind fun r1 =>
  (zck r1).bind fun z3 =>
  some z3
def sh_X12_isSpent (x0 : Nat) (x1 : Int32) (M : Gm) : Option (Int32) := (isO M x0 12).bind fun _ => X12_isSpent_F x0 x1 M
theorem X12_isSpent_J55_ok {w : Gw} {d : Nat} {x0 : Nat} {x1 : Int32} {x3 : Int32} {s0 : Int32} {M : Gm} {o : Go} {M' : Gm} {out : (Int32 × Int32) ⊕ Int32} (h : X12_isSpent_J55 x0 x1 x3 s0 M = some out) (hc : ∀ t : Int32 × Int32, out = .inl t → Wp w mdX12_isSpent (d + 1) 4 [some (.inr x0), some (.inl x1), some (.inl t.1), some (.inl t.2)] [] M o M') (he0 : ∀ t : Int32, out = .inr t → Wp w mdX12_isSpent (d + 1) 62 [none, none, some (.inl t), none] [] M o M') : Wp w mdX12_isSpent (d + 1) 55 [some (.inr x0), some (.inl x1), none, some (.inl x3)] [.inl s0] M o M' := by
  unfold X12_isSpent_J55 at h
  refine wp_istore_n dX12_isSpent_55 (Nat.le_of_ble_eq_true rfl) ?_
  refine wp_iinc (v := x3 + 1) dX12_isSpent_56 rfl rfl ?_
  refine wp_goto (tgt := 4) dX12_isSpent_59 (by decide) ?_
  cases h
  exact wp_ls (lsS (lsS (lsS (lsS lsZ)))) (hc (s0, x3 + 1) rfl)

theorem X12_isSpent_J54_ok {w : Gw} {d : Nat} {x0 : Nat} {x1 : Int32} {x3 : Int32} {M : Gm} {o : Go} {M' : Gm} {out : (Int32 × Int32) ⊕ Int32} (h : X12_isSpent_J54 x0 x1 x3 M = some out) (hc : ∀ t : Int32 × Int32, out = .inl t → Wp w mdX12_isSpent (d + 1) 4 [some (.inr x0), some (.inl x1), some (.inl t.1), some (.inl t.2)] [] M o M') (he0 : ∀ t : Int32, out = .inr t → Wp w mdX12_isSpent (d + 1) 62 [none, none, some (.inl t), none] [] M o M') : Wp w mdX12_isSpent (d + 1) 54 [some (.inr x0), some (.inl x1), none, some (.inl x3)] [] M o M' := by
  unfold X12_isSpent_J54 at h
  refine wp_iconst (v := 0) dX12_isSpent_54 (by decide) ?_
  exact wp_ls (lsS (lsS (lsN (lsS lsZ)))) (X12_isSpent_J55_ok h hc he0)

theorem X12_isSpent_J50_ok {w : Gw} {d : Nat} {x0 : Nat} {x1 : Int32} {x3 : Int32} {M : Gm} {o : Go} {M' : Gm} {out : (Int32 × Int32) ⊕ Int32} (h : X12_isSpent_J50 x0 x1 x3 M = some out) (hc : ∀ t : Int32 × Int32, out = .inl t → Wp w mdX12_isSpent (d + 1) 4 [some (.inr x0), some (.inl x1), some (.inl t.1), some (.inl t.2)] [] M o M') (he0 : ∀ t : Int32, out = .inr t → Wp w mdX12_isSpent (d + 1) 62 [none, none, some (.inl t), none] [] M o M') : Wp w mdX12_isSpent (d + 1) 50 [some (.inr x0), some (.inl x1), none, some (.inl x3)] [] M o M' := by
  unfold X12_isSpent_J50 at h
  refine wp_iconst (v := 1) dX12_isSpent_50 (by decide) ?_
  refine wp_goto (tgt := 55) dX12_isSpent_51 (by decide) ?_
  exact wp_ls (lsS (lsS (lsN (lsS lsZ)))) (X12_isSpent_J55_ok h hc he0)

theorem X12_isSpent_B4_ok {w : Gw} {d : Nat} {x0 : Nat} {x1 : Int32} {M : Gm} {q : Int32 × Int32} {o : Go} {M' : Gm} {out : (Int32 × Int32) ⊕ Int32} (h : X12_isSpent_B4 x0 x1 M q = some out) (hc : ∀ t : Int32 × Int32, out = .inl t → Wp w mdX12_isSpent (d + 1) 4 [some (.inr x0), some (.inl x1), some (.inl t.1), some (.inl t.2)] [] M o M') (he0 : ∀ t : Int32, out = .inr t → Wp w mdX12_isSpent (d + 1) 62 [none, none, some (.inl t), none] [] M o M') : Wp w mdX12_isSpent (d + 1) 4 [some (.inr x0), some (.inl x1), some (.inl q.1), some (.inl q.2)] [] M o M' := by
  unfold X12_isSpent_B4 at h
  refine wp_iload_n dX12_isSpent_4 rfl ?_
  refine wp_aload_n dX12_isSpent_5 rfl ?_
  obtain ⟨q1, e2, h⟩ := bnd h
  refine wp_callV (As := []) dX12_isSpent_6 (sh_X12_devices_ok (d := d) e2) okX12_devices nnX12_devices vvX12_devices ml_RX12_263 rfl (Nat.le_of_ble_eq_true rfl) ?_
  refine wp_icmp_ge (tgt := 62) dX12_isSpent_9 (by decide) (fun hc_ => ?_) (fun hc_ => ?_)
  · replace h := ite_t hc_ h
    cases h
    exact wp_ls (lsN (lsN (lsS (lsN lsZ)))) (he0 q.1 rfl)
  · replace h := ite_f hc_ h
    refine wp_iload_n dX12_isSpent_12 rfl ?_
    refine wp_if_eq (tgt := 54) dX12_isSpent_13 (by decide) (fun hc_ => ?_) (fun hc_ => ?_)
    · replace h := ite_t hc_ h
      exact wp_ls (lsS (lsS (lsN (lsS lsZ)))) (X12_isSpent_J54_ok h hc he0)
    · replace h := ite_f hc_ h
      refine wp_aload_n dX12_isSpent_16 rfl ?_
      obtain ⟨v3, e4, h⟩ := bnd h
      refine wp_getR (c := 12) (k := 6) dX12_isSpent_17 e4 (by decide) (by decide) rfl fl_RX12_62 ?_
      refine wp_bipush (v := 61) dX12_isSpent_20 (by decide) ?_
      refine wp_iload_n dX12_isSpent_22 rfl ?_
      refine wp_iadd dX12_isSpent_23 ?_
      obtain ⟨v5, e6, h⟩ := bnd h
      refine wp_iaload dX12_isSpent_24 e6 ?_
      refine wp_iload_n dX12_isSpent_25 rfl ?_
      refine wp_icmp_ne (tgt := 50) dX12_isSpent_26 (by decide) (fun hc_ => ?_) (fun hc_ => ?_)
      · replace h := ite_f hc_ h
        exact wp_ls (lsS (lsS (lsN (lsS lsZ)))) (X12_isSpent_J50_ok h hc he0)
      · replace h := ite_t hc_ h
        refine wp_aload_n dX12_isSpent_29 rfl ?_
        obtain ⟨v7, e8, h⟩ := bnd h
        refine wp_getR (c := 12) (k := 5) dX12_isSpent_30 e8 (by decide) (by decide) rfl fl_RX12_58 ?_
        refine wp_bipush (v := 70) dX12_isSpent_33 (by decide) ?_
        refine wp_iload_n dX12_isSpent_35 rfl ?_
        refine wp_iadd dX12_isSpent_36 ?_
        obtain ⟨v9, e10, h⟩ := bnd h
        refine wp_iaload dX12_isSpent_37 e10 ?_
        refine wp_aload_n dX12_isSpent_38 rfl ?_
        obtain ⟨v11, e12, h⟩ := bnd h
        refine wp_getR (c := 12) (k := 6) dX12_isSpent_39 e12 (by decide) (by decide) rfl fl_RX12_62 ?_
        refine wp_bipush (v := 67) dX12_isSpent_42 (by decide) ?_
        refine wp_iload_n dX12_isSpent_44 rfl ?_
        refine wp_iadd dX12_isSpent_45 ?_
        obtain ⟨v13, e14, h⟩ := bnd h
        refine wp_iaload dX12_isSpent_46 e14 ?_
        refine wp_icmp_ne (tgt := 54) dX12_isSpent_47 (by decide) (fun hc_ => ?_) (fun hc_ => ?_)
        · replace h := ite_f hc_ h
          exact wp_ls (lsS (lsS (lsN (lsS lsZ)))) (X12_isSpent_J54_ok h hc he0)
        · replace h := ite_t hc_ h
          exact wp_ls (lsS (lsS (lsN (lsS lsZ)))) (X12_isSpent_J50_ok h hc he0)

theorem X12_isSpent_B4_lp {w : Gw} {d : Nat} {x0 : Nat} {x1 : Int32} {M : Gm} {o : Go} {M' : Gm} {r : Int32} : ∀ (n : Nat) (q : Int32 × Int32), lp (X12_isSpent_B4 x0 x1 M) n q = some r → (∀ t : Int32, r = t → Wp w mdX12_isSpent (d + 1) 62 [none, none, some (.inl t), none] [] M o M') → Wp w mdX12_isSpent (d + 1) 4 [some (.inr x0), some (.inl x1), some (.inl q.1), some (.inl q.2)] [] M o M' := by
  intro n
  induction n with
  | zero => intro q h; cases h
  | succ n ih =>
    intro q h he0
    cases hb : X12_isSpent_B4 x0 x1 M q with
    | none => rw [lp_succ, hb] at h; cases h
    | some out =>
      rw [lp_succ, hb] at h
      exact X12_isSpent_B4_ok hb (fun t e => ih t (by rw [e] at h; exact h) he0) (fun t e => he0 t (by rw [e] at h; cases h; rfl))
theorem X12_isSpent_F_ok {w : Gw} {d : Nat} {x0 : Nat} {x1 : Int32} {M : Gm} {out : Int32} (h : X12_isSpent_F x0 x1 M = some out) : Wp w mdX12_isSpent (d + 1) 0 [some (.inr x0), some (.inl x1), none, none] [] M (.inl (some (.inl out))) M := by
  unfold X12_isSpent_F at h
  refine wp_iconst (v := 1) dX12_isSpent_0 (by decide) ?_
  refine wp_istore_n dX12_isSpent_1 (Nat.le_of_ble_eq_true rfl) ?_
  refine wp_iconst (v := 0) dX12_isSpent_2 (by decide) ?_
  refine wp_istore_n dX12_isSpent_3 (Nat.le_of_ble_eq_true rfl) ?_
  obtain ⟨r1, e2, h⟩ := bnd h
  refine wp_ls (lsS (lsS (lsS (lsS lsZ)))) (X12_isSpent_B4_lp FU _ e2 ?_)
  intro t_ ht_; cases ht_
  refine wp_iload_n dX12_isSpent_62 rfl ?_
  obtain ⟨z3, e4, h⟩ := bnd h
  obtain ⟨hz_, rfl⟩ := zck_of e4
  cases h
  exact wp_zret dX12_isSpent_63 rfl hz_

theorem sh_X12_isSpent_ok {w : Gw} {d : Nat} {x0 : Nat} {x1 : Int32} {M : Gm} {out : Int32} (h : sh_X12_isSpent x0 x1 M = some out) : Ev w mdX12_isSpent (d + 1) [.inr x0, .inl x1] M (.inl (some (.inl out))) M := by
  obtain ⟨u, e0, h⟩ := bnd h
  exact ev_of okX12_isSpent ⟨_, _, rfl, isO_of e0 (by decide), by decide⟩ (Nat.le_of_ble_eq_true rfl) (X12_isSpent_F_ok h)

/-! HeatGovernorModel.logs(III)V -/
def X12_logs_F (x0 : Nat) (x1 : Int32) (x2 : Int32) (x3 : Int32) (M : Gm) : Option (Gm) :=
  (gfR M x0 12 5).bind fun v1 =>
  (ldA M 0 v1 144).bind fun v3 =>
  (rmI v3 40).bind fun v5 =>
  (gfR M x0 12 5).bind fun v7 =>
  (gfR M x0 12 5).bind fun v9 =>
  (ldA M 0 v9 142).bind fun v11 =>
  (stA M 0 v7 (145 + (4 * v5)) v11).bind fun M13 =>
  (gfR M13 x0 12 5).bind fun v15 =>
  (stA M13 0 v15 ((145 + (4 * v5)) + 1) x1).bind fun M17 =>
  (gfR M17 x0 12 5).bind fun v19 =>
  (stA M17 0 v19 ((145 + (4 * v5)) + 2) x2).bind fun M21 =>
  (gfR M21 x0 12 5).bind fun v23 =>
  (stA M21 0 v23 ((145 + (4 * v5)) + 3) x3).bind fun M25 =>
  (gfR M25 x0 12 5).bind fun v27 =>
  (ldA M25 0 v27 144).bind fun v29 =>
  (stA M25 0 v27 144 (v29 + 1)).bind fun M31 =>
  some M31
def sh_X12_logs (x0 : Nat) (x1 : Int32) (x2 : Int32) (x3 : Int32) (M : Gm) : Option (Gm) := (isO M x0 12).bind fun _ => X12_logs_F x0 x1 x2 x3 M
theorem X12_logs_F_ok {w : Gw} {d : Nat} {x0 : Nat} {x1 : Int32} {x2 : Int32} {x3 : Int32} {M : Gm} {out : Gm} (h : X12_logs_F x0 x1 x2 x3 M = some out) : Wp w mdX12_logs d 0 [some (.inr x0), some (.inl x1), some (.inl x2), some (.inl x3), none] [] M (.inl none) out := by
  unfold X12_logs_F at h
  refine wp_sipush (v := 145) dX12_logs_0 (by decide) ?_
  refine wp_iconst (v := 4) dX12_logs_3 (by decide) ?_
  refine wp_aload_n dX12_logs_4 rfl ?_
  obtain ⟨v1, e2, h⟩ := bnd h
  refine wp_getR (c := 12) (k := 5) dX12_logs_5 e2 (by decide) (by decide) rfl fl_RX12_58 ?_
  refine wp_sipush (v := 144) dX12_logs_8 (by decide) ?_
  obtain ⟨v3, e4, h⟩ := bnd h
  refine wp_iaload dX12_logs_11 e4 ?_
  refine wp_bipush (v := 40) dX12_logs_12 (by decide) ?_
  obtain ⟨v5, e6, h⟩ := bnd h
  refine wp_irem dX12_logs_14 e6 ?_
  refine wp_imul dX12_logs_15 ?_
  refine wp_iadd dX12_logs_16 ?_
  refine wp_istore dX12_logs_17 (Nat.le_of_ble_eq_true rfl) ?_
  refine wp_aload_n dX12_logs_19 rfl ?_
  obtain ⟨v7, e8, h⟩ := bnd h
  refine wp_getR (c := 12) (k := 5) dX12_logs_20 e8 (by decide) (by decide) rfl fl_RX12_58 ?_
  refine wp_iload dX12_logs_23 rfl ?_
  refine wp_aload_n dX12_logs_25 rfl ?_
  obtain ⟨v9, e10, h⟩ := bnd h
  refine wp_getR (c := 12) (k := 5) dX12_logs_26 e10 (by decide) (by decide) rfl fl_RX12_58 ?_
  refine wp_sipush (v := 142) dX12_logs_29 (by decide) ?_
  obtain ⟨v11, e12, h⟩ := bnd h
  refine wp_iaload dX12_logs_32 e12 ?_
  obtain ⟨M13, e14, h⟩ := bnd h
  refine wp_iastore dX12_logs_33 e14 ?_
  refine wp_aload_n dX12_logs_34 rfl ?_
  obtain ⟨v15, e16, h⟩ := bnd h
  refine wp_getR (c := 12) (k := 5) dX12_logs_35 e16 (by decide) (by decide) rfl fl_RX12_58 ?_
  refine wp_iload dX12_logs_38 rfl ?_
  refine wp_iconst (v := 1) dX12_logs_40 (by decide) ?_
  refine wp_iadd dX12_logs_41 ?_
  refine wp_iload_n dX12_logs_42 rfl ?_
  obtain ⟨M17, e18, h⟩ := bnd h
  refine wp_iastore dX12_logs_43 e18 ?_
  refine wp_aload_n dX12_logs_44 rfl ?_
  obtain ⟨v19, e20, h⟩ := bnd h
  refine wp_getR (c := 12) (k := 5) dX12_logs_45 e20 (by decide) (by decide) rfl fl_RX12_58 ?_
  refine wp_iload dX12_logs_48 rfl ?_
  refine wp_iconst (v := 2) dX12_logs_50 (by decide) ?_
  refine wp_iadd dX12_logs_51 ?_
  refine wp_iload_n dX12_logs_52 rfl ?_
  obtain ⟨M21, e22, h⟩ := bnd h
  refine wp_iastore dX12_logs_53 e22 ?_
  refine wp_aload_n dX12_logs_54 rfl ?_
  obtain ⟨v23, e24, h⟩ := bnd h
  refine wp_getR (c := 12) (k := 5) dX12_logs_55 e24 (by decide) (by decide) rfl fl_RX12_58 ?_
  refine wp_iload dX12_logs_58 rfl ?_
  refine wp_iconst (v := 3) dX12_logs_60 (by decide) ?_
  refine wp_iadd dX12_logs_61 ?_
  refine wp_iload_n dX12_logs_62 rfl ?_
  obtain ⟨M25, e26, h⟩ := bnd h
  refine wp_iastore dX12_logs_63 e26 ?_
  refine wp_aload_n dX12_logs_64 rfl ?_
  obtain ⟨v27, e28, h⟩ := bnd h
  refine wp_getR (c := 12) (k := 5) dX12_logs_65 e28 (by decide) (by decide) rfl fl_RX12_58 ?_
  refine wp_sipush (v := 144) dX12_logs_68 (by decide) ?_
  refine wp_dup2 dX12_logs_71 ?_
  obtain ⟨v29, e30, h⟩ := bnd h
  refine wp_iaload dX12_logs_72 e30 ?_
  refine wp_iconst (v := 1) dX12_logs_73 (by decide) ?_
  refine wp_iadd dX12_logs_74 ?_
  obtain ⟨M31, e32, h⟩ := bnd h
  refine wp_iastore dX12_logs_75 e32 ?_
  cases h
  exact wp_ret dX12_logs_76 rfl

theorem sh_X12_logs_ok {w : Gw} {d : Nat} {x0 : Nat} {x1 : Int32} {x2 : Int32} {x3 : Int32} {M : Gm} {out : Gm} (h : sh_X12_logs x0 x1 x2 x3 M = some out) : Ev w mdX12_logs d [.inr x0, .inl x1, .inl x2, .inl x3] M (.inl none) out := by
  obtain ⟨u, e0, h⟩ := bnd h
  exact ev_of okX12_logs ⟨_, _, rfl, isO_of e0 (by decide), by decide⟩ (Nat.le_of_ble_eq_true rfl) (X12_logs_F_ok h)

/-! HeatGovernorModel.shuts(I)V -/
def X12_shuts_J32 (M : Gm) : Option (Gm) :=
  some M
def X12_shuts_J183 (x1 : Int32) (x2 : Int32) (s0 : Nat) (s1 : Int32) (M : Gm) : Option (Gm) :=
  (sh_X12_logs s0 s1 x2 x1 M).bind fun q1 =>
  some q1
def X12_shuts_J163 (x0 : Nat) (x1 : Int32) (x2 : Int32) (s0 : Nat) (s1 : Int32) (s2 : Int32) (M : Gm) : Option (Gm) :=
  (stA M 0 s0 s1 s2).bind fun M1 =>
  (gfR M1 x0 12 5).bind fun v3 =>
  (ldA M1 0 v3 (50 + x1)).bind fun v5 =>
  if v5 = 1 then
    X12_shuts_J183 x1 x2 x0 3 M1
  else
    X12_shuts_J183 x1 x2 x0 4 M1
def X12_shuts_J127 (x0 : Nat) (x1 : Int32) (x2 : Int32) (M : Gm) : Option (Gm) :=
  (gfR M x0 12 5).bind fun v1 =>
  (stA M 0 v1 (10 + x2) 1).bind fun M3 =>
  (gfR M3 x0 12 5).bind fun v5 =>
  (gfR M3 x0 12 5).bind fun v7 =>
  (ldA M3 0 v7 (50 + x1)).bind fun v9 =>
  if v9 = 1 then
    X12_shuts_J163 x0 x1 x2 v5 (15 + x2) 1 M3
  else
    X12_shuts_J163 x0 x1 x2 v5 (15 + x2) 2 M3
def X12_shuts_J109 (x0 : Nat) (x1 : Int32) (x2 : Int32) (s0 : Int32) (M : Gm) : Option (Gm) :=
  (gfR M x0 12 5).bind fun v1 =>
  (ldA M 0 v1 (50 + x1)).bind fun v3 =>
  if v3 = 0 then
    if s0 = 0 then
      some M
    else
      X12_shuts_J127 x0 x1 x2 M
  else
    X12_shuts_J127 x0 x1 x2 M
def X12_shuts_J108 (x0 : Nat) (x1 : Int32) (x2 : Int32) (M : Gm) : Option (Gm) :=
  X12_shuts_J109 x0 x1 x2 0 M
def X12_shuts_F (x0 : Nat) (x1 : Int32) (M : Gm) : Option (Gm) :=
  (sh_X12_zoneOf x0 x1 M).bind fun q1 =>
  (gfR M x0 12 6).bind fun v3 =>
  (ldA M 0 v3 (25 + x1)).bind fun v5 =>
  if v5 = 3 then
    (gfR M x0 12 5).bind fun v7 =>
    (ldA M 0 v7 (10 + q1)).bind fun v9 =>
    if v9 = 1 then
      X12_shuts_J32 M
    else
      (gfR M x0 12 5).bind fun v11 =>
      (ldA M 0 v11 143).bind fun v13 =>
      if v13 ≤ 0 then
        X12_shuts_J108 x0 x1 q1 M
      else
        (gfR M x0 12 5).bind fun v15 =>
        (ldA M 0 v15 (25 + q1)).bind fun v17 =>
        if v17 ≤ 0 then
          X12_shuts_J108 x0 x1 q1 M
        else
          (sh_X12_isSpent x0 q1 M).bind fun q19 =>
          if q19 = 0 then
            X12_shuts_J108 x0 x1 q1 M
          else
            (gfR M x0 12 5).bind fun v21 =>
            (ldA M 0 v21 (20 + q1)).bind fun v23 =>
            (gfR M x0 12 5).bind fun v25 =>
            (ldA M 0 v25 (25 + q1)).bind fun v27 =>
            (gfR M x0 12 5).bind fun v29 =>
            (ldA M 0 v29 143).bind fun v31 =>
            (gfR M x0 12 6).bind fun v33 =>
            (ldA M 0 v33 (35 + x1)).bind fun v35 =>
            if (v23 + (v27 * v31)) < v35 then
              X12_shuts_J108 x0 x1 q1 M
            else
              X12_shuts_J109 x0 x1 q1 1 M
  else
    X12_shuts_J32 M
def sh_X12_shuts (x0 : Nat) (x1 : Int32) (M : Gm) : Option (Gm) := (isO M x0 12).bind fun _ => X12_shuts_F x0 x1 M
theorem X12_shuts_J32_ok {w : Gw} {d : Nat} {M : Gm} {out : Gm} (h : X12_shuts_J32 M = some out) : Wp w mdX12_shuts (d + 2) 32 [none, none, none, none] [] M (.inl none) out := by
  unfold X12_shuts_J32 at h
  cases h
  exact wp_ret dX12_shuts_32 rfl

theorem X12_shuts_J183_ok {w : Gw} {d : Nat} {x1 : Int32} {x2 : Int32} {s0 : Nat} {s1 : Int32} {M : Gm} {out : Gm} (h : X12_shuts_J183 x1 x2 s0 s1 M = some out) : Wp w mdX12_shuts (d + 2) 183 [none, some (.inl x1), some (.inl x2), none] [.inl s1, .inr s0] M (.inl none) out := by
  unfold X12_shuts_J183 at h
  refine wp_iload_n dX12_shuts_183 rfl ?_
  refine wp_iload_n dX12_shuts_184 rfl ?_
  obtain ⟨q1, e2, h⟩ := bnd h
  refine wp_callV (As := [.inl s1, .inl x2, .inl x1]) dX12_shuts_185 (sh_X12_logs_ok (d := d + 1) e2) okX12_logs nnX12_logs vvX12_logs ml_RX12_290 rfl (Nat.le_of_ble_eq_true rfl) ?_
  cases h
  exact wp_ret dX12_shuts_188 rfl

theorem X12_shuts_J163_ok {w : Gw} {d : Nat} {x0 : Nat} {x1 : Int32} {x2 : Int32} {s0 : Nat} {s1 : Int32} {s2 : Int32} {M : Gm} {out : Gm} (h : X12_shuts_J163 x0 x1 x2 s0 s1 s2 M = some out) : Wp w mdX12_shuts (d + 2) 163 [some (.inr x0), some (.inl x1), some (.inl x2), none] [.inl s2, .inl s1, .inr s0] M (.inl none) out := by
  unfold X12_shuts_J163 at h
  obtain ⟨M1, e2, h⟩ := bnd h
  refine wp_iastore dX12_shuts_163 e2 ?_
  refine wp_aload_n dX12_shuts_164 rfl ?_
  refine wp_aload_n dX12_shuts_165 rfl ?_
  obtain ⟨v3, e4, h⟩ := bnd h
  refine wp_getR (c := 12) (k := 5) dX12_shuts_166 e4 (by decide) (by decide) rfl fl_RX12_58 ?_
  refine wp_bipush (v := 50) dX12_shuts_169 (by decide) ?_
  refine wp_iload_n dX12_shuts_171 rfl ?_
  refine wp_iadd dX12_shuts_172 ?_
  obtain ⟨v5, e6, h⟩ := bnd h
  refine wp_iaload dX12_shuts_173 e6 ?_
  refine wp_iconst (v := 1) dX12_shuts_174 (by decide) ?_
  refine wp_icmp_ne (tgt := 182) dX12_shuts_175 (by decide) (fun hc_ => ?_) (fun hc_ => ?_)
  · replace h := ite_f hc_ h
    refine wp_iconst (v := 4) dX12_shuts_182 (by decide) ?_
    exact wp_ls (lsN (lsS (lsS (lsN lsZ)))) (X12_shuts_J183_ok h)
  · replace h := ite_t hc_ h
    refine wp_iconst (v := 3) dX12_shuts_178 (by decide) ?_
    refine wp_goto (tgt := 183) dX12_shuts_179 (by decide) ?_
    exact wp_ls (lsN (lsS (lsS (lsN lsZ)))) (X12_shuts_J183_ok h)

theorem X12_shuts_J127_ok {w : Gw} {d : Nat} {x0 : Nat} {x1 : Int32} {x2 : Int32} {M : Gm} {out : Gm} (h : X12_shuts_J127 x0 x1 x2 M = some out) : Wp w mdX12_shuts (d + 2) 127 [some (.inr x0), some (.inl x1), some (.inl x2), none] [] M (.inl none) out := by
  unfold X12_shuts_J127 at h
  refine wp_aload_n dX12_shuts_127 rfl ?_
  obtain ⟨v1, e2, h⟩ := bnd h
  refine wp_getR (c := 12) (k := 5) dX12_shuts_128 e2 (by decide) (by decide) rfl fl_RX12_58 ?_
  refine wp_bipush (v := 10) dX12_shuts_131 (by decide) ?_
  refine wp_iload_n dX12_shuts_133 rfl ?_
  refine wp_iadd dX12_shuts_134 ?_
  refine wp_iconst (v := 1) dX12_shuts_135 (by decide) ?_
  obtain ⟨M3, e4, h⟩ := bnd h
  refine wp_iastore dX12_shuts_136 e4 ?_
  refine wp_aload_n dX12_shuts_137 rfl ?_
  obtain ⟨v5, e6, h⟩ := bnd h
  refine wp_getR (c := 12) (k := 5) dX12_shuts_138 e6 (by decide) (by decide) rfl fl_RX12_58 ?_
  refine wp_bipush (v := 15) dX12_shuts_141 (by decide) ?_
  refine wp_iload_n dX12_shuts_143 rfl ?_
  refine wp_iadd dX12_shuts_144 ?_
  refine wp_aload_n dX12_shuts_145 rfl ?_
  obtain ⟨v7, e8, h⟩ := bnd h
  refine wp_getR (c := 12) (k := 5) dX12_shuts_146 e8 (by decide) (by decide) rfl fl_RX12_58 ?_
  refine wp_bipush (v := 50) dX12_shuts_149 (by decide) ?_
  refine wp_iload_n dX12_shuts_151 rfl ?_
  refine wp_iadd dX12_shuts_152 ?_
  obtain ⟨v9, e10, h⟩ := bnd h
  refine wp_iaload dX12_shuts_153 e10 ?_
  refine wp_iconst (v := 1) dX12_shuts_154 (by decide) ?_
  refine wp_icmp_ne (tgt := 162) dX12_shuts_155 (by decide) (fun hc_ => ?_) (fun hc_ => ?_)
  · replace h := ite_f hc_ h
    refine wp_iconst (v := 2) dX12_shuts_162 (by decide) ?_
    exact wp_ls (lsS (lsS (lsS (lsN lsZ)))) (X12_shuts_J163_ok h)
  · replace h := ite_t hc_ h
    refine wp_iconst (v := 1) dX12_shuts_158 (by decide) ?_
    refine wp_goto (tgt := 163) dX12_shuts_159 (by decide) ?_
    exact wp_ls (lsS (lsS (lsS (lsN lsZ)))) (X12_shuts_J163_ok h)

theorem X12_shuts_J109_ok {w : Gw} {d : Nat} {x0 : Nat} {x1 : Int32} {x2 : Int32} {s0 : Int32} {M : Gm} {out : Gm} (h : X12_shuts_J109 x0 x1 x2 s0 M = some out) : Wp w mdX12_shuts (d + 2) 109 [some (.inr x0), some (.inl x1), some (.inl x2), none] [.inl s0] M (.inl none) out := by
  unfold X12_shuts_J109 at h
  refine wp_istore_n dX12_shuts_109 (Nat.le_of_ble_eq_true rfl) ?_
  refine wp_aload_n dX12_shuts_110 rfl ?_
  obtain ⟨v1, e2, h⟩ := bnd h
  refine wp_getR (c := 12) (k := 5) dX12_shuts_111 e2 (by decide) (by decide) rfl fl_RX12_58 ?_
  refine wp_bipush (v := 50) dX12_shuts_114 (by decide) ?_
  refine wp_iload_n dX12_shuts_116 rfl ?_
  refine wp_iadd dX12_shuts_117 ?_
  obtain ⟨v3, e4, h⟩ := bnd h
  refine wp_iaload dX12_shuts_118 e4 ?_
  refine wp_if_ne (tgt := 127) dX12_shuts_119 (by decide) (fun hc_ => ?_) (fun hc_ => ?_)
  · replace h := ite_f hc_ h
    exact wp_ls (lsS (lsS (lsS (lsN lsZ)))) (X12_shuts_J127_ok h)
  · replace h := ite_t hc_ h
    refine wp_iload_n dX12_shuts_122 rfl ?_
    refine wp_if_ne (tgt := 127) dX12_shuts_123 (by decide) (fun hc_ => ?_) (fun hc_ => ?_)
    · replace h := ite_f hc_ h
      exact wp_ls (lsS (lsS (lsS (lsN lsZ)))) (X12_shuts_J127_ok h)
    · replace h := ite_t hc_ h
      cases h
      exact wp_ret dX12_shuts_126 rfl

theorem X12_shuts_J108_ok {w : Gw} {d : Nat} {x0 : Nat} {x1 : Int32} {x2 : Int32} {M : Gm} {out : Gm} (h : X12_shuts_J108 x0 x1 x2 M = some out) : Wp w mdX12_shuts (d + 2) 108 [some (.inr x0), some (.inl x1), some (.inl x2), none] [] M (.inl none) out := by
  unfold X12_shuts_J108 at h
  refine wp_iconst (v := 0) dX12_shuts_108 (by decide) ?_
  exact wp_ls (lsS (lsS (lsS (lsN lsZ)))) (X12_shuts_J109_ok h)

theorem X12_shuts_F_ok {w : Gw} {d : Nat} {x0 : Nat} {x1 : Int32} {M : Gm} {out : Gm} (h : X12_shuts_F x0 x1 M = some out) : Wp w mdX12_shuts (d + 2) 0 [some (.inr x0), some (.inl x1), none, none] [] M (.inl none) out := by
  unfold X12_shuts_F at h
  refine wp_aload_n dX12_shuts_0 rfl ?_
  refine wp_iload_n dX12_shuts_1 rfl ?_
  obtain ⟨q1, e2, h⟩ := bnd h
  refine wp_callV (As := [.inl x1]) dX12_shuts_2 (sh_X12_zoneOf_ok (d := d + 1) e2) okX12_zoneOf nnX12_zoneOf vvX12_zoneOf ml_RX12_287 rfl (Nat.le_of_ble_eq_true rfl) ?_
  refine wp_istore_n dX12_shuts_5 (Nat.le_of_ble_eq_true rfl) ?_
  refine wp_aload_n dX12_shuts_6 rfl ?_
  obtain ⟨v3, e4, h⟩ := bnd h
  refine wp_getR (c := 12) (k := 6) dX12_shuts_7 e4 (by decide) (by decide) rfl fl_RX12_62 ?_
  refine wp_bipush (v := 25) dX12_shuts_10 (by decide) ?_
  refine wp_iload_n dX12_shuts_12 rfl ?_
  refine wp_iadd dX12_shuts_13 ?_
  obtain ⟨v5, e6, h⟩ := bnd h
  refine wp_iaload dX12_shuts_14 e6 ?_
  refine wp_iconst (v := 3) dX12_shuts_15 (by decide) ?_
  refine wp_icmp_ne (tgt := 32) dX12_shuts_16 (by decide) (fun hc_ => ?_) (fun hc_ => ?_)
  · replace h := ite_f hc_ h
    exact wp_ls (lsN (lsN (lsN (lsN lsZ)))) (X12_shuts_J32_ok h)
  · replace h := ite_t hc_ h
    refine wp_aload_n dX12_shuts_19 rfl ?_
    obtain ⟨v7, e8, h⟩ := bnd h
    refine wp_getR (c := 12) (k := 5) dX12_shuts_20 e8 (by decide) (by decide) rfl fl_RX12_58 ?_
    refine wp_bipush (v := 10) dX12_shuts_23 (by decide) ?_
    refine wp_iload_n dX12_shuts_25 rfl ?_
    refine wp_iadd dX12_shuts_26 ?_
    obtain ⟨v9, e10, h⟩ := bnd h
    refine wp_iaload dX12_shuts_27 e10 ?_
    refine wp_iconst (v := 1) dX12_shuts_28 (by decide) ?_
    refine wp_icmp_ne (tgt := 33) dX12_shuts_29 (by decide) (fun hc_ => ?_) (fun hc_ => ?_)
    · replace h := ite_f hc_ h
      refine wp_aload_n dX12_shuts_33 rfl ?_
      obtain ⟨v11, e12, h⟩ := bnd h
      refine wp_getR (c := 12) (k := 5) dX12_shuts_34 e12 (by decide) (by decide) rfl fl_RX12_58 ?_
      refine wp_sipush (v := 143) dX12_shuts_37 (by decide) ?_
      obtain ⟨v13, e14, h⟩ := bnd h
      refine wp_iaload dX12_shuts_40 e14 ?_
      refine wp_if_le (tgt := 108) dX12_shuts_41 (by decide) (fun hc_ => ?_) (fun hc_ => ?_)
      · replace h := ite_t hc_ h
        exact wp_ls (lsS (lsS (lsS (lsN lsZ)))) (X12_shuts_J108_ok h)
      · replace h := ite_f hc_ h
        refine wp_aload_n dX12_shuts_44 rfl ?_
        obtain ⟨v15, e16, h⟩ := bnd h
        refine wp_getR (c := 12) (k := 5) dX12_shuts_45 e16 (by decide) (by decide) rfl fl_RX12_58 ?_
        refine wp_bipush (v := 25) dX12_shuts_48 (by decide) ?_
        refine wp_iload_n dX12_shuts_50 rfl ?_
        refine wp_iadd dX12_shuts_51 ?_
        obtain ⟨v17, e18, h⟩ := bnd h
        refine wp_iaload dX12_shuts_52 e18 ?_
        refine wp_if_le (tgt := 108) dX12_shuts_53 (by decide) (fun hc_ => ?_) (fun hc_ => ?_)
        · replace h := ite_t hc_ h
          exact wp_ls (lsS (lsS (lsS (lsN lsZ)))) (X12_shuts_J108_ok h)
        · replace h := ite_f hc_ h
          refine wp_aload_n dX12_shuts_56 rfl ?_
          refine wp_iload_n dX12_shuts_57 rfl ?_
          obtain ⟨q19, e20, h⟩ := bnd h
          refine wp_callV (As := [.inl q1]) dX12_shuts_58 (sh_X12_isSpent_ok (d := d) e20) okX12_isSpent nnX12_isSpent vvX12_isSpent ml_RX12_318 rfl (Nat.le_of_ble_eq_true rfl) ?_
          refine wp_if_eq (tgt := 108) dX12_shuts_61 (by decide) (fun hc_ => ?_) (fun hc_ => ?_)
          · replace h := ite_t hc_ h
            exact wp_ls (lsS (lsS (lsS (lsN lsZ)))) (X12_shuts_J108_ok h)
          · replace h := ite_f hc_ h
            refine wp_aload_n dX12_shuts_64 rfl ?_
            obtain ⟨v21, e22, h⟩ := bnd h
            refine wp_getR (c := 12) (k := 5) dX12_shuts_65 e22 (by decide) (by decide) rfl fl_RX12_58 ?_
            refine wp_bipush (v := 20) dX12_shuts_68 (by decide) ?_
            refine wp_iload_n dX12_shuts_70 rfl ?_
            refine wp_iadd dX12_shuts_71 ?_
            obtain ⟨v23, e24, h⟩ := bnd h
            refine wp_iaload dX12_shuts_72 e24 ?_
            refine wp_aload_n dX12_shuts_73 rfl ?_
            obtain ⟨v25, e26, h⟩ := bnd h
            refine wp_getR (c := 12) (k := 5) dX12_shuts_74 e26 (by decide) (by decide) rfl fl_RX12_58 ?_
            refine wp_bipush (v := 25) dX12_shuts_77 (by decide) ?_
            refine wp_iload_n dX12_shuts_79 rfl ?_
            refine wp_iadd dX12_shuts_80 ?_
            obtain ⟨v27, e28, h⟩ := bnd h
            refine wp_iaload dX12_shuts_81 e28 ?_
            refine wp_aload_n dX12_shuts_82 rfl ?_
            obtain ⟨v29, e30, h⟩ := bnd h
            refine wp_getR (c := 12) (k := 5) dX12_shuts_83 e30 (by decide) (by decide) rfl fl_RX12_58 ?_
            refine wp_sipush (v := 143) dX12_shuts_86 (by decide) ?_
            obtain ⟨v31, e32, h⟩ := bnd h
            refine wp_iaload dX12_shuts_89 e32 ?_
            refine wp_imul dX12_shuts_90 ?_
            refine wp_iadd dX12_shuts_91 ?_
            refine wp_aload_n dX12_shuts_92 rfl ?_
            obtain ⟨v33, e34, h⟩ := bnd h
            refine wp_getR (c := 12) (k := 6) dX12_shuts_93 e34 (by decide) (by decide) rfl fl_RX12_62 ?_
            refine wp_bipush (v := 35) dX12_shuts_96 (by decide) ?_
            refine wp_iload_n dX12_shuts_98 rfl ?_
            refine wp_iadd dX12_shuts_99 ?_
            obtain ⟨v35, e36, h⟩ := bnd h
            refine wp_iaload dX12_shuts_100 e36 ?_
            refine wp_icmp_lt (tgt := 108) dX12_shuts_101 (by decide) (fun hc_ => ?_) (fun hc_ => ?_)
            · replace h := ite_t hc_ h
              exact wp_ls (lsS (lsS (lsS (lsN lsZ)))) (X12_shuts_J108_ok h)
            · replace h := ite_f hc_ h
              refine wp_iconst (v := 1) dX12_shuts_104 (by decide) ?_
              refine wp_goto (tgt := 109) dX12_shuts_105 (by decide) ?_
              exact wp_ls (lsS (lsS (lsS (lsN lsZ)))) (X12_shuts_J109_ok h)
    · replace h := ite_t hc_ h
      exact wp_ls (lsN (lsN (lsN (lsN lsZ)))) (X12_shuts_J32_ok h)

theorem sh_X12_shuts_ok {w : Gw} {d : Nat} {x0 : Nat} {x1 : Int32} {M : Gm} {out : Gm} (h : sh_X12_shuts x0 x1 M = some out) : Ev w mdX12_shuts (d + 2) [.inr x0, .inl x1] M (.inl none) out := by
  obtain ⟨u, e0, h⟩ := bnd h
  exact ev_of okX12_shuts ⟨_, _, rfl, isO_of e0 (by decide), by decide⟩ (Nat.le_of_ble_eq_true rfl) (X12_shuts_F_ok h)

/-! HeatGovernorModel.steps(I)V -/
def X12_steps_J107 (x0 : Nat) (x1 : Int32) (x2 : Int32) (x3 : Int32) (M : Gm) : Option ((Int32 × Gm) ⊕ Gm) :=
  some (.inl (x3 + 1, M))
def X12_steps_J86 (x0 : Nat) (x1 : Int32) (x2 : Int32) (x3 : Int32) (x4 : Int32) (M : Gm) : Option ((Int32 × Gm) ⊕ Gm) :=
  (gfR M x0 12 6).bind fun v1 =>
  (ldA M 0 v1 (67 + x3)).bind fun v3 =>
  (sh_X12_held x4 0 v3 M).bind fun q5 =>
  (sh_X12_wants x0 x1 x3 q5 M).bind fun q7 =>
  X12_steps_J107 x0 x1 x2 x3 q7
def X12_steps_J83 (x0 : Nat) (x1 : Int32) (x2 : Int32) (x3 : Int32) (x4 : Int32) (M : Gm) : Option ((Int32 × Gm) ⊕ Gm) :=
  X12_steps_J86 x0 x1 x2 x3 (x4 + (-1)) M
def X12_steps_J67 (x0 : Nat) (x1 : Int32) (x2 : Int32) (x3 : Int32) (x4 : Int32) (M : Gm) : Option ((Int32 × Gm) ⊕ Gm) :=
  (gfR M x0 12 5).bind fun v1 =>
  (ldA M 0 v1 (50 + x1)).bind fun v3 =>
  if v3 = 0 then
    X12_steps_J83 x0 x1 x2 x3 x4 M
  else
    if 0 ≤ x2 then
      X12_steps_J86 x0 x1 x2 x3 x4 M
    else
      X12_steps_J83 x0 x1 x2 x3 x4 M
def X12_steps_B16 (x0 : Nat) (x1 : Int32) (x2 : Int32) (q : Int32 × Gm) : Option ((Int32 × Gm) ⊕ Gm) :=
  (sh_X12_devices x0 q.2).bind fun q1 =>
  if q1 ≤ q.1 then
    some (.inr q.2)
  else
    (sh_X12_weight x0 x1 q.1 q.2).bind fun q3 =>
    if q3 = 0 then
      X12_steps_J107 x0 x1 x2 q.1 q.2
    else
      (sh_X12_wanted x0 x1 q.1 q.2).bind fun q5 =>
      (gfR q.2 x0 12 5).bind fun v7 =>
      (ldA q.2 0 v7 (50 + x1)).bind fun v9 =>
      if v9 = 1 then
        if x2 ≤ 0 then
          X12_steps_J67 x0 x1 x2 q.1 q5 q.2
        else
          X12_steps_J86 x0 x1 x2 q.1 (q5 + 1) q.2
      else
        X12_steps_J67 x0 x1 x2 q.1 q5 q.2
def X12_steps_F (x0 : Nat) (x1 : Int32) (M : Gm) : Option (Gm) :=
  (gfR M x0 12 5).bind fun v1 =>
  (sh_X12_zoneOf x0 x1 M).bind fun q3 =>
  (ldA M 0 v1 (25 + q3)).bind fun v5 =>
  (lp (X12_steps_B16 x0 x1 v5) FU (0, M)).bind fun r7 =>
  some r7
def sh_X12_steps (x0 : Nat) (x1 : Int32) (M : Gm) : Option (Gm) := (isO M x0 12).bind fun _ => X12_steps_F x0 x1 M
theorem X12_steps_J107_ok {w : Gw} {d : Nat} {x0 : Nat} {x1 : Int32} {x2 : Int32} {x3 : Int32} {M : Gm} {o : Go} {M' : Gm} {out : (Int32 × Gm) ⊕ Gm} (h : X12_steps_J107 x0 x1 x2 x3 M = some out) (hc : ∀ t : Int32 × Gm, out = .inl t → Wp w mdX12_steps (d + 1) 16 [some (.inr x0), some (.inl x1), some (.inl x2), some (.inl t.1), none] [] t.2 o M') (he0 : ∀ t : Gm, out = .inr t → Wp w mdX12_steps (d + 1) 113 [none, none, none, none, none] [] t o M') : Wp w mdX12_steps (d + 1) 107 [some (.inr x0), some (.inl x1), some (.inl x2), some (.inl x3), none] [] M o M' := by
  unfold X12_steps_J107 at h
  refine wp_iinc (v := x3 + 1) dX12_steps_107 rfl rfl ?_
  refine wp_goto (tgt := 16) dX12_steps_110 (by decide) ?_
  cases h
  exact wp_ls (lsS (lsS (lsS (lsS (lsN lsZ))))) (hc (x3 + 1, M) rfl)

theorem X12_steps_J86_ok {w : Gw} {d : Nat} {x0 : Nat} {x1 : Int32} {x2 : Int32} {x3 : Int32} {x4 : Int32} {M : Gm} {o : Go} {M' : Gm} {out : (Int32 × Gm) ⊕ Gm} (h : X12_steps_J86 x0 x1 x2 x3 x4 M = some out) (hc : ∀ t : Int32 × Gm, out = .inl t → Wp w mdX12_steps (d + 1) 16 [some (.inr x0), some (.inl x1), some (.inl x2), some (.inl t.1), none] [] t.2 o M') (he0 : ∀ t : Gm, out = .inr t → Wp w mdX12_steps (d + 1) 113 [none, none, none, none, none] [] t o M') : Wp w mdX12_steps (d + 1) 86 [some (.inr x0), some (.inl x1), some (.inl x2), some (.inl x3), some (.inl x4)] [] M o M' := by
  unfold X12_steps_J86 at h
  refine wp_aload_n dX12_steps_86 rfl ?_
  refine wp_iload_n dX12_steps_87 rfl ?_
  refine wp_iload_n dX12_steps_88 rfl ?_
  refine wp_iload dX12_steps_89 rfl ?_
  refine wp_iconst (v := 0) dX12_steps_91 (by decide) ?_
  refine wp_aload_n dX12_steps_92 rfl ?_
  obtain ⟨v1, e2, h⟩ := bnd h
  refine wp_getR (c := 12) (k := 6) dX12_steps_93 e2 (by decide) (by decide) rfl fl_RX12_62 ?_
  refine wp_bipush (v := 67) dX12_steps_96 (by decide) ?_
  refine wp_iload_n dX12_steps_98 rfl ?_
  refine wp_iadd dX12_steps_99 ?_
  obtain ⟨v3, e4, h⟩ := bnd h
  refine wp_iaload dX12_steps_100 e4 ?_
  obtain ⟨q5, e6, h⟩ := bnd h
  refine wp_callS (As := [.inl x4, .inl 0, .inl v3]) dX12_steps_101 (sh_X12_held_ok (d := d) e6) okX12_held nnX12_held ssX12_held ml_RX12_275 rfl (Nat.le_of_ble_eq_true rfl) ?_
  obtain ⟨q7, e8, h⟩ := bnd h
  refine wp_callV (As := [.inl x1, .inl x3, .inl q5]) dX12_steps_104 (sh_X12_wants_ok (d := d) e8) okX12_wants nnX12_wants vvX12_wants ml_RX12_303 rfl (Nat.le_of_ble_eq_true rfl) ?_
  exact wp_ls (lsS (lsS (lsS (lsS (lsN lsZ))))) (X12_steps_J107_ok h hc he0)

theorem X12_steps_J83_ok {w : Gw} {d : Nat} {x0 : Nat} {x1 : Int32} {x2 : Int32} {x3 : Int32} {x4 : Int32} {M : Gm} {o : Go} {M' : Gm} {out : (Int32 × Gm) ⊕ Gm} (h : X12_steps_J83 x0 x1 x2 x3 x4 M = some out) (hc : ∀ t : Int32 × Gm, out = .inl t → Wp w mdX12_steps (d + 1) 16 [some (.inr x0), some (.inl x1), some (.inl x2), some (.inl t.1), none] [] t.2 o M') (he0 : ∀ t : Gm, out = .inr t → Wp w mdX12_steps (d + 1) 113 [none, none, none, none, none] [] t o M') : Wp w mdX12_steps (d + 1) 83 [some (.inr x0), some (.inl x1), some (.inl x2), some (.inl x3), some (.inl x4)] [] M o M' := by
  unfold X12_steps_J83 at h
  refine wp_iinc (v := x4 + (-1)) dX12_steps_83 rfl rfl ?_
  exact wp_ls (lsS (lsS (lsS (lsS (lsS lsZ))))) (X12_steps_J86_ok h hc he0)

theorem X12_steps_J67_ok {w : Gw} {d : Nat} {x0 : Nat} {x1 : Int32} {x2 : Int32} {x3 : Int32} {x4 : Int32} {M : Gm} {o : Go} {M' : Gm} {out : (Int32 × Gm) ⊕ Gm} (h : X12_steps_J67 x0 x1 x2 x3 x4 M = some out) (hc : ∀ t : Int32 × Gm, out = .inl t → Wp w mdX12_steps (d + 1) 16 [some (.inr x0), some (.inl x1), some (.inl x2), some (.inl t.1), none] [] t.2 o M') (he0 : ∀ t : Gm, out = .inr t → Wp w mdX12_steps (d + 1) 113 [none, none, none, none, none] [] t o M') : Wp w mdX12_steps (d + 1) 67 [some (.inr x0), some (.inl x1), some (.inl x2), some (.inl x3), some (.inl x4)] [] M o M' := by
  unfold X12_steps_J67 at h
  refine wp_aload_n dX12_steps_67 rfl ?_
  obtain ⟨v1, e2, h⟩ := bnd h
  refine wp_getR (c := 12) (k := 5) dX12_steps_68 e2 (by decide) (by decide) rfl fl_RX12_58 ?_
  refine wp_bipush (v := 50) dX12_steps_71 (by decide) ?_
  refine wp_iload_n dX12_steps_73 rfl ?_
  refine wp_iadd dX12_steps_74 ?_
  obtain ⟨v3, e4, h⟩ := bnd h
  refine wp_iaload dX12_steps_75 e4 ?_
  refine wp_if_eq (tgt := 83) dX12_steps_76 (by decide) (fun hc_ => ?_) (fun hc_ => ?_)
  · replace h := ite_t hc_ h
    exact wp_ls (lsS (lsS (lsS (lsS (lsS lsZ))))) (X12_steps_J83_ok h hc he0)
  · replace h := ite_f hc_ h
    refine wp_iload_n dX12_steps_79 rfl ?_
    refine wp_if_ge (tgt := 86) dX12_steps_80 (by decide) (fun hc_ => ?_) (fun hc_ => ?_)
    · replace h := ite_t hc_ h
      exact wp_ls (lsS (lsS (lsS (lsS (lsS lsZ))))) (X12_steps_J86_ok h hc he0)
    · replace h := ite_f hc_ h
      exact wp_ls (lsS (lsS (lsS (lsS (lsS lsZ))))) (X12_steps_J83_ok h hc he0)

theorem X12_steps_B16_ok {w : Gw} {d : Nat} {x0 : Nat} {x1 : Int32} {x2 : Int32} {q : Int32 × Gm} {o : Go} {M' : Gm} {out : (Int32 × Gm) ⊕ Gm} (h : X12_steps_B16 x0 x1 x2 q = some out) (hc : ∀ t : Int32 × Gm, out = .inl t → Wp w mdX12_steps (d + 1) 16 [some (.inr x0), some (.inl x1), some (.inl x2), some (.inl t.1), none] [] t.2 o M') (he0 : ∀ t : Gm, out = .inr t → Wp w mdX12_steps (d + 1) 113 [none, none, none, none, none] [] t o M') : Wp w mdX12_steps (d + 1) 16 [some (.inr x0), some (.inl x1), some (.inl x2), some (.inl q.1), none] [] q.2 o M' := by
  unfold X12_steps_B16 at h
  refine wp_iload_n dX12_steps_16 rfl ?_
  refine wp_aload_n dX12_steps_17 rfl ?_
  obtain ⟨q1, e2, h⟩ := bnd h
  refine wp_callV (As := []) dX12_steps_18 (sh_X12_devices_ok (d := d) e2) okX12_devices nnX12_devices vvX12_devices ml_RX12_263 rfl (Nat.le_of_ble_eq_true rfl) ?_
  refine wp_icmp_ge (tgt := 113) dX12_steps_21 (by decide) (fun hc_ => ?_) (fun hc_ => ?_)
  · replace h := ite_t hc_ h
    cases h
    exact wp_ls (lsN (lsN (lsN (lsN (lsN lsZ))))) (he0 q.2 rfl)
  · replace h := ite_f hc_ h
    refine wp_aload_n dX12_steps_24 rfl ?_
    refine wp_iload_n dX12_steps_25 rfl ?_
    refine wp_iload_n dX12_steps_26 rfl ?_
    obtain ⟨q3, e4, h⟩ := bnd h
    refine wp_callV (As := [.inl x1, .inl q.1]) dX12_steps_27 (sh_X12_weight_ok (d := d) e4) okX12_weight nnX12_weight vvX12_weight ml_RX12_294 rfl (Nat.le_of_ble_eq_true rfl) ?_
    refine wp_if_ne (tgt := 36) dX12_steps_30 (by decide) (fun hc_ => ?_) (fun hc_ => ?_)
    · replace h := ite_f hc_ h
      refine wp_aload_n dX12_steps_36 rfl ?_
      refine wp_iload_n dX12_steps_37 rfl ?_
      refine wp_iload_n dX12_steps_38 rfl ?_
      obtain ⟨q5, e6, h⟩ := bnd h
      refine wp_callV (As := [.inl x1, .inl q.1]) dX12_steps_39 (sh_X12_wanted_ok (d := d) e6) okX12_wanted nnX12_wanted vvX12_wanted ml_RX12_300 rfl (Nat.le_of_ble_eq_true rfl) ?_
      refine wp_istore dX12_steps_42 (Nat.le_of_ble_eq_true rfl) ?_
      refine wp_aload_n dX12_steps_44 rfl ?_
      obtain ⟨v7, e8, h⟩ := bnd h
      refine wp_getR (c := 12) (k := 5) dX12_steps_45 e8 (by decide) (by decide) rfl fl_RX12_58 ?_
      refine wp_bipush (v := 50) dX12_steps_48 (by decide) ?_
      refine wp_iload_n dX12_steps_50 rfl ?_
      refine wp_iadd dX12_steps_51 ?_
      obtain ⟨v9, e10, h⟩ := bnd h
      refine wp_iaload dX12_steps_52 e10 ?_
      refine wp_iconst (v := 1) dX12_steps_53 (by decide) ?_
      refine wp_icmp_ne (tgt := 67) dX12_steps_54 (by decide) (fun hc_ => ?_) (fun hc_ => ?_)
      · replace h := ite_f hc_ h
        exact wp_ls (lsS (lsS (lsS (lsS (lsS lsZ))))) (X12_steps_J67_ok h hc he0)
      · replace h := ite_t hc_ h
        refine wp_iload_n dX12_steps_57 rfl ?_
        refine wp_if_le (tgt := 67) dX12_steps_58 (by decide) (fun hc_ => ?_) (fun hc_ => ?_)
        · replace h := ite_t hc_ h
          exact wp_ls (lsS (lsS (lsS (lsS (lsS lsZ))))) (X12_steps_J67_ok h hc he0)
        · replace h := ite_f hc_ h
          refine wp_iinc (v := q5 + 1) dX12_steps_61 rfl rfl ?_
          refine wp_goto (tgt := 86) dX12_steps_64 (by decide) ?_
          exact wp_ls (lsS (lsS (lsS (lsS (lsS lsZ))))) (X12_steps_J86_ok h hc he0)
    · replace h := ite_t hc_ h
      refine wp_goto (tgt := 107) dX12_steps_33 (by decide) ?_
      exact wp_ls (lsS (lsS (lsS (lsS (lsN lsZ))))) (X12_steps_J107_ok h hc he0)

theorem X12_steps_B16_lp {w : Gw} {d : Nat} {x0 : Nat} {x1 : Int32} {x2 : Int32} {o : Go} {M' : Gm} {r : Gm} : ∀ (n : Nat) (q : Int32 × Gm), lp (X12_steps_B16 x0 x1 x2) n q = some r → (∀ t : Gm, r = t → Wp w mdX12_steps (d + 1) 113 [none, none, none, none, none] [] t o M') → Wp w mdX12_steps (d + 1) 16 [some (.inr x0), some (.inl x1), some (.inl x2), some (.inl q.1), none] [] q.2 o M' := by
  intro n
  induction n with
  | zero => intro q h; cases h
  | succ n ih =>
    intro q h he0
    cases hb : X12_steps_B16 x0 x1 x2 q with
    | none => rw [lp_succ, hb] at h; cases h
    | some out =>
      rw [lp_succ, hb] at h
      exact X12_steps_B16_ok hb (fun t e => ih t (by rw [e] at h; exact h) he0) (fun t e => he0 t (by rw [e] at h; cases h; rfl))
theorem X12_steps_F_ok {w : Gw} {d : Nat} {x0 : Nat} {x1 : Int32} {M : Gm} {out : Gm} (h : X12_steps_F x0 x1 M = some out) : Wp w mdX12_steps (d + 1) 0 [some (.inr x0), some (.inl x1), none, none, none] [] M (.inl none) out := by
  unfold X12_steps_F at h
  refine wp_aload_n dX12_steps_0 rfl ?_
  obtain ⟨v1, e2, h⟩ := bnd h
  refine wp_getR (c := 12) (k := 5) dX12_steps_1 e2 (by decide) (by decide) rfl fl_RX12_58 ?_
  refine wp_bipush (v := 25) dX12_steps_4 (by decide) ?_
  refine wp_aload_n dX12_steps_6 rfl ?_
  refine wp_iload_n dX12_steps_7 rfl ?_
  obtain ⟨q3, e4, h⟩ := bnd h
  refine wp_callV (As := [.inl x1]) dX12_steps_8 (sh_X12_zoneOf_ok (d := d) e4) okX12_zoneOf nnX12_zoneOf vvX12_zoneOf ml_RX12_287 rfl (Nat.le_of_ble_eq_true rfl) ?_
  refine wp_iadd dX12_steps_11 ?_
  obtain ⟨v5, e6, h⟩ := bnd h
  refine wp_iaload dX12_steps_12 e6 ?_
  refine wp_istore_n dX12_steps_13 (Nat.le_of_ble_eq_true rfl) ?_
  refine wp_iconst (v := 0) dX12_steps_14 (by decide) ?_
  refine wp_istore_n dX12_steps_15 (Nat.le_of_ble_eq_true rfl) ?_
  obtain ⟨r7, e8, h⟩ := bnd h
  refine wp_ls (lsS (lsS (lsS (lsS (lsN lsZ))))) (X12_steps_B16_lp FU _ e8 ?_)
  intro t_ ht_; cases ht_
  cases h
  exact wp_ret dX12_steps_113 rfl

theorem sh_X12_steps_ok {w : Gw} {d : Nat} {x0 : Nat} {x1 : Int32} {M : Gm} {out : Gm} (h : sh_X12_steps x0 x1 M = some out) : Ev w mdX12_steps (d + 1) [.inr x0, .inl x1] M (.inl none) out := by
  obtain ⟨u, e0, h⟩ := bnd h
  exact ev_of okX12_steps ⟨_, _, rfl, isO_of e0 (by decide), by decide⟩ (Nat.le_of_ble_eq_true rfl) (X12_steps_F_ok h)

/-! HeatGovernorModel.turns(I)V -/
def X12_turns_J133 (M : Gm) : Option (Gm) :=
  some M
def X12_turns_J76 (x0 : Nat) (x1 : Int32) (x2 : Int32) (M : Gm) : Option (Gm) :=
  (gfR M x0 12 5).bind fun v1 =>
  (ldA M 0 v1 (50 + x1)).bind fun v3 =>
  if v3 = 1 then
    (gfR M x0 12 6).bind fun v5 =>
    (ldA M 0 v5 (35 + x1)).bind fun v7 =>
    (gfR M x0 12 6).bind fun v9 =>
    (ldA M 0 v9 (45 + x1)).bind fun v11 =>
    if (v7 - v11) ≤ x2 then
      X12_turns_J133 M
    else
      (gfR M x0 12 5).bind fun v13 =>
      (stA M 0 v13 (50 + x1) 0).bind fun M15 =>
      (sh_X12_zoneOf x0 x1 M15).bind fun q17 =>
      (sh_X12_logs x0 2 q17 x1 M15).bind fun q19 =>
      X12_turns_J133 q19
  else
    X12_turns_J133 M
def X12_turns_F (x0 : Nat) (x1 : Int32) (M : Gm) : Option (Gm) :=
  (gfR M x0 12 5).bind fun v1 =>
  (sh_X12_zoneOf x0 x1 M).bind fun q3 =>
  (ldA M 0 v1 (20 + q3)).bind fun v5 =>
  (gfR M x0 12 5).bind fun v7 =>
  (ldA M 0 v7 (50 + x1)).bind fun v9 =>
  if v9 = 0 then
    (gfR M x0 12 6).bind fun v11 =>
    (ldA M 0 v11 (35 + x1)).bind fun v13 =>
    if v5 < v13 then
      X12_turns_J76 x0 x1 v5 M
    else
      (gfR M x0 12 5).bind fun v15 =>
      (stA M 0 v15 (50 + x1) 1).bind fun M17 =>
      (gfR M17 x0 12 5).bind fun v19 =>
      (ldA M17 0 v19 (60 + x1)).bind fun v21 =>
      (stA M17 0 v19 (60 + x1) (v21 + 1)).bind fun M23 =>
      (sh_X12_zoneOf x0 x1 M23).bind fun q25 =>
      (sh_X12_logs x0 1 q25 x1 M23).bind fun q27 =>
      X12_turns_J133 q27
  else
    X12_turns_J76 x0 x1 v5 M
def sh_X12_turns (x0 : Nat) (x1 : Int32) (M : Gm) : Option (Gm) := (isO M x0 12).bind fun _ => X12_turns_F x0 x1 M
theorem X12_turns_J133_ok {w : Gw} {d : Nat} {M : Gm} {out : Gm} (h : X12_turns_J133 M = some out) : Wp w mdX12_turns (d + 1) 133 [none, none, none] [] M (.inl none) out := by
  unfold X12_turns_J133 at h
  cases h
  exact wp_ret dX12_turns_133 rfl

theorem X12_turns_J76_ok {w : Gw} {d : Nat} {x0 : Nat} {x1 : Int32} {x2 : Int32} {M : Gm} {out : Gm} (h : X12_turns_J76 x0 x1 x2 M = some out) : Wp w mdX12_turns (d + 1) 76 [some (.inr x0), some (.inl x1), some (.inl x2)] [] M (.inl none) out := by
  unfold X12_turns_J76 at h
  refine wp_aload_n dX12_turns_76 rfl ?_
  obtain ⟨v1, e2, h⟩ := bnd h
  refine wp_getR (c := 12) (k := 5) dX12_turns_77 e2 (by decide) (by decide) rfl fl_RX12_58 ?_
  refine wp_bipush (v := 50) dX12_turns_80 (by decide) ?_
  refine wp_iload_n dX12_turns_82 rfl ?_
  refine wp_iadd dX12_turns_83 ?_
  obtain ⟨v3, e4, h⟩ := bnd h
  refine wp_iaload dX12_turns_84 e4 ?_
  refine wp_iconst (v := 1) dX12_turns_85 (by decide) ?_
  refine wp_icmp_ne (tgt := 133) dX12_turns_86 (by decide) (fun hc_ => ?_) (fun hc_ => ?_)
  · replace h := ite_f hc_ h
    exact wp_ls (lsN (lsN (lsN lsZ))) (X12_turns_J133_ok h)
  · replace h := ite_t hc_ h
    refine wp_iload_n dX12_turns_89 rfl ?_
    refine wp_aload_n dX12_turns_90 rfl ?_
    obtain ⟨v5, e6, h⟩ := bnd h
    refine wp_getR (c := 12) (k := 6) dX12_turns_91 e6 (by decide) (by decide) rfl fl_RX12_62 ?_
    refine wp_bipush (v := 35) dX12_turns_94 (by decide) ?_
    refine wp_iload_n dX12_turns_96 rfl ?_
    refine wp_iadd dX12_turns_97 ?_
    obtain ⟨v7, e8, h⟩ := bnd h
    refine wp_iaload dX12_turns_98 e8 ?_
    refine wp_aload_n dX12_turns_99 rfl ?_
    obtain ⟨v9, e10, h⟩ := bnd h
    refine wp_getR (c := 12) (k := 6) dX12_turns_100 e10 (by decide) (by decide) rfl fl_RX12_62 ?_
    refine wp_bipush (v := 45) dX12_turns_103 (by decide) ?_
    refine wp_iload_n dX12_turns_105 rfl ?_
    refine wp_iadd dX12_turns_106 ?_
    obtain ⟨v11, e12, h⟩ := bnd h
    refine wp_iaload dX12_turns_107 e12 ?_
    refine wp_isub dX12_turns_108 ?_
    refine wp_icmp_ge (tgt := 133) dX12_turns_109 (by decide) (fun hc_ => ?_) (fun hc_ => ?_)
    · replace h := ite_t hc_ h
      exact wp_ls (lsN (lsN (lsN lsZ))) (X12_turns_J133_ok h)
    · replace h := ite_f hc_ h
      refine wp_aload_n dX12_turns_112 rfl ?_
      obtain ⟨v13, e14, h⟩ := bnd h
      refine wp_getR (c := 12) (k := 5) dX12_turns_113 e14 (by decide) (by decide) rfl fl_RX12_58 ?_
      refine wp_bipush (v := 50) dX12_turns_116 (by decide) ?_
      refine wp_iload_n dX12_turns_118 rfl ?_
      refine wp_iadd dX12_turns_119 ?_
      refine wp_iconst (v := 0) dX12_turns_120 (by decide) ?_
      obtain ⟨M15, e16, h⟩ := bnd h
      refine wp_iastore dX12_turns_121 e16 ?_
      refine wp_aload_n dX12_turns_122 rfl ?_
      refine wp_iconst (v := 2) dX12_turns_123 (by decide) ?_
      refine wp_aload_n dX12_turns_124 rfl ?_
      refine wp_iload_n dX12_turns_125 rfl ?_
      obtain ⟨q17, e18, h⟩ := bnd h
      refine wp_callV (As := [.inl x1]) dX12_turns_126 (sh_X12_zoneOf_ok (d := d) e18) okX12_zoneOf nnX12_zoneOf vvX12_zoneOf ml_RX12_287 rfl (Nat.le_of_ble_eq_true rfl) ?_
      refine wp_iload_n dX12_turns_129 rfl ?_
      obtain ⟨q19, e20, h⟩ := bnd h
      refine wp_callV (As := [.inl 2, .inl q17, .inl x1]) dX12_turns_130 (sh_X12_logs_ok (d := d) e20) okX12_logs nnX12_logs vvX12_logs ml_RX12_290 rfl (Nat.le_of_ble_eq_true rfl) ?_
      exact wp_ls (lsN (lsN (lsN lsZ))) (X12_turns_J133_ok h)

theorem X12_turns_F_ok {w : Gw} {d : Nat} {x0 : Nat} {x1 : Int32} {M : Gm} {out : Gm} (h : X12_turns_F x0 x1 M = some out) : Wp w mdX12_turns (d + 1) 0 [some (.inr x0), some (.inl x1), none] [] M (.inl none) out := by
  unfold X12_turns_F at h
  refine wp_aload_n dX12_turns_0 rfl ?_
  obtain ⟨v1, e2, h⟩ := bnd h
  refine wp_getR (c := 12) (k := 5) dX12_turns_1 e2 (by decide) (by decide) rfl fl_RX12_58 ?_
  refine wp_bipush (v := 20) dX12_turns_4 (by decide) ?_
  refine wp_aload_n dX12_turns_6 rfl ?_
  refine wp_iload_n dX12_turns_7 rfl ?_
  obtain ⟨q3, e4, h⟩ := bnd h
  refine wp_callV (As := [.inl x1]) dX12_turns_8 (sh_X12_zoneOf_ok (d := d) e4) okX12_zoneOf nnX12_zoneOf vvX12_zoneOf ml_RX12_287 rfl (Nat.le_of_ble_eq_true rfl) ?_
  refine wp_iadd dX12_turns_11 ?_
  obtain ⟨v5, e6, h⟩ := bnd h
  refine wp_iaload dX12_turns_12 e6 ?_
  refine wp_istore_n dX12_turns_13 (Nat.le_of_ble_eq_true rfl) ?_
  refine wp_aload_n dX12_turns_14 rfl ?_
  obtain ⟨v7, e8, h⟩ := bnd h
  refine wp_getR (c := 12) (k := 5) dX12_turns_15 e8 (by decide) (by decide) rfl fl_RX12_58 ?_
  refine wp_bipush (v := 50) dX12_turns_18 (by decide) ?_
  refine wp_iload_n dX12_turns_20 rfl ?_
  refine wp_iadd dX12_turns_21 ?_
  obtain ⟨v9, e10, h⟩ := bnd h
  refine wp_iaload dX12_turns_22 e10 ?_
  refine wp_if_ne (tgt := 76) dX12_turns_23 (by decide) (fun hc_ => ?_) (fun hc_ => ?_)
  · replace h := ite_f hc_ h
    exact wp_ls (lsS (lsS (lsS lsZ))) (X12_turns_J76_ok h)
  · replace h := ite_t hc_ h
    refine wp_iload_n dX12_turns_26 rfl ?_
    refine wp_aload_n dX12_turns_27 rfl ?_
    obtain ⟨v11, e12, h⟩ := bnd h
    refine wp_getR (c := 12) (k := 6) dX12_turns_28 e12 (by decide) (by decide) rfl fl_RX12_62 ?_
    refine wp_bipush (v := 35) dX12_turns_31 (by decide) ?_
    refine wp_iload_n dX12_turns_33 rfl ?_
    refine wp_iadd dX12_turns_34 ?_
    obtain ⟨v13, e14, h⟩ := bnd h
    refine wp_iaload dX12_turns_35 e14 ?_
    refine wp_icmp_lt (tgt := 76) dX12_turns_36 (by decide) (fun hc_ => ?_) (fun hc_ => ?_)
    · replace h := ite_t hc_ h
      exact wp_ls (lsS (lsS (lsS lsZ))) (X12_turns_J76_ok h)
    · replace h := ite_f hc_ h
      refine wp_aload_n dX12_turns_39 rfl ?_
      obtain ⟨v15, e16, h⟩ := bnd h
      refine wp_getR (c := 12) (k := 5) dX12_turns_40 e16 (by decide) (by decide) rfl fl_RX12_58 ?_
      refine wp_bipush (v := 50) dX12_turns_43 (by decide) ?_
      refine wp_iload_n dX12_turns_45 rfl ?_
      refine wp_iadd dX12_turns_46 ?_
      refine wp_iconst (v := 1) dX12_turns_47 (by decide) ?_
      obtain ⟨M17, e18, h⟩ := bnd h
      refine wp_iastore dX12_turns_48 e18 ?_
      refine wp_aload_n dX12_turns_49 rfl ?_
      obtain ⟨v19, e20, h⟩ := bnd h
      refine wp_getR (c := 12) (k := 5) dX12_turns_50 e20 (by decide) (by decide) rfl fl_RX12_58 ?_
      refine wp_bipush (v := 60) dX12_turns_53 (by decide) ?_
      refine wp_iload_n dX12_turns_55 rfl ?_
      refine wp_iadd dX12_turns_56 ?_
      refine wp_dup2 dX12_turns_57 ?_
      obtain ⟨v21, e22, h⟩ := bnd h
      refine wp_iaload dX12_turns_58 e22 ?_
      refine wp_iconst (v := 1) dX12_turns_59 (by decide) ?_
      refine wp_iadd dX12_turns_60 ?_
      obtain ⟨M23, e24, h⟩ := bnd h
      refine wp_iastore dX12_turns_61 e24 ?_
      refine wp_aload_n dX12_turns_62 rfl ?_
      refine wp_iconst (v := 1) dX12_turns_63 (by decide) ?_
      refine wp_aload_n dX12_turns_64 rfl ?_
      refine wp_iload_n dX12_turns_65 rfl ?_
      obtain ⟨q25, e26, h⟩ := bnd h
      refine wp_callV (As := [.inl x1]) dX12_turns_66 (sh_X12_zoneOf_ok (d := d) e26) okX12_zoneOf nnX12_zoneOf vvX12_zoneOf ml_RX12_287 rfl (Nat.le_of_ble_eq_true rfl) ?_
      refine wp_iload_n dX12_turns_69 rfl ?_
      obtain ⟨q27, e28, h⟩ := bnd h
      refine wp_callV (As := [.inl 1, .inl q25, .inl x1]) dX12_turns_70 (sh_X12_logs_ok (d := d) e28) okX12_logs nnX12_logs vvX12_logs ml_RX12_290 rfl (Nat.le_of_ble_eq_true rfl) ?_
      refine wp_goto (tgt := 133) dX12_turns_73 (by decide) ?_
      exact wp_ls (lsN (lsN (lsN lsZ))) (X12_turns_J133_ok h)

theorem sh_X12_turns_ok {w : Gw} {d : Nat} {x0 : Nat} {x1 : Int32} {M : Gm} {out : Gm} (h : sh_X12_turns x0 x1 M = some out) : Ev w mdX12_turns (d + 1) [.inr x0, .inl x1] M (.inl none) out := by
  obtain ⟨u, e0, h⟩ := bnd h
  exact ev_of okX12_turns ⟨_, _, rfl, isO_of e0 (by decide), by decide⟩ (Nat.le_of_ble_eq_true rfl) (X12_turns_F_ok h)

/-! HeatGovernorModel.minute()V -/
def X12_minute_B10 (x0 : Nat) (q : Int32 × Gm) : Option ((Int32 × Gm) ⊕ Gm) :=
  (sh_X12_trips x0 q.2).bind fun q1 =>
  if q1 ≤ q.1 then
    some (.inr q.2)
  else
    (sh_X12_turns x0 q.1 q.2).bind fun q3 =>
    some (.inl (q.1 + 1, q3))
def X12_minute_J74 (x0 : Nat) (x1 : Int32) (M : Gm) : Option ((Int32 × Gm) ⊕ Gm) :=
  some (.inl (x1 + 1, M))
def X12_minute_J56 (x0 : Nat) (x1 : Int32) (M : Gm) : Option ((Int32 × Gm) ⊕ Gm) :=
  (gfR M x0 12 6).bind fun v1 =>
  (ldA M 0 v1 (25 + x1)).bind fun v3 =>
  if v3 = 1 then
    (sh_X12_shares x0 x1 M).bind fun q5 =>
    X12_minute_J74 x0 x1 q5
  else
    X12_minute_J74 x0 x1 M
def X12_minute_B31 (x0 : Nat) (q : Int32 × Gm) : Option ((Int32 × Gm) ⊕ Gm) :=
  (sh_X12_trips x0 q.2).bind fun q1 =>
  if q1 ≤ q.1 then
    some (.inr q.2)
  else
    (gfR q.2 x0 12 6).bind fun v3 =>
    (ldA q.2 0 v3 (25 + q.1)).bind fun v5 =>
    if v5 = 0 then
      (sh_X12_steps x0 q.1 q.2).bind fun q7 =>
      X12_minute_J56 x0 q.1 q7
    else
      X12_minute_J56 x0 q.1 q.2
def X12_minute_B82 (x0 : Nat) (q : Int32 × Gm) : Option ((Int32 × Gm) ⊕ Gm) :=
  (sh_X12_devices x0 q.2).bind fun q1 =>
  if q1 ≤ q.1 then
    some (.inr q.2)
  else
    (sh_X12_moves x0 q.1 q.2).bind fun q3 =>
    some (.inl (q.1 + 1, q3))
def X12_minute_B103 (x0 : Nat) (q : Int32 × Gm) : Option ((Int32 × Gm) ⊕ Gm) :=
  (sh_X12_trips x0 q.2).bind fun q1 =>
  if q1 ≤ q.1 then
    some (.inr q.2)
  else
    (sh_X12_shuts x0 q.1 q.2).bind fun q3 =>
    some (.inl (q.1 + 1, q3))
def X12_minute_F (x0 : Nat) (M : Gm) : Option (Gm) :=
  (sh_X12_heats x0 M).bind fun q1 =>
  (sh_X12_readings x0 q1).bind fun q3 =>
  (lp (X12_minute_B10 x0) FU (0, q3)).bind fun r5 =>
  (lp (X12_minute_B31 x0) FU (0, r5)).bind fun r7 =>
  (lp (X12_minute_B82 x0) FU (0, r7)).bind fun r9 =>
  (lp (X12_minute_B103 x0) FU (0, r9)).bind fun r11 =>
  (gfR r11 x0 12 5).bind fun v13 =>
  (ldA r11 0 v13 142).bind fun v15 =>
  (stA r11 0 v13 142 (v15 + 1)).bind fun M17 =>
  some M17
def sh_X12_minute (x0 : Nat) (M : Gm) : Option (Gm) := (isO M x0 12).bind fun _ => X12_minute_F x0 M
theorem X12_minute_B10_ok {w : Gw} {d : Nat} {x0 : Nat} {q : Int32 × Gm} {o : Go} {M' : Gm} {out : (Int32 × Gm) ⊕ Gm} (h : X12_minute_B10 x0 q = some out) (hc : ∀ t : Int32 × Gm, out = .inl t → Wp w mdX12_minute (d + 4) 10 [some (.inr x0), some (.inl t.1)] [] t.2 o M') (he0 : ∀ t : Gm, out = .inr t → Wp w mdX12_minute (d + 4) 29 [some (.inr x0), none] [] t o M') : Wp w mdX12_minute (d + 4) 10 [some (.inr x0), some (.inl q.1)] [] q.2 o M' := by
  unfold X12_minute_B10 at h
  refine wp_iload_n dX12_minute_10 rfl ?_
  refine wp_aload_n dX12_minute_11 rfl ?_
  obtain ⟨q1, e2, h⟩ := bnd h
  refine wp_callV (As := []) dX12_minute_12 (sh_X12_trips_ok (d := d + 3) e2) okX12_trips nnX12_trips vvX12_trips ml_RX12_312 rfl (Nat.le_of_ble_eq_true rfl) ?_
  refine wp_icmp_ge (tgt := 29) dX12_minute_15 (by decide) (fun hc_ => ?_) (fun hc_ => ?_)
  · replace h := ite_t hc_ h
    cases h
    exact wp_ls (lsS (lsN lsZ)) (he0 q.2 rfl)
  · replace h := ite_f hc_ h
    refine wp_aload_n dX12_minute_18 rfl ?_
    refine wp_iload_n dX12_minute_19 rfl ?_
    obtain ⟨q3, e4, h⟩ := bnd h
    refine wp_callV (As := [.inl q.1]) dX12_minute_20 (sh_X12_turns_ok (d := d + 2) e4) okX12_turns nnX12_turns vvX12_turns ml_RX12_327 rfl (Nat.le_of_ble_eq_true rfl) ?_
    refine wp_iinc (v := q.1 + 1) dX12_minute_23 rfl rfl ?_
    refine wp_goto (tgt := 10) dX12_minute_26 (by decide) ?_
    cases h
    exact wp_ls (lsS (lsS lsZ)) (hc (q.1 + 1, q3) rfl)

theorem X12_minute_B10_lp {w : Gw} {d : Nat} {x0 : Nat} {o : Go} {M' : Gm} {r : Gm} : ∀ (n : Nat) (q : Int32 × Gm), lp (X12_minute_B10 x0) n q = some r → (∀ t : Gm, r = t → Wp w mdX12_minute (d + 4) 29 [some (.inr x0), none] [] t o M') → Wp w mdX12_minute (d + 4) 10 [some (.inr x0), some (.inl q.1)] [] q.2 o M' := by
  intro n
  induction n with
  | zero => intro q h; cases h
  | succ n ih =>
    intro q h he0
    cases hb : X12_minute_B10 x0 q with
    | none => rw [lp_succ, hb] at h; cases h
    | some out =>
      rw [lp_succ, hb] at h
      exact X12_minute_B10_ok hb (fun t e => ih t (by rw [e] at h; exact h) he0) (fun t e => he0 t (by rw [e] at h; cases h; rfl))
theorem X12_minute_J74_ok {w : Gw} {d : Nat} {x0 : Nat} {x1 : Int32} {M : Gm} {o : Go} {M' : Gm} {out : (Int32 × Gm) ⊕ Gm} (h : X12_minute_J74 x0 x1 M = some out) (hc : ∀ t : Int32 × Gm, out = .inl t → Wp w mdX12_minute (d + 4) 31 [some (.inr x0), some (.inl t.1)] [] t.2 o M') (he0 : ∀ t : Gm, out = .inr t → Wp w mdX12_minute (d + 4) 80 [some (.inr x0), none] [] t o M') : Wp w mdX12_minute (d + 4) 74 [some (.inr x0), some (.inl x1)] [] M o M' := by
  unfold X12_minute_J74 at h
  refine wp_iinc (v := x1 + 1) dX12_minute_74 rfl rfl ?_
  refine wp_goto (tgt := 31) dX12_minute_77 (by decide) ?_
  cases h
  exact wp_ls (lsS (lsS lsZ)) (hc (x1 + 1, M) rfl)

theorem X12_minute_J56_ok {w : Gw} {d : Nat} {x0 : Nat} {x1 : Int32} {M : Gm} {o : Go} {M' : Gm} {out : (Int32 × Gm) ⊕ Gm} (h : X12_minute_J56 x0 x1 M = some out) (hc : ∀ t : Int32 × Gm, out = .inl t → Wp w mdX12_minute (d + 4) 31 [some (.inr x0), some (.inl t.1)] [] t.2 o M') (he0 : ∀ t : Gm, out = .inr t → Wp w mdX12_minute (d + 4) 80 [some (.inr x0), none] [] t o M') : Wp w mdX12_minute (d + 4) 56 [some (.inr x0), some (.inl x1)] [] M o M' := by
  unfold X12_minute_J56 at h
  refine wp_aload_n dX12_minute_56 rfl ?_
  obtain ⟨v1, e2, h⟩ := bnd h
  refine wp_getR (c := 12) (k := 6) dX12_minute_57 e2 (by decide) (by decide) rfl fl_RX12_62 ?_
  refine wp_bipush (v := 25) dX12_minute_60 (by decide) ?_
  refine wp_iload_n dX12_minute_62 rfl ?_
  refine wp_iadd dX12_minute_63 ?_
  obtain ⟨v3, e4, h⟩ := bnd h
  refine wp_iaload dX12_minute_64 e4 ?_
  refine wp_iconst (v := 1) dX12_minute_65 (by decide) ?_
  refine wp_icmp_ne (tgt := 74) dX12_minute_66 (by decide) (fun hc_ => ?_) (fun hc_ => ?_)
  · replace h := ite_f hc_ h
    exact wp_ls (lsS (lsS lsZ)) (X12_minute_J74_ok h hc he0)
  · replace h := ite_t hc_ h
    refine wp_aload_n dX12_minute_69 rfl ?_
    refine wp_iload_n dX12_minute_70 rfl ?_
    obtain ⟨q5, e6, h⟩ := bnd h
    refine wp_callV (As := [.inl x1]) dX12_minute_71 (sh_X12_shares_ok (d := d + 1) e6) okX12_shares nnX12_shares vvX12_shares ml_RX12_333 rfl (Nat.le_of_ble_eq_true rfl) ?_
    exact wp_ls (lsS (lsS lsZ)) (X12_minute_J74_ok h hc he0)

theorem X12_minute_B31_ok {w : Gw} {d : Nat} {x0 : Nat} {q : Int32 × Gm} {o : Go} {M' : Gm} {out : (Int32 × Gm) ⊕ Gm} (h : X12_minute_B31 x0 q = some out) (hc : ∀ t : Int32 × Gm, out = .inl t → Wp w mdX12_minute (d + 4) 31 [some (.inr x0), some (.inl t.1)] [] t.2 o M') (he0 : ∀ t : Gm, out = .inr t → Wp w mdX12_minute (d + 4) 80 [some (.inr x0), none] [] t o M') : Wp w mdX12_minute (d + 4) 31 [some (.inr x0), some (.inl q.1)] [] q.2 o M' := by
  unfold X12_minute_B31 at h
  refine wp_iload_n dX12_minute_31 rfl ?_
  refine wp_aload_n dX12_minute_32 rfl ?_
  obtain ⟨q1, e2, h⟩ := bnd h
  refine wp_callV (As := []) dX12_minute_33 (sh_X12_trips_ok (d := d + 3) e2) okX12_trips nnX12_trips vvX12_trips ml_RX12_312 rfl (Nat.le_of_ble_eq_true rfl) ?_
  refine wp_icmp_ge (tgt := 80) dX12_minute_36 (by decide) (fun hc_ => ?_) (fun hc_ => ?_)
  · replace h := ite_t hc_ h
    cases h
    exact wp_ls (lsS (lsN lsZ)) (he0 q.2 rfl)
  · replace h := ite_f hc_ h
    refine wp_aload_n dX12_minute_39 rfl ?_
    obtain ⟨v3, e4, h⟩ := bnd h
    refine wp_getR (c := 12) (k := 6) dX12_minute_40 e4 (by decide) (by decide) rfl fl_RX12_62 ?_
    refine wp_bipush (v := 25) dX12_minute_43 (by decide) ?_
    refine wp_iload_n dX12_minute_45 rfl ?_
    refine wp_iadd dX12_minute_46 ?_
    obtain ⟨v5, e6, h⟩ := bnd h
    refine wp_iaload dX12_minute_47 e6 ?_
    refine wp_if_ne (tgt := 56) dX12_minute_48 (by decide) (fun hc_ => ?_) (fun hc_ => ?_)
    · replace h := ite_f hc_ h
      exact wp_ls (lsS (lsS lsZ)) (X12_minute_J56_ok h hc he0)
    · replace h := ite_t hc_ h
      refine wp_aload_n dX12_minute_51 rfl ?_
      refine wp_iload_n dX12_minute_52 rfl ?_
      obtain ⟨q7, e8, h⟩ := bnd h
      refine wp_callV (As := [.inl q.1]) dX12_minute_53 (sh_X12_steps_ok (d := d + 2) e8) okX12_steps nnX12_steps vvX12_steps ml_RX12_330 rfl (Nat.le_of_ble_eq_true rfl) ?_
      exact wp_ls (lsS (lsS lsZ)) (X12_minute_J56_ok h hc he0)

theorem X12_minute_B31_lp {w : Gw} {d : Nat} {x0 : Nat} {o : Go} {M' : Gm} {r : Gm} : ∀ (n : Nat) (q : Int32 × Gm), lp (X12_minute_B31 x0) n q = some r → (∀ t : Gm, r = t → Wp w mdX12_minute (d + 4) 80 [some (.inr x0), none] [] t o M') → Wp w mdX12_minute (d + 4) 31 [some (.inr x0), some (.inl q.1)] [] q.2 o M' := by
  intro n
  induction n with
  | zero => intro q h; cases h
  | succ n ih =>
    intro q h he0
    cases hb : X12_minute_B31 x0 q with
    | none => rw [lp_succ, hb] at h; cases h
    | some out =>
      rw [lp_succ, hb] at h
      exact X12_minute_B31_ok hb (fun t e => ih t (by rw [e] at h; exact h) he0) (fun t e => he0 t (by rw [e] at h; cases h; rfl))
theorem X12_minute_B82_ok {w : Gw} {d : Nat} {x0 : Nat} {q : Int32 × Gm} {o : Go} {M' : Gm} {out : (Int32 × Gm) ⊕ Gm} (h : X12_minute_B82 x0 q = some out) (hc : ∀ t : Int32 × Gm, out = .inl t → Wp w mdX12_minute (d + 4) 82 [some (.inr x0), some (.inl t.1)] [] t.2 o M') (he0 : ∀ t : Gm, out = .inr t → Wp w mdX12_minute (d + 4) 101 [some (.inr x0), none] [] t o M') : Wp w mdX12_minute (d + 4) 82 [some (.inr x0), some (.inl q.1)] [] q.2 o M' := by
  unfold X12_minute_B82 at h
  refine wp_iload_n dX12_minute_82 rfl ?_
  refine wp_aload_n dX12_minute_83 rfl ?_
  obtain ⟨q1, e2, h⟩ := bnd h
  refine wp_callV (As := []) dX12_minute_84 (sh_X12_devices_ok (d := d + 3) e2) okX12_devices nnX12_devices vvX12_devices ml_RX12_263 rfl (Nat.le_of_ble_eq_true rfl) ?_
  refine wp_icmp_ge (tgt := 101) dX12_minute_87 (by decide) (fun hc_ => ?_) (fun hc_ => ?_)
  · replace h := ite_t hc_ h
    cases h
    exact wp_ls (lsS (lsN lsZ)) (he0 q.2 rfl)
  · replace h := ite_f hc_ h
    refine wp_aload_n dX12_minute_90 rfl ?_
    refine wp_iload_n dX12_minute_91 rfl ?_
    obtain ⟨q3, e4, h⟩ := bnd h
    refine wp_callV (As := [.inl q.1]) dX12_minute_92 (sh_X12_moves_ok (d := d + 1) e4) okX12_moves nnX12_moves vvX12_moves ml_RX12_336 rfl (Nat.le_of_ble_eq_true rfl) ?_
    refine wp_iinc (v := q.1 + 1) dX12_minute_95 rfl rfl ?_
    refine wp_goto (tgt := 82) dX12_minute_98 (by decide) ?_
    cases h
    exact wp_ls (lsS (lsS lsZ)) (hc (q.1 + 1, q3) rfl)

theorem X12_minute_B82_lp {w : Gw} {d : Nat} {x0 : Nat} {o : Go} {M' : Gm} {r : Gm} : ∀ (n : Nat) (q : Int32 × Gm), lp (X12_minute_B82 x0) n q = some r → (∀ t : Gm, r = t → Wp w mdX12_minute (d + 4) 101 [some (.inr x0), none] [] t o M') → Wp w mdX12_minute (d + 4) 82 [some (.inr x0), some (.inl q.1)] [] q.2 o M' := by
  intro n
  induction n with
  | zero => intro q h; cases h
  | succ n ih =>
    intro q h he0
    cases hb : X12_minute_B82 x0 q with
    | none => rw [lp_succ, hb] at h; cases h
    | some out =>
      rw [lp_succ, hb] at h
      exact X12_minute_B82_ok hb (fun t e => ih t (by rw [e] at h; exact h) he0) (fun t e => he0 t (by rw [e] at h; cases h; rfl))
theorem X12_minute_B103_ok {w : Gw} {d : Nat} {x0 : Nat} {q : Int32 × Gm} {o : Go} {M' : Gm} {out : (Int32 × Gm) ⊕ Gm} (h : X12_minute_B103 x0 q = some out) (hc : ∀ t : Int32 × Gm, out = .inl t → Wp w mdX12_minute (d + 4) 103 [some (.inr x0), some (.inl t.1)] [] t.2 o M') (he0 : ∀ t : Gm, out = .inr t → Wp w mdX12_minute (d + 4) 122 [some (.inr x0), none] [] t o M') : Wp w mdX12_minute (d + 4) 103 [some (.inr x0), some (.inl q.1)] [] q.2 o M' := by
  unfold X12_minute_B103 at h
  refine wp_iload_n dX12_minute_103 rfl ?_
  refine wp_aload_n dX12_minute_104 rfl ?_
  obtain ⟨q1, e2, h⟩ := bnd h
  refine wp_callV (As := []) dX12_minute_105 (sh_X12_trips_ok (d := d + 3) e2) okX12_trips nnX12_trips vvX12_trips ml_RX12_312 rfl (Nat.le_of_ble_eq_true rfl) ?_
  refine wp_icmp_ge (tgt := 122) dX12_minute_108 (by decide) (fun hc_ => ?_) (fun hc_ => ?_)
  · replace h := ite_t hc_ h
    cases h
    exact wp_ls (lsS (lsN lsZ)) (he0 q.2 rfl)
  · replace h := ite_f hc_ h
    refine wp_aload_n dX12_minute_111 rfl ?_
    refine wp_iload_n dX12_minute_112 rfl ?_
    obtain ⟨q3, e4, h⟩ := bnd h
    refine wp_callV (As := [.inl q.1]) dX12_minute_113 (sh_X12_shuts_ok (d := d + 1) e4) okX12_shuts nnX12_shuts vvX12_shuts ml_RX12_339 rfl (Nat.le_of_ble_eq_true rfl) ?_
    refine wp_iinc (v := q.1 + 1) dX12_minute_116 rfl rfl ?_
    refine wp_goto (tgt := 103) dX12_minute_119 (by decide) ?_
    cases h
    exact wp_ls (lsS (lsS lsZ)) (hc (q.1 + 1, q3) rfl)

theorem X12_minute_B103_lp {w : Gw} {d : Nat} {x0 : Nat} {o : Go} {M' : Gm} {r : Gm} : ∀ (n : Nat) (q : Int32 × Gm), lp (X12_minute_B103 x0) n q = some r → (∀ t : Gm, r = t → Wp w mdX12_minute (d + 4) 122 [some (.inr x0), none] [] t o M') → Wp w mdX12_minute (d + 4) 103 [some (.inr x0), some (.inl q.1)] [] q.2 o M' := by
  intro n
  induction n with
  | zero => intro q h; cases h
  | succ n ih =>
    intro q h he0
    cases hb : X12_minute_B103 x0 q with
    | none => rw [lp_succ, hb] at h; cases h
    | some out =>
      rw [lp_succ, hb] at h
      exact X12_minute_B103_ok hb (fun t e => ih t (by rw [e] at h; exact h) he0) (fun t e => he0 t (by rw [e] at h; cases h; rfl))
theorem X12_minute_F_ok {w : Gw} {d : Nat} {x0 : Nat} {M : Gm} {out : Gm} (h : X12_minute_F x0 M = some out) : Wp w mdX12_minute (d + 4) 0 [some (.inr x0), none] [] M (.inl none) out := by
  unfold X12_minute_F at h
  refine wp_aload_n dX12_minute_0 rfl ?_
  obtain ⟨q1, e2, h⟩ := bnd h
  refine wp_callV (As := []) dX12_minute_1 (sh_X12_heats_ok (d := d + 1) e2) okX12_heats nnX12_heats vvX12_heats ml_RX12_321 rfl (Nat.le_of_ble_eq_true rfl) ?_
  refine wp_aload_n dX12_minute_4 rfl ?_
  obtain ⟨q3, e4, h⟩ := bnd h
  refine wp_callV (As := []) dX12_minute_5 (sh_X12_readings_ok (d := d) e4) okX12_readings nnX12_readings vvX12_readings ml_RX12_324 rfl (Nat.le_of_ble_eq_true rfl) ?_
  refine wp_iconst (v := 0) dX12_minute_8 (by decide) ?_
  refine wp_istore_n dX12_minute_9 (Nat.le_of_ble_eq_true rfl) ?_
  obtain ⟨r5, e6, h⟩ := bnd h
  refine wp_ls (lsS (lsS lsZ)) (X12_minute_B10_lp FU _ e6 ?_)
  intro t_ ht_; cases ht_
  refine wp_iconst (v := 0) dX12_minute_29 (by decide) ?_
  refine wp_istore_n dX12_minute_30 (Nat.le_of_ble_eq_true rfl) ?_
  obtain ⟨r7, e8, h⟩ := bnd h
  refine wp_ls (lsS (lsS lsZ)) (X12_minute_B31_lp FU _ e8 ?_)
  intro t_ ht_; cases ht_
  refine wp_iconst (v := 0) dX12_minute_80 (by decide) ?_
  refine wp_istore_n dX12_minute_81 (Nat.le_of_ble_eq_true rfl) ?_
  obtain ⟨r9, e10, h⟩ := bnd h
  refine wp_ls (lsS (lsS lsZ)) (X12_minute_B82_lp FU _ e10 ?_)
  intro t_ ht_; cases ht_
  refine wp_iconst (v := 0) dX12_minute_101 (by decide) ?_
  refine wp_istore_n dX12_minute_102 (Nat.le_of_ble_eq_true rfl) ?_
  obtain ⟨r11, e12, h⟩ := bnd h
  refine wp_ls (lsS (lsS lsZ)) (X12_minute_B103_lp FU _ e12 ?_)
  intro t_ ht_; cases ht_
  refine wp_aload_n dX12_minute_122 rfl ?_
  obtain ⟨v13, e14, h⟩ := bnd h
  refine wp_getR (c := 12) (k := 5) dX12_minute_123 e14 (by decide) (by decide) rfl fl_RX12_58 ?_
  refine wp_sipush (v := 142) dX12_minute_126 (by decide) ?_
  refine wp_dup2 dX12_minute_129 ?_
  obtain ⟨v15, e16, h⟩ := bnd h
  refine wp_iaload dX12_minute_130 e16 ?_
  refine wp_iconst (v := 1) dX12_minute_131 (by decide) ?_
  refine wp_iadd dX12_minute_132 ?_
  obtain ⟨M17, e18, h⟩ := bnd h
  refine wp_iastore dX12_minute_133 e18 ?_
  cases h
  exact wp_ret dX12_minute_134 rfl

theorem sh_X12_minute_ok {w : Gw} {d : Nat} {x0 : Nat} {M : Gm} {out : Gm} (h : sh_X12_minute x0 M = some out) : Ev w mdX12_minute (d + 4) [.inr x0] M (.inl none) out := by
  obtain ⟨u, e0, h⟩ := bnd h
  exact ev_of okX12_minute ⟨_, _, rfl, isO_of e0 (by decide), by decide⟩ (Nat.le_of_ble_eq_true rfl) (X12_minute_F_ok h)

/-! HeatGovernorModel.tries()V -/
def X12_tries_F (x0 : Nat) (M : Gm) : Option (Gm) :=
  (gfR M x0 12 24).bind fun v1 =>
  (gfR M x0 12 5).bind fun v3 =>
  (sh_X12_copyTo v1 v3 M).bind fun q5 =>
  some q5
def sh_X12_tries (x0 : Nat) (M : Gm) : Option (Gm) := (isO M x0 12).bind fun _ => X12_tries_F x0 M
theorem X12_tries_F_ok {w : Gw} {d : Nat} {x0 : Nat} {M : Gm} {out : Gm} (h : X12_tries_F x0 M = some out) : Wp w mdX12_tries (d + 1) 0 [some (.inr x0)] [] M (.inl none) out := by
  unfold X12_tries_F at h
  refine wp_aload_n dX12_tries_0 rfl ?_
  obtain ⟨v1, e2, h⟩ := bnd h
  refine wp_getR (c := 12) (k := 24) dX12_tries_1 e2 (by decide) (by decide) rfl fl_RX12_88 ?_
  refine wp_aload_n dX12_tries_4 rfl ?_
  obtain ⟨v3, e4, h⟩ := bnd h
  refine wp_getR (c := 12) (k := 5) dX12_tries_5 e4 (by decide) (by decide) rfl fl_RX12_58 ?_
  obtain ⟨q5, e6, h⟩ := bnd h
  refine wp_callS (As := [.inr v1, .inr v3]) dX12_tries_8 (sh_X12_copyTo_ok (d := d) e6) okX12_copyTo nnX12_copyTo ssX12_copyTo ml_RX12_251 rfl (Nat.le_of_ble_eq_true rfl) ?_
  cases h
  exact wp_ret dX12_tries_11 rfl

theorem sh_X12_tries_ok {w : Gw} {d : Nat} {x0 : Nat} {M : Gm} {out : Gm} (h : sh_X12_tries x0 M = some out) : Ev w mdX12_tries (d + 1) [.inr x0] M (.inl none) out := by
  obtain ⟨u, e0, h⟩ := bnd h
  exact ev_of okX12_tries ⟨_, _, rfl, isO_of e0 (by decide), by decide⟩ (Nat.le_of_ble_eq_true rfl) (X12_tries_F_ok h)

/-! HeatGovernorModel.again()I -/
def X12_again_J33 (x0 : Nat) (x1 : Int32) (x2 : Int32) (M : Gm) : Option ((Int32 × Int32 × Gm) ⊕ (Int32 × Gm)) :=
  some (.inl (x1, x2 + 1, M))
def X12_again_B8 (x0 : Nat) (q : Int32 × Int32 × Gm) : Option ((Int32 × Int32 × Gm) ⊕ (Int32 × Gm)) :=
  if 200 < q.2.1 then
    some (.inr (q.1, q.2.2))
  else
    if q.1 = ((-1)) then
      (sh_X12_minute x0 q.2.2).bind fun q1 =>
      (sh_X12_isAgain x0 q1).bind fun q3 =>
      if q3 = 0 then
        X12_again_J33 x0 q.1 q.2.1 q1
      else
        X12_again_J33 x0 q.2.1 q.2.1 q1
    else
      some (.inr (q.1, q.2.2))
def X12_again_J39 (x0 : Nat) (x1 : Int32) (M : Gm) : Option (Int32 × Gm) :=
  (sh_X12_laysBack x0 M).bind fun q1 =>
  some (x1, q1)
def X12_again_F (x0 : Nat) (M : Gm) : Option (Int32 × Gm) :=
  (sh_X12_tries x0 M).bind fun q1 =>
  (lp (X12_again_B8 x0) FU ((-1), 1, q1)).bind fun r3 =>
  X12_again_J39 x0 r3.1 r3.2
def sh_X12_again (x0 : Nat) (M : Gm) : Option (Int32 × Gm) := (isO M x0 12).bind fun _ => X12_again_F x0 M
theorem X12_again_J33_ok {w : Gw} {d : Nat} {x0 : Nat} {x1 : Int32} {x2 : Int32} {M : Gm} {o : Go} {M' : Gm} {out : (Int32 × Int32 × Gm) ⊕ (Int32 × Gm)} (h : X12_again_J33 x0 x1 x2 M = some out) (hc : ∀ t : Int32 × Int32 × Gm, out = .inl t → Wp w mdX12_again (d + 5) 8 [some (.inr x0), some (.inl t.1), some (.inl t.2.1)] [] t.2.2 o M') (he0 : ∀ t : Int32 × Gm, out = .inr t → Wp w mdX12_again (d + 5) 39 [some (.inr x0), some (.inl t.1), none] [] t.2 o M') : Wp w mdX12_again (d + 5) 33 [some (.inr x0), some (.inl x1), some (.inl x2)] [] M o M' := by
  unfold X12_again_J33 at h
  refine wp_iinc (v := x2 + 1) dX12_again_33 rfl rfl ?_
  refine wp_goto (tgt := 8) dX12_again_36 (by decide) ?_
  cases h
  exact wp_ls (lsS (lsS (lsS lsZ))) (hc (x1, x2 + 1, M) rfl)

theorem X12_again_B8_ok {w : Gw} {d : Nat} {x0 : Nat} {q : Int32 × Int32 × Gm} {o : Go} {M' : Gm} {out : (Int32 × Int32 × Gm) ⊕ (Int32 × Gm)} (h : X12_again_B8 x0 q = some out) (hc : ∀ t : Int32 × Int32 × Gm, out = .inl t → Wp w mdX12_again (d + 5) 8 [some (.inr x0), some (.inl t.1), some (.inl t.2.1)] [] t.2.2 o M') (he0 : ∀ t : Int32 × Gm, out = .inr t → Wp w mdX12_again (d + 5) 39 [some (.inr x0), some (.inl t.1), none] [] t.2 o M') : Wp w mdX12_again (d + 5) 8 [some (.inr x0), some (.inl q.1), some (.inl q.2.1)] [] q.2.2 o M' := by
  unfold X12_again_B8 at h
  refine wp_iload_n dX12_again_8 rfl ?_
  refine wp_sipush (v := 200) dX12_again_9 (by decide) ?_
  refine wp_icmp_gt (tgt := 39) dX12_again_12 (by decide) (fun hc_ => ?_) (fun hc_ => ?_)
  · replace h := ite_t hc_ h
    cases h
    exact wp_ls (lsS (lsS (lsN lsZ))) (he0 (q.1, q.2.2) rfl)
  · replace h := ite_f hc_ h
    refine wp_iload_n dX12_again_15 rfl ?_
    refine wp_iconst (v := (-1)) dX12_again_16 (by decide) ?_
    refine wp_icmp_ne (tgt := 39) dX12_again_17 (by decide) (fun hc_ => ?_) (fun hc_ => ?_)
    · replace h := ite_f hc_ h
      cases h
      exact wp_ls (lsS (lsS (lsN lsZ))) (he0 (q.1, q.2.2) rfl)
    · replace h := ite_t hc_ h
      refine wp_aload_n dX12_again_20 rfl ?_
      obtain ⟨q1, e2, h⟩ := bnd h
      refine wp_callV (As := []) dX12_again_21 (sh_X12_minute_ok (d := d) e2) okX12_minute nnX12_minute vvX12_minute ml_RX12_351 rfl (Nat.le_of_ble_eq_true rfl) ?_
      refine wp_aload_n dX12_again_24 rfl ?_
      obtain ⟨q3, e4, h⟩ := bnd h
      refine wp_callV (As := []) dX12_again_25 (sh_X12_isAgain_ok (d := d + 3) e4) okX12_isAgain nnX12_isAgain vvX12_isAgain ml_RX12_365 rfl (Nat.le_of_ble_eq_true rfl) ?_
      refine wp_if_eq (tgt := 33) dX12_again_28 (by decide) (fun hc_ => ?_) (fun hc_ => ?_)
      · replace h := ite_t hc_ h
        exact wp_ls (lsS (lsS (lsS lsZ))) (X12_again_J33_ok h hc he0)
      · replace h := ite_f hc_ h
        refine wp_iload_n dX12_again_31 rfl ?_
        refine wp_istore_n dX12_again_32 (Nat.le_of_ble_eq_true rfl) ?_
        exact wp_ls (lsS (lsS (lsS lsZ))) (X12_again_J33_ok h hc he0)

theorem X12_again_B8_lp {w : Gw} {d : Nat} {x0 : Nat} {o : Go} {M' : Gm} {r : (Int32 × Gm)} : ∀ (n : Nat) (q : Int32 × Int32 × Gm), lp (X12_again_B8 x0) n q = some r → (∀ t : Int32 × Gm, r = t → Wp w mdX12_again (d + 5) 39 [some (.inr x0), some (.inl t.1), none] [] t.2 o M') → Wp w mdX12_again (d + 5) 8 [some (.inr x0), some (.inl q.1), some (.inl q.2.1)] [] q.2.2 o M' := by
  intro n
  induction n with
  | zero => intro q h; cases h
  | succ n ih =>
    intro q h he0
    cases hb : X12_again_B8 x0 q with
    | none => rw [lp_succ, hb] at h; cases h
    | some out =>
      rw [lp_succ, hb] at h
      exact X12_again_B8_ok hb (fun t e => ih t (by rw [e] at h; exact h) he0) (fun t e => he0 t (by rw [e] at h; cases h; rfl))
theorem X12_again_J39_ok {w : Gw} {d : Nat} {x0 : Nat} {x1 : Int32} {M : Gm} {out : Int32 × Gm} (h : X12_again_J39 x0 x1 M = some out) : Wp w mdX12_again (d + 5) 39 [some (.inr x0), some (.inl x1), none] [] M (.inl (some (.inl out.1))) out.2 := by
  unfold X12_again_J39 at h
  refine wp_aload_n dX12_again_39 rfl ?_
  obtain ⟨q1, e2, h⟩ := bnd h
  refine wp_callV (As := []) dX12_again_40 (sh_X12_laysBack_ok (d := d + 3) e2) okX12_laysBack nnX12_laysBack vvX12_laysBack ml_RX12_359 rfl (Nat.le_of_ble_eq_true rfl) ?_
  refine wp_iload_n dX12_again_43 rfl ?_
  cases h
  exact wp_iret dX12_again_44 rfl

theorem X12_again_F_ok {w : Gw} {d : Nat} {x0 : Nat} {M : Gm} {out : Int32 × Gm} (h : X12_again_F x0 M = some out) : Wp w mdX12_again (d + 5) 0 [some (.inr x0), none, none] [] M (.inl (some (.inl out.1))) out.2 := by
  unfold X12_again_F at h
  refine wp_aload_n dX12_again_0 rfl ?_
  obtain ⟨q1, e2, h⟩ := bnd h
  refine wp_callV (As := []) dX12_again_1 (sh_X12_tries_ok (d := d + 3) e2) okX12_tries nnX12_tries vvX12_tries ml_RX12_342 rfl (Nat.le_of_ble_eq_true rfl) ?_
  refine wp_iconst (v := (-1)) dX12_again_4 (by decide) ?_
  refine wp_istore_n dX12_again_5 (Nat.le_of_ble_eq_true rfl) ?_
  refine wp_iconst (v := 1) dX12_again_6 (by decide) ?_
  refine wp_istore_n dX12_again_7 (Nat.le_of_ble_eq_true rfl) ?_
  obtain ⟨r3, e4, h⟩ := bnd h
  refine wp_ls (lsS (lsS (lsS lsZ))) (X12_again_B8_lp FU _ e4 ?_)
  intro t_ ht_; cases ht_
  exact wp_ls (lsS (lsS (lsN lsZ))) (X12_again_J39_ok h)

theorem sh_X12_again_ok {w : Gw} {d : Nat} {x0 : Nat} {M : Gm} {out : Int32 × Gm} (h : sh_X12_again x0 M = some out) : Ev w mdX12_again (d + 5) [.inr x0] M (.inl (some (.inl out.1))) out.2 := by
  obtain ⟨u, e0, h⟩ := bnd h
  exact ev_of okX12_again ⟨_, _, rfl, isO_of e0 (by decide), by decide⟩ (Nat.le_of_ble_eq_true rfl) (X12_again_F_ok h)

/-! HeatGovernorModel.shutSet()I -/
def X12_shutSet_B4 (x0 : Nat) (M : Gm) (q : Int32 × Int32) : Option ((Int32 × Int32) ⊕ Int32) :=
  (sh_X12_zones x0 M).bind fun q1 =>
  if q1 ≤ q.2 then
    some (.inr q.1)
  else
    (gfR M x0 12 5).bind fun v3 =>
    (ldA M 0 v3 (10 + q.2)).bind fun v5 =>
    some (.inl (q.1 ||| (v5 <<< (q.2 &&& 31)), q.2 + 1))
def X12_shutSet_F (x0 : Nat) (M : Gm) : Option (Int32) :=
  (lp (X12_shutSet_B4 x0 M) FU (0, 0)).bind fun r1 =>
  some r1
def sh_X12_shutSet (x0 : Nat) (M : Gm) : Option (Int32) := (isO M x0 12).bind fun _ => X12_shutSet_F x0 M
theorem X12_shutSet_B4_ok {w : Gw} {d : Nat} {x0 : Nat} {M : Gm} {q : Int32 × Int32} {o : Go} {M' : Gm} {out : (Int32 × Int32) ⊕ Int32} (h : X12_shutSet_B4 x0 M q = some out) (hc : ∀ t : Int32 × Int32, out = .inl t → Wp w mdX12_shutSet (d + 1) 4 [some (.inr x0), some (.inl t.1), some (.inl t.2)] [] M o M') (he0 : ∀ t : Int32, out = .inr t → Wp w mdX12_shutSet (d + 1) 32 [none, some (.inl t), none] [] M o M') : Wp w mdX12_shutSet (d + 1) 4 [some (.inr x0), some (.inl q.1), some (.inl q.2)] [] M o M' := by
  unfold X12_shutSet_B4 at h
  refine wp_iload_n dX12_shutSet_4 rfl ?_
  refine wp_aload_n dX12_shutSet_5 rfl ?_
  obtain ⟨q1, e2, h⟩ := bnd h
  refine wp_callV (As := []) dX12_shutSet_6 (sh_X12_zones_ok (d := d) e2) okX12_zones nnX12_zones vvX12_zones ml_RX12_266 rfl (Nat.le_of_ble_eq_true rfl) ?_
  refine wp_icmp_ge (tgt := 32) dX12_shutSet_9 (by decide) (fun hc_ => ?_) (fun hc_ => ?_)
  · replace h := ite_t hc_ h
    cases h
    exact wp_ls (lsN (lsS (lsN lsZ))) (he0 q.1 rfl)
  · replace h := ite_f hc_ h
    refine wp_iload_n dX12_shutSet_12 rfl ?_
    refine wp_aload_n dX12_shutSet_13 rfl ?_
    obtain ⟨v3, e4, h⟩ := bnd h
    refine wp_getR (c := 12) (k := 5) dX12_shutSet_14 e4 (by decide) (by decide) rfl fl_RX12_58 ?_
    refine wp_bipush (v := 10) dX12_shutSet_17 (by decide) ?_
    refine wp_iload_n dX12_shutSet_19 rfl ?_
    refine wp_iadd dX12_shutSet_20 ?_
    obtain ⟨v5, e6, h⟩ := bnd h
    refine wp_iaload dX12_shutSet_21 e6 ?_
    refine wp_iload_n dX12_shutSet_22 rfl ?_
    refine wp_ishl dX12_shutSet_23 ?_
    refine wp_ior dX12_shutSet_24 ?_
    refine wp_istore_n dX12_shutSet_25 (Nat.le_of_ble_eq_true rfl) ?_
    refine wp_iinc (v := q.2 + 1) dX12_shutSet_26 rfl rfl ?_
    refine wp_goto (tgt := 4) dX12_shutSet_29 (by decide) ?_
    cases h
    exact wp_ls (lsS (lsS (lsS lsZ))) (hc (q.1 ||| (v5 <<< (q.2 &&& 31)), q.2 + 1) rfl)

theorem X12_shutSet_B4_lp {w : Gw} {d : Nat} {x0 : Nat} {M : Gm} {o : Go} {M' : Gm} {r : Int32} : ∀ (n : Nat) (q : Int32 × Int32), lp (X12_shutSet_B4 x0 M) n q = some r → (∀ t : Int32, r = t → Wp w mdX12_shutSet (d + 1) 32 [none, some (.inl t), none] [] M o M') → Wp w mdX12_shutSet (d + 1) 4 [some (.inr x0), some (.inl q.1), some (.inl q.2)] [] M o M' := by
  intro n
  induction n with
  | zero => intro q h; cases h
  | succ n ih =>
    intro q h he0
    cases hb : X12_shutSet_B4 x0 M q with
    | none => rw [lp_succ, hb] at h; cases h
    | some out =>
      rw [lp_succ, hb] at h
      exact X12_shutSet_B4_ok hb (fun t e => ih t (by rw [e] at h; exact h) he0) (fun t e => he0 t (by rw [e] at h; cases h; rfl))
theorem X12_shutSet_F_ok {w : Gw} {d : Nat} {x0 : Nat} {M : Gm} {out : Int32} (h : X12_shutSet_F x0 M = some out) : Wp w mdX12_shutSet (d + 1) 0 [some (.inr x0), none, none] [] M (.inl (some (.inl out))) M := by
  unfold X12_shutSet_F at h
  refine wp_iconst (v := 0) dX12_shutSet_0 (by decide) ?_
  refine wp_istore_n dX12_shutSet_1 (Nat.le_of_ble_eq_true rfl) ?_
  refine wp_iconst (v := 0) dX12_shutSet_2 (by decide) ?_
  refine wp_istore_n dX12_shutSet_3 (Nat.le_of_ble_eq_true rfl) ?_
  obtain ⟨r1, e2, h⟩ := bnd h
  refine wp_ls (lsS (lsS (lsS lsZ))) (X12_shutSet_B4_lp FU _ e2 ?_)
  intro t_ ht_; cases ht_
  refine wp_iload_n dX12_shutSet_32 rfl ?_
  cases h
  exact wp_iret dX12_shutSet_33 rfl

theorem sh_X12_shutSet_ok {w : Gw} {d : Nat} {x0 : Nat} {M : Gm} {out : Int32} (h : sh_X12_shutSet x0 M = some out) : Ev w mdX12_shutSet (d + 1) [.inr x0] M (.inl (some (.inl out))) M := by
  obtain ⟨u, e0, h⟩ := bnd h
  exact ev_of okX12_shutSet ⟨_, _, rfl, isO_of e0 (by decide), by decide⟩ (Nat.le_of_ble_eq_true rfl) (X12_shutSet_F_ok h)

/-! java/lang/Integer.numberOfTrailingZeros(I)I -/
def J6_numberOfTrailingZeros_0f7a4_J74 (x0 : Int32) (x1 : Int32) (M : Gm) : Option (Int32) :=
  some (x1 + (ushI x0 1))
def J6_numberOfTrailingZeros_0f7a4_J62 (x0 : Int32) (x1 : Int32) (M : Gm) : Option (Int32) :=
  if x0 ≤ 4 then
    J6_numberOfTrailingZeros_0f7a4_J74 x0 x1 M
  else
    J6_numberOfTrailingZeros_0f7a4_J74 (ushI x0 2) (x1 + 2) M
def J6_numberOfTrailingZeros_0f7a4_J49 (x0 : Int32) (x1 : Int32) (M : Gm) : Option (Int32) :=
  if x0 ≤ 16 then
    J6_numberOfTrailingZeros_0f7a4_J62 x0 x1 M
  else
    J6_numberOfTrailingZeros_0f7a4_J62 (ushI x0 4) (x1 + 4) M
def J6_numberOfTrailingZeros_0f7a4_J34 (x0 : Int32) (x1 : Int32) (M : Gm) : Option (Int32) :=
  if x0 ≤ 256 then
    J6_numberOfTrailingZeros_0f7a4_J49 x0 x1 M
  else
    J6_numberOfTrailingZeros_0f7a4_J49 (ushI x0 8) (x1 + 8) M
def J6_numberOfTrailingZeros_0f7a4_F (x0 : Int32) (M : Gm) : Option (Int32) :=
  if 0 < ((x0 ^^^ ((-1))) &&& (x0 - 1)) then
    if ((x0 ^^^ ((-1))) &&& (x0 - 1)) ≤ 65536 then
      J6_numberOfTrailingZeros_0f7a4_J34 ((x0 ^^^ ((-1))) &&& (x0 - 1)) 1 M
    else
      J6_numberOfTrailingZeros_0f7a4_J34 (ushI ((x0 ^^^ ((-1))) &&& (x0 - 1)) 16) (1 + 16) M
  else
    some (((x0 ^^^ ((-1))) &&& (x0 - 1)) &&& 32)
def sh_J6_numberOfTrailingZeros_0f7a4 (x0 : Int32) (M : Gm) : Option (Int32) := J6_numberOfTrailingZeros_0f7a4_F x0 M
theorem J6_numberOfTrailingZeros_0f7a4_J74_ok {w : Gw} {d : Nat} {x0 : Int32} {x1 : Int32} {M : Gm} {out : Int32} (h : J6_numberOfTrailingZeros_0f7a4_J74 x0 x1 M = some out) : Wp w mdJ6_numberOfTrailingZeros_0f7a4 d 74 [some (.inl x0), some (.inl x1)] [] M (.inl (some (.inl out))) M := by
  unfold J6_numberOfTrailingZeros_0f7a4_J74 at h
  refine wp_iload_n dJ6_numberOfTrailingZeros_0f7a4_74 rfl ?_
  refine wp_iload_n dJ6_numberOfTrailingZeros_0f7a4_75 rfl ?_
  refine wp_iconst (v := 1) dJ6_numberOfTrailingZeros_0f7a4_76 (by decide) ?_
  refine wp_iushr dJ6_numberOfTrailingZeros_0f7a4_77 ?_
  refine wp_iadd dJ6_numberOfTrailingZeros_0f7a4_78 ?_
  cases h
  exact wp_iret dJ6_numberOfTrailingZeros_0f7a4_79 rfl

theorem J6_numberOfTrailingZeros_0f7a4_J62_ok {w : Gw} {d : Nat} {x0 : Int32} {x1 : Int32} {M : Gm} {out : Int32} (h : J6_numberOfTrailingZeros_0f7a4_J62 x0 x1 M = some out) : Wp w mdJ6_numberOfTrailingZeros_0f7a4 d 62 [some (.inl x0), some (.inl x1)] [] M (.inl (some (.inl out))) M := by
  unfold J6_numberOfTrailingZeros_0f7a4_J62 at h
  refine wp_iload_n dJ6_numberOfTrailingZeros_0f7a4_62 rfl ?_
  refine wp_iconst (v := 4) dJ6_numberOfTrailingZeros_0f7a4_63 (by decide) ?_
  refine wp_icmp_le (tgt := 74) dJ6_numberOfTrailingZeros_0f7a4_64 (by decide) (fun hc_ => ?_) (fun hc_ => ?_)
  · replace h := ite_t hc_ h
    exact wp_ls (lsS (lsS lsZ)) (J6_numberOfTrailingZeros_0f7a4_J74_ok h)
  · replace h := ite_f hc_ h
    refine wp_iinc (v := x1 + 2) dJ6_numberOfTrailingZeros_0f7a4_67 rfl rfl ?_
    refine wp_iload_n dJ6_numberOfTrailingZeros_0f7a4_70 rfl ?_
    refine wp_iconst (v := 2) dJ6_numberOfTrailingZeros_0f7a4_71 (by decide) ?_
    refine wp_iushr dJ6_numberOfTrailingZeros_0f7a4_72 ?_
    refine wp_istore_n dJ6_numberOfTrailingZeros_0f7a4_73 (Nat.le_of_ble_eq_true rfl) ?_
    exact wp_ls (lsS (lsS lsZ)) (J6_numberOfTrailingZeros_0f7a4_J74_ok h)

theorem J6_numberOfTrailingZeros_0f7a4_J49_ok {w : Gw} {d : Nat} {x0 : Int32} {x1 : Int32} {M : Gm} {out : Int32} (h : J6_numberOfTrailingZeros_0f7a4_J49 x0 x1 M = some out) : Wp w mdJ6_numberOfTrailingZeros_0f7a4 d 49 [some (.inl x0), some (.inl x1)] [] M (.inl (some (.inl out))) M := by
  unfold J6_numberOfTrailingZeros_0f7a4_J49 at h
  refine wp_iload_n dJ6_numberOfTrailingZeros_0f7a4_49 rfl ?_
  refine wp_bipush (v := 16) dJ6_numberOfTrailingZeros_0f7a4_50 (by decide) ?_
  refine wp_icmp_le (tgt := 62) dJ6_numberOfTrailingZeros_0f7a4_52 (by decide) (fun hc_ => ?_) (fun hc_ => ?_)
  · replace h := ite_t hc_ h
    exact wp_ls (lsS (lsS lsZ)) (J6_numberOfTrailingZeros_0f7a4_J62_ok h)
  · replace h := ite_f hc_ h
    refine wp_iinc (v := x1 + 4) dJ6_numberOfTrailingZeros_0f7a4_55 rfl rfl ?_
    refine wp_iload_n dJ6_numberOfTrailingZeros_0f7a4_58 rfl ?_
    refine wp_iconst (v := 4) dJ6_numberOfTrailingZeros_0f7a4_59 (by decide) ?_
    refine wp_iushr dJ6_numberOfTrailingZeros_0f7a4_60 ?_
    refine wp_istore_n dJ6_numberOfTrailingZeros_0f7a4_61 (Nat.le_of_ble_eq_true rfl) ?_
    exact wp_ls (lsS (lsS lsZ)) (J6_numberOfTrailingZeros_0f7a4_J62_ok h)

theorem J6_numberOfTrailingZeros_0f7a4_J34_ok {w : Gw} {d : Nat} {x0 : Int32} {x1 : Int32} {M : Gm} {out : Int32} (h : J6_numberOfTrailingZeros_0f7a4_J34 x0 x1 M = some out) : Wp w mdJ6_numberOfTrailingZeros_0f7a4 d 34 [some (.inl x0), some (.inl x1)] [] M (.inl (some (.inl out))) M := by
  unfold J6_numberOfTrailingZeros_0f7a4_J34 at h
  refine wp_iload_n dJ6_numberOfTrailingZeros_0f7a4_34 rfl ?_
  refine wp_sipush (v := 256) dJ6_numberOfTrailingZeros_0f7a4_35 (by decide) ?_
  refine wp_icmp_le (tgt := 49) dJ6_numberOfTrailingZeros_0f7a4_38 (by decide) (fun hc_ => ?_) (fun hc_ => ?_)
  · replace h := ite_t hc_ h
    exact wp_ls (lsS (lsS lsZ)) (J6_numberOfTrailingZeros_0f7a4_J49_ok h)
  · replace h := ite_f hc_ h
    refine wp_iinc (v := x1 + 8) dJ6_numberOfTrailingZeros_0f7a4_41 rfl rfl ?_
    refine wp_iload_n dJ6_numberOfTrailingZeros_0f7a4_44 rfl ?_
    refine wp_bipush (v := 8) dJ6_numberOfTrailingZeros_0f7a4_45 (by decide) ?_
    refine wp_iushr dJ6_numberOfTrailingZeros_0f7a4_47 ?_
    refine wp_istore_n dJ6_numberOfTrailingZeros_0f7a4_48 (Nat.le_of_ble_eq_true rfl) ?_
    exact wp_ls (lsS (lsS lsZ)) (J6_numberOfTrailingZeros_0f7a4_J49_ok h)

theorem J6_numberOfTrailingZeros_0f7a4_F_ok {w : Gw} {d : Nat} {x0 : Int32} {M : Gm} {out : Int32} (h : J6_numberOfTrailingZeros_0f7a4_F x0 M = some out) : Wp w mdJ6_numberOfTrailingZeros_0f7a4 d 0 [some (.inl x0), none] [] M (.inl (some (.inl out))) M := by
  unfold J6_numberOfTrailingZeros_0f7a4_F at h
  refine wp_iload_n dJ6_numberOfTrailingZeros_0f7a4_0 rfl ?_
  refine wp_iconst (v := (-1)) dJ6_numberOfTrailingZeros_0f7a4_1 (by decide) ?_
  refine wp_ixor dJ6_numberOfTrailingZeros_0f7a4_2 ?_
  refine wp_iload_n dJ6_numberOfTrailingZeros_0f7a4_3 rfl ?_
  refine wp_iconst (v := 1) dJ6_numberOfTrailingZeros_0f7a4_4 (by decide) ?_
  refine wp_isub dJ6_numberOfTrailingZeros_0f7a4_5 ?_
  refine wp_iand dJ6_numberOfTrailingZeros_0f7a4_6 ?_
  refine wp_istore_n dJ6_numberOfTrailingZeros_0f7a4_7 (Nat.le_of_ble_eq_true rfl) ?_
  refine wp_iload_n dJ6_numberOfTrailingZeros_0f7a4_8 rfl ?_
  refine wp_if_gt (tgt := 17) dJ6_numberOfTrailingZeros_0f7a4_9 (by decide) (fun hc_ => ?_) (fun hc_ => ?_)
  · replace h := ite_t hc_ h
    refine wp_iconst (v := 1) dJ6_numberOfTrailingZeros_0f7a4_17 (by decide) ?_
    refine wp_istore_n dJ6_numberOfTrailingZeros_0f7a4_18 (Nat.le_of_ble_eq_true rfl) ?_
    refine wp_iload_n dJ6_numberOfTrailingZeros_0f7a4_19 rfl ?_
    refine wp_ldc_w (v := 65536) dJ6_numberOfTrailingZeros_0f7a4_20 ct_RJ6_264 ?_
    refine wp_icmp_le (tgt := 34) dJ6_numberOfTrailingZeros_0f7a4_23 (by decide) (fun hc_ => ?_) (fun hc_ => ?_)
    · replace h := ite_t hc_ h
      exact wp_ls (lsS (lsS lsZ)) (J6_numberOfTrailingZeros_0f7a4_J34_ok h)
    · replace h := ite_f hc_ h
      refine wp_iinc (v := 1 + 16) dJ6_numberOfTrailingZeros_0f7a4_26 rfl rfl ?_
      refine wp_iload_n dJ6_numberOfTrailingZeros_0f7a4_29 rfl ?_
      refine wp_bipush (v := 16) dJ6_numberOfTrailingZeros_0f7a4_30 (by decide) ?_
      refine wp_iushr dJ6_numberOfTrailingZeros_0f7a4_32 ?_
      refine wp_istore_n dJ6_numberOfTrailingZeros_0f7a4_33 (Nat.le_of_ble_eq_true rfl) ?_
      exact wp_ls (lsS (lsS lsZ)) (J6_numberOfTrailingZeros_0f7a4_J34_ok h)
  · replace h := ite_f hc_ h
    refine wp_iload_n dJ6_numberOfTrailingZeros_0f7a4_12 rfl ?_
    refine wp_bipush (v := 32) dJ6_numberOfTrailingZeros_0f7a4_13 (by decide) ?_
    refine wp_iand dJ6_numberOfTrailingZeros_0f7a4_15 ?_
    cases h
    exact wp_iret dJ6_numberOfTrailingZeros_0f7a4_16 rfl

theorem sh_J6_numberOfTrailingZeros_0f7a4_ok {w : Gw} {d : Nat} {x0 : Int32} {M : Gm} {out : Int32} (h : sh_J6_numberOfTrailingZeros_0f7a4 x0 M = some out) : Ev w mdJ6_numberOfTrailingZeros_0f7a4 d [.inl x0] M (.inl (some (.inl out))) M := ev_of okJ6_numberOfTrailingZeros_0f7a4 trivial (Nat.le_of_ble_eq_true rfl) (J6_numberOfTrailingZeros_0f7a4_F_ok h)

/-! HeatGovernorModel.first()I -/
def X12_first_J63 (x0 : Nat) (x1 : Int32) (x2 : Int32) (x3 : Int32) (M : Gm) : Option ((Int32 × Int32 × Gm) ⊕ (Int32 × Gm)) :=
  some (.inl (x2, x3 + 1, M))
def X12_first_B18 (x0 : Nat) (x1 : Int32) (q : Int32 × Int32 × Gm) : Option ((Int32 × Int32 × Gm) ⊕ (Int32 × Gm)) :=
  if 200 < q.2.1 then
    some (.inr (q.1, q.2.2))
  else
    if q.1 = ((-1)) then
      (sh_X12_minute x0 q.2.2).bind fun q1 =>
      (sh_X12_shutSet x0 q1).bind fun q3 =>
      if (q3 &&& (x1 ^^^ ((-1)))) = 0 then
        X12_first_J63 x0 x1 q.1 q.2.1 q1
      else
        (sh_J6_numberOfTrailingZeros_0f7a4 (q3 &&& (x1 ^^^ ((-1)))) q1).bind fun q5 =>
        (pfI q1 x0 12 25 q5).bind fun M7 =>
        X12_first_J63 x0 x1 q.2.1 q.2.1 M7
    else
      some (.inr (q.1, q.2.2))
def X12_first_J69 (x0 : Nat) (x2 : Int32) (M : Gm) : Option (Int32 × Gm) :=
  (sh_X12_laysBack x0 M).bind fun q1 =>
  some (x2, q1)
def X12_first_F (x0 : Nat) (M : Gm) : Option (Int32 × Gm) :=
  (sh_X12_tries x0 M).bind fun q1 =>
  (sh_X12_shutSet x0 q1).bind fun q3 =>
  (pfI q1 x0 12 25 ((-1))).bind fun M5 =>
  (lp (X12_first_B18 x0 q3) FU ((-1), 1, M5)).bind fun r7 =>
  X12_first_J69 x0 r7.1 r7.2
def sh_X12_first (x0 : Nat) (M : Gm) : Option (Int32 × Gm) := (isO M x0 12).bind fun _ => X12_first_F x0 M
theorem X12_first_J63_ok {w : Gw} {d : Nat} {x0 : Nat} {x1 : Int32} {x2 : Int32} {x3 : Int32} {M : Gm} {o : Go} {M' : Gm} {out : (Int32 × Int32 × Gm) ⊕ (Int32 × Gm)} (h : X12_first_J63 x0 x1 x2 x3 M = some out) (hc : ∀ t : Int32 × Int32 × Gm, out = .inl t → Wp w mdX12_first (d + 5) 18 [some (.inr x0), some (.inl x1), some (.inl t.1), some (.inl t.2.1), none] [] t.2.2 o M') (he0 : ∀ t : Int32 × Gm, out = .inr t → Wp w mdX12_first (d + 5) 69 [some (.inr x0), none, some (.inl t.1), none, none] [] t.2 o M') : Wp w mdX12_first (d + 5) 63 [some (.inr x0), some (.inl x1), some (.inl x2), some (.inl x3), none] [] M o M' := by
  unfold X12_first_J63 at h
  refine wp_iinc (v := x3 + 1) dX12_first_63 rfl rfl ?_
  refine wp_goto (tgt := 18) dX12_first_66 (by decide) ?_
  cases h
  exact wp_ls (lsS (lsS (lsS (lsS (lsN lsZ))))) (hc (x2, x3 + 1, M) rfl)

theorem X12_first_B18_ok {w : Gw} {d : Nat} {x0 : Nat} {x1 : Int32} {q : Int32 × Int32 × Gm} {o : Go} {M' : Gm} {out : (Int32 × Int32 × Gm) ⊕ (Int32 × Gm)} (h : X12_first_B18 x0 x1 q = some out) (hc : ∀ t : Int32 × Int32 × Gm, out = .inl t → Wp w mdX12_first (d + 5) 18 [some (.inr x0), some (.inl x1), some (.inl t.1), some (.inl t.2.1), none] [] t.2.2 o M') (he0 : ∀ t : Int32 × Gm, out = .inr t → Wp w mdX12_first (d + 5) 69 [some (.inr x0), none, some (.inl t.1), none, none] [] t.2 o M') : Wp w mdX12_first (d + 5) 18 [some (.inr x0), some (.inl x1), some (.inl q.1), some (.inl q.2.1), none] [] q.2.2 o M' := by
  unfold X12_first_B18 at h
  refine wp_iload_n dX12_first_18 rfl ?_
  refine wp_sipush (v := 200) dX12_first_19 (by decide) ?_
  refine wp_icmp_gt (tgt := 69) dX12_first_22 (by decide) (fun hc_ => ?_) (fun hc_ => ?_)
  · replace h := ite_t hc_ h
    cases h
    exact wp_ls (lsS (lsN (lsS (lsN (lsN lsZ))))) (he0 (q.1, q.2.2) rfl)
  · replace h := ite_f hc_ h
    refine wp_iload_n dX12_first_25 rfl ?_
    refine wp_iconst (v := (-1)) dX12_first_26 (by decide) ?_
    refine wp_icmp_ne (tgt := 69) dX12_first_27 (by decide) (fun hc_ => ?_) (fun hc_ => ?_)
    · replace h := ite_f hc_ h
      cases h
      exact wp_ls (lsS (lsN (lsS (lsN (lsN lsZ))))) (he0 (q.1, q.2.2) rfl)
    · replace h := ite_t hc_ h
      refine wp_aload_n dX12_first_30 rfl ?_
      obtain ⟨q1, e2, h⟩ := bnd h
      refine wp_callV (As := []) dX12_first_31 (sh_X12_minute_ok (d := d) e2) okX12_minute nnX12_minute vvX12_minute ml_RX12_351 rfl (Nat.le_of_ble_eq_true rfl) ?_
      refine wp_aload_n dX12_first_34 rfl ?_
      obtain ⟨q3, e4, h⟩ := bnd h
      refine wp_callV (As := []) dX12_first_35 (sh_X12_shutSet_ok (d := d + 3) e4) okX12_shutSet nnX12_shutSet vvX12_shutSet ml_RX12_345 rfl (Nat.le_of_ble_eq_true rfl) ?_
      refine wp_iload_n dX12_first_38 rfl ?_
      refine wp_iconst (v := (-1)) dX12_first_39 (by decide) ?_
      refine wp_ixor dX12_first_40 ?_
      refine wp_iand dX12_first_41 ?_
      refine wp_istore dX12_first_42 (Nat.le_of_ble_eq_true rfl) ?_
      refine wp_iload dX12_first_44 rfl ?_
      refine wp_if_ne (tgt := 52) dX12_first_46 (by decide) (fun hc_ => ?_) (fun hc_ => ?_)
      · replace h := ite_f hc_ h
        refine wp_iload_n dX12_first_52 rfl ?_
        refine wp_istore_n dX12_first_53 (Nat.le_of_ble_eq_true rfl) ?_
        refine wp_aload_n dX12_first_54 rfl ?_
        refine wp_iload dX12_first_55 rfl ?_
        obtain ⟨q5, e6, h⟩ := bnd h
        refine wp_callS (As := [.inl (q3 &&& (x1 ^^^ ((-1))))]) dX12_first_57 (sh_J6_numberOfTrailingZeros_0f7a4_ok (d := d + 4) e6) okJ6_numberOfTrailingZeros_0f7a4 nnJ6_numberOfTrailingZeros_0f7a4 ssJ6_numberOfTrailingZeros_0f7a4 ml_RX12_354 rfl (Nat.le_of_ble_eq_true rfl) ?_
        obtain ⟨M7, e8, h⟩ := bnd h
        refine wp_putI (c := 12) (k := 25) dX12_first_60 e8 (by decide) (by decide) rfl fl_RX12_348 (Or.inl rfl) ?_
        exact wp_ls (lsS (lsS (lsS (lsS (lsN lsZ))))) (X12_first_J63_ok h hc he0)
      · replace h := ite_t hc_ h
        refine wp_goto (tgt := 63) dX12_first_49 (by decide) ?_
        exact wp_ls (lsS (lsS (lsS (lsS (lsN lsZ))))) (X12_first_J63_ok h hc he0)

theorem X12_first_B18_lp {w : Gw} {d : Nat} {x0 : Nat} {x1 : Int32} {o : Go} {M' : Gm} {r : (Int32 × Gm)} : ∀ (n : Nat) (q : Int32 × Int32 × Gm), lp (X12_first_B18 x0 x1) n q = some r → (∀ t : Int32 × Gm, r = t → Wp w mdX12_first (d + 5) 69 [some (.inr x0), none, some (.inl t.1), none, none] [] t.2 o M') → Wp w mdX12_first (d + 5) 18 [some (.inr x0), some (.inl x1), some (.inl q.1), some (.inl q.2.1), none] [] q.2.2 o M' := by
  intro n
  induction n with
  | zero => intro q h; cases h
  | succ n ih =>
    intro q h he0
    cases hb : X12_first_B18 x0 x1 q with
    | none => rw [lp_succ, hb] at h; cases h
    | some out =>
      rw [lp_succ, hb] at h
      exact X12_first_B18_ok hb (fun t e => ih t (by rw [e] at h; exact h) he0) (fun t e => he0 t (by rw [e] at h; cases h; rfl))
theorem X12_first_J69_ok {w : Gw} {d : Nat} {x0 : Nat} {x2 : Int32} {M : Gm} {out : Int32 × Gm} (h : X12_first_J69 x0 x2 M = some out) : Wp w mdX12_first (d + 5) 69 [some (.inr x0), none, some (.inl x2), none, none] [] M (.inl (some (.inl out.1))) out.2 := by
  unfold X12_first_J69 at h
  refine wp_aload_n dX12_first_69 rfl ?_
  obtain ⟨q1, e2, h⟩ := bnd h
  refine wp_callV (As := []) dX12_first_70 (sh_X12_laysBack_ok (d := d + 3) e2) okX12_laysBack nnX12_laysBack vvX12_laysBack ml_RX12_359 rfl (Nat.le_of_ble_eq_true rfl) ?_
  refine wp_iload_n dX12_first_73 rfl ?_
  cases h
  exact wp_iret dX12_first_74 rfl

theorem X12_first_F_ok {w : Gw} {d : Nat} {x0 : Nat} {M : Gm} {out : Int32 × Gm} (h : X12_first_F x0 M = some out) : Wp w mdX12_first (d + 5) 0 [some (.inr x0), none, none, none, none] [] M (.inl (some (.inl out.1))) out.2 := by
  unfold X12_first_F at h
  refine wp_aload_n dX12_first_0 rfl ?_
  obtain ⟨q1, e2, h⟩ := bnd h
  refine wp_callV (As := []) dX12_first_1 (sh_X12_tries_ok (d := d + 3) e2) okX12_tries nnX12_tries vvX12_tries ml_RX12_342 rfl (Nat.le_of_ble_eq_true rfl) ?_
  refine wp_aload_n dX12_first_4 rfl ?_
  obtain ⟨q3, e4, h⟩ := bnd h
  refine wp_callV (As := []) dX12_first_5 (sh_X12_shutSet_ok (d := d + 3) e4) okX12_shutSet nnX12_shutSet vvX12_shutSet ml_RX12_345 rfl (Nat.le_of_ble_eq_true rfl) ?_
  refine wp_istore_n dX12_first_8 (Nat.le_of_ble_eq_true rfl) ?_
  refine wp_iconst (v := (-1)) dX12_first_9 (by decide) ?_
  refine wp_istore_n dX12_first_10 (Nat.le_of_ble_eq_true rfl) ?_
  refine wp_aload_n dX12_first_11 rfl ?_
  refine wp_iconst (v := (-1)) dX12_first_12 (by decide) ?_
  obtain ⟨M5, e6, h⟩ := bnd h
  refine wp_putI (c := 12) (k := 25) dX12_first_13 e6 (by decide) (by decide) rfl fl_RX12_348 (Or.inl rfl) ?_
  refine wp_iconst (v := 1) dX12_first_16 (by decide) ?_
  refine wp_istore_n dX12_first_17 (Nat.le_of_ble_eq_true rfl) ?_
  obtain ⟨r7, e8, h⟩ := bnd h
  refine wp_ls (lsS (lsS (lsS (lsS (lsN lsZ))))) (X12_first_B18_lp FU _ e8 ?_)
  intro t_ ht_; cases ht_
  exact wp_ls (lsS (lsN (lsS (lsN (lsN lsZ))))) (X12_first_J69_ok h)

theorem sh_X12_first_ok {w : Gw} {d : Nat} {x0 : Nat} {M : Gm} {out : Int32 × Gm} (h : sh_X12_first x0 M = some out) : Ev w mdX12_first (d + 5) [.inr x0] M (.inl (some (.inl out.1))) out.2 := by
  obtain ⟨u, e0, h⟩ := bnd h
  exact ev_of okX12_first ⟨_, _, rfl, isO_of e0 (by decide), by decide⟩ (Nat.le_of_ble_eq_true rfl) (X12_first_F_ok h)

/-! HeatGovernorModel.neededNow()I -/
def X12_neededNow_J77 (x0 : Nat) (x1 : Int32) (x2 : Int32) (x3 : Int32) (M : Gm) : Option ((Int32 × Int32 × Int32 × Gm) ⊕ (Int32 × Gm)) :=
  some (.inl (x1, x2, x3 + 1, M))
def X12_neededNow_J72 (x0 : Nat) (x3 : Int32) (x5 : Int32) (M : Gm) : Option ((Int32 × Int32 × Int32 × Gm) ⊕ (Int32 × Gm)) :=
  X12_neededNow_J77 x0 x3 x5 x3 M
def X12_neededNow_B6 (x0 : Nat) (q : Int32 × Int32 × Int32 × Gm) : Option ((Int32 × Int32 × Int32 × Gm) ⊕ (Int32 × Gm)) :=
  (sh_X12_devices x0 q.2.2.2).bind fun q1 =>
  if q1 ≤ q.2.2.1 then
    some (.inr (q.1, q.2.2.2))
  else
    (gfR q.2.2.2 x0 12 6).bind fun v3 =>
    (ldA q.2.2.2 0 v3 (73 + q.2.2.1)).bind fun v5 =>
    (gfR q.2.2.2 x0 12 6).bind fun v7 =>
    (stA q.2.2.2 0 v7 (73 + q.2.2.1) 0).bind fun M9 =>
    (sh_X12_first x0 M9).bind fun q11 =>
    (gfR q11.2 x0 12 6).bind fun v13 =>
    (stA q11.2 0 v13 (73 + q.2.2.1) v5).bind fun M15 =>
    if q11.1 = ((-1)) then
      X12_neededNow_J77 x0 q.1 q.2.1 q.2.2.1 M15
    else
      if q.1 = ((-1)) then
        X12_neededNow_J72 x0 q.2.2.1 q11.1 M15
      else
        if q11.1 < q.2.1 then
          X12_neededNow_J72 x0 q.2.2.1 q11.1 M15
        else
          X12_neededNow_J77 x0 q.1 q.2.1 q.2.2.1 M15
def X12_neededNow_F (x0 : Nat) (M : Gm) : Option (Int32 × Gm) :=
  (lp (X12_neededNow_B6 x0) FU ((-1), 0, 0, M)).bind fun r1 =>
  some (r1.1, r1.2)
def sh_X12_neededNow (x0 : Nat) (M : Gm) : Option (Int32 × Gm) := (isO M x0 12).bind fun _ => X12_neededNow_F x0 M
theorem X12_neededNow_J77_ok {w : Gw} {d : Nat} {x0 : Nat} {x1 : Int32} {x2 : Int32} {x3 : Int32} {M : Gm} {o : Go} {M' : Gm} {out : (Int32 × Int32 × Int32 × Gm) ⊕ (Int32 × Gm)} (h : X12_neededNow_J77 x0 x1 x2 x3 M = some out) (hc : ∀ t : Int32 × Int32 × Int32 × Gm, out = .inl t → Wp w mdX12_neededNow (d + 6) 6 [some (.inr x0), some (.inl t.1), some (.inl t.2.1), some (.inl t.2.2.1), none, none] [] t.2.2.2 o M') (he0 : ∀ t : Int32 × Gm, out = .inr t → Wp w mdX12_neededNow (d + 6) 83 [none, some (.inl t.1), none, none, none, none] [] t.2 o M') : Wp w mdX12_neededNow (d + 6) 77 [some (.inr x0), some (.inl x1), some (.inl x2), some (.inl x3), none, none] [] M o M' := by
  unfold X12_neededNow_J77 at h
  refine wp_iinc (v := x3 + 1) dX12_neededNow_77 rfl rfl ?_
  refine wp_goto (tgt := 6) dX12_neededNow_80 (by decide) ?_
  cases h
  exact wp_ls (lsS (lsS (lsS (lsS (lsN (lsN lsZ)))))) (hc (x1, x2, x3 + 1, M) rfl)

theorem X12_neededNow_J72_ok {w : Gw} {d : Nat} {x0 : Nat} {x3 : Int32} {x5 : Int32} {M : Gm} {o : Go} {M' : Gm} {out : (Int32 × Int32 × Int32 × Gm) ⊕ (Int32 × Gm)} (h : X12_neededNow_J72 x0 x3 x5 M = some out) (hc : ∀ t : Int32 × Int32 × Int32 × Gm, out = .inl t → Wp w mdX12_neededNow (d + 6) 6 [some (.inr x0), some (.inl t.1), some (.inl t.2.1), some (.inl t.2.2.1), none, none] [] t.2.2.2 o M') (he0 : ∀ t : Int32 × Gm, out = .inr t → Wp w mdX12_neededNow (d + 6) 83 [none, some (.inl t.1), none, none, none, none] [] t.2 o M') : Wp w mdX12_neededNow (d + 6) 72 [some (.inr x0), none, none, some (.inl x3), none, some (.inl x5)] [] M o M' := by
  unfold X12_neededNow_J72 at h
  refine wp_iload_n dX12_neededNow_72 rfl ?_
  refine wp_istore_n dX12_neededNow_73 (Nat.le_of_ble_eq_true rfl) ?_
  refine wp_iload dX12_neededNow_74 rfl ?_
  refine wp_istore_n dX12_neededNow_76 (Nat.le_of_ble_eq_true rfl) ?_
  exact wp_ls (lsS (lsS (lsS (lsS (lsN (lsN lsZ)))))) (X12_neededNow_J77_ok h hc he0)

theorem X12_neededNow_B6_ok {w : Gw} {d : Nat} {x0 : Nat} {q : Int32 × Int32 × Int32 × Gm} {o : Go} {M' : Gm} {out : (Int32 × Int32 × Int32 × Gm) ⊕ (Int32 × Gm)} (h : X12_neededNow_B6 x0 q = some out) (hc : ∀ t : Int32 × Int32 × Int32 × Gm, out = .inl t → Wp w mdX12_neededNow (d + 6) 6 [some (.inr x0), some (.inl t.1), some (.inl t.2.1), some (.inl t.2.2.1), none, none] [] t.2.2.2 o M') (he0 : ∀ t : Int32 × Gm, out = .inr t → Wp w mdX12_neededNow (d + 6) 83 [none, some (.inl t.1), none, none, none, none] [] t.2 o M') : Wp w mdX12_neededNow (d + 6) 6 [some (.inr x0), some (.inl q.1), some (.inl q.2.1), some (.inl q.2.2.1), none, none] [] q.2.2.2 o M' := by
  unfold X12_neededNow_B6 at h
  refine wp_iload_n dX12_neededNow_6 rfl ?_
  refine wp_aload_n dX12_neededNow_7 rfl ?_
  obtain ⟨q1, e2, h⟩ := bnd h
  refine wp_callV (As := []) dX12_neededNow_8 (sh_X12_devices_ok (d := d + 5) e2) okX12_devices nnX12_devices vvX12_devices ml_RX12_263 rfl (Nat.le_of_ble_eq_true rfl) ?_
  refine wp_icmp_ge (tgt := 83) dX12_neededNow_11 (by decide) (fun hc_ => ?_) (fun hc_ => ?_)
  · replace h := ite_t hc_ h
    cases h
    exact wp_ls (lsN (lsS (lsN (lsN (lsN (lsN lsZ)))))) (he0 (q.1, q.2.2.2) rfl)
  · replace h := ite_f hc_ h
    refine wp_aload_n dX12_neededNow_14 rfl ?_
    obtain ⟨v3, e4, h⟩ := bnd h
    refine wp_getR (c := 12) (k := 6) dX12_neededNow_15 e4 (by decide) (by decide) rfl fl_RX12_62 ?_
    refine wp_bipush (v := 73) dX12_neededNow_18 (by decide) ?_
    refine wp_iload_n dX12_neededNow_20 rfl ?_
    refine wp_iadd dX12_neededNow_21 ?_
    obtain ⟨v5, e6, h⟩ := bnd h
    refine wp_iaload dX12_neededNow_22 e6 ?_
    refine wp_istore dX12_neededNow_23 (Nat.le_of_ble_eq_true rfl) ?_
    refine wp_aload_n dX12_neededNow_25 rfl ?_
    obtain ⟨v7, e8, h⟩ := bnd h
    refine wp_getR (c := 12) (k := 6) dX12_neededNow_26 e8 (by decide) (by decide) rfl fl_RX12_62 ?_
    refine wp_bipush (v := 73) dX12_neededNow_29 (by decide) ?_
    refine wp_iload_n dX12_neededNow_31 rfl ?_
    refine wp_iadd dX12_neededNow_32 ?_
    refine wp_iconst (v := 0) dX12_neededNow_33 (by decide) ?_
    obtain ⟨M9, e10, h⟩ := bnd h
    refine wp_iastore dX12_neededNow_34 e10 ?_
    refine wp_aload_n dX12_neededNow_35 rfl ?_
    obtain ⟨q11, e12, h⟩ := bnd h
    refine wp_callV (As := []) dX12_neededNow_36 (sh_X12_first_ok (d := d) e12) okX12_first nnX12_first vvX12_first ml_RX12_362 rfl (Nat.le_of_ble_eq_true rfl) ?_
    refine wp_istore dX12_neededNow_39 (Nat.le_of_ble_eq_true rfl) ?_
    refine wp_aload_n dX12_neededNow_41 rfl ?_
    obtain ⟨v13, e14, h⟩ := bnd h
    refine wp_getR (c := 12) (k := 6) dX12_neededNow_42 e14 (by decide) (by decide) rfl fl_RX12_62 ?_
    refine wp_bipush (v := 73) dX12_neededNow_45 (by decide) ?_
    refine wp_iload_n dX12_neededNow_47 rfl ?_
    refine wp_iadd dX12_neededNow_48 ?_
    refine wp_iload dX12_neededNow_49 rfl ?_
    obtain ⟨M15, e16, h⟩ := bnd h
    refine wp_iastore dX12_neededNow_51 e16 ?_
    refine wp_iload dX12_neededNow_52 rfl ?_
    refine wp_iconst (v := (-1)) dX12_neededNow_54 (by decide) ?_
    refine wp_icmp_eq (tgt := 77) dX12_neededNow_55 (by decide) (fun hc_ => ?_) (fun hc_ => ?_)
    · replace h := ite_t hc_ h
      exact wp_ls (lsS (lsS (lsS (lsS (lsN (lsN lsZ)))))) (X12_neededNow_J77_ok h hc he0)
    · replace h := ite_f hc_ h
      refine wp_iload_n dX12_neededNow_58 rfl ?_
      refine wp_iconst (v := (-1)) dX12_neededNow_59 (by decide) ?_
      refine wp_icmp_eq (tgt := 72) dX12_neededNow_60 (by decide) (fun hc_ => ?_) (fun hc_ => ?_)
      · replace h := ite_t hc_ h
        exact wp_ls (lsS (lsN (lsN (lsS (lsN (lsS lsZ)))))) (X12_neededNow_J72_ok h hc he0)
      · replace h := ite_f hc_ h
        refine wp_iload dX12_neededNow_63 rfl ?_
        refine wp_iload_n dX12_neededNow_65 rfl ?_
        refine wp_icmp_lt (tgt := 72) dX12_neededNow_66 (by decide) (fun hc_ => ?_) (fun hc_ => ?_)
        · replace h := ite_t hc_ h
          exact wp_ls (lsS (lsN (lsN (lsS (lsN (lsS lsZ)))))) (X12_neededNow_J72_ok h hc he0)
        · replace h := ite_f hc_ h
          refine wp_goto (tgt := 77) dX12_neededNow_69 (by decide) ?_
          exact wp_ls (lsS (lsS (lsS (lsS (lsN (lsN lsZ)))))) (X12_neededNow_J77_ok h hc he0)

theorem X12_neededNow_B6_lp {w : Gw} {d : Nat} {x0 : Nat} {o : Go} {M' : Gm} {r : (Int32 × Gm)} : ∀ (n : Nat) (q : Int32 × Int32 × Int32 × Gm), lp (X12_neededNow_B6 x0) n q = some r → (∀ t : Int32 × Gm, r = t → Wp w mdX12_neededNow (d + 6) 83 [none, some (.inl t.1), none, none, none, none] [] t.2 o M') → Wp w mdX12_neededNow (d + 6) 6 [some (.inr x0), some (.inl q.1), some (.inl q.2.1), some (.inl q.2.2.1), none, none] [] q.2.2.2 o M' := by
  intro n
  induction n with
  | zero => intro q h; cases h
  | succ n ih =>
    intro q h he0
    cases hb : X12_neededNow_B6 x0 q with
    | none => rw [lp_succ, hb] at h; cases h
    | some out =>
      rw [lp_succ, hb] at h
      exact X12_neededNow_B6_ok hb (fun t e => ih t (by rw [e] at h; exact h) he0) (fun t e => he0 t (by rw [e] at h; cases h; rfl))
theorem X12_neededNow_F_ok {w : Gw} {d : Nat} {x0 : Nat} {M : Gm} {out : Int32 × Gm} (h : X12_neededNow_F x0 M = some out) : Wp w mdX12_neededNow (d + 6) 0 [some (.inr x0), none, none, none, none, none] [] M (.inl (some (.inl out.1))) out.2 := by
  unfold X12_neededNow_F at h
  refine wp_iconst (v := (-1)) dX12_neededNow_0 (by decide) ?_
  refine wp_istore_n dX12_neededNow_1 (Nat.le_of_ble_eq_true rfl) ?_
  refine wp_iconst (v := 0) dX12_neededNow_2 (by decide) ?_
  refine wp_istore_n dX12_neededNow_3 (Nat.le_of_ble_eq_true rfl) ?_
  refine wp_iconst (v := 0) dX12_neededNow_4 (by decide) ?_
  refine wp_istore_n dX12_neededNow_5 (Nat.le_of_ble_eq_true rfl) ?_
  obtain ⟨r1, e2, h⟩ := bnd h
  refine wp_ls (lsS (lsS (lsS (lsS (lsN (lsN lsZ)))))) (X12_neededNow_B6_lp FU _ e2 ?_)
  intro t_ ht_; cases ht_
  refine wp_iload_n dX12_neededNow_83 rfl ?_
  cases h
  exact wp_iret dX12_neededNow_84 rfl

theorem sh_X12_neededNow_ok {w : Gw} {d : Nat} {x0 : Nat} {M : Gm} {out : Int32 × Gm} (h : sh_X12_neededNow x0 M = some out) : Ev w mdX12_neededNow (d + 6) [.inr x0] M (.inl (some (.inl out.1))) out.2 := by
  obtain ⟨u, e0, h⟩ := bnd h
  exact ev_of okX12_neededNow ⟨_, _, rfl, isO_of e0 (by decide), by decide⟩ (Nat.le_of_ble_eq_true rfl) (X12_neededNow_F_ok h)

/-! HeatGovernorModel.onSet()I -/
def X12_onSet_B4 (x0 : Nat) (M : Gm) (q : Int32 × Int32) : Option ((Int32 × Int32) ⊕ Int32) :=
  (sh_X12_trips x0 M).bind fun q1 =>
  if q1 ≤ q.2 then
    some (.inr q.1)
  else
    (gfR M x0 12 5).bind fun v3 =>
    (ldA M 0 v3 (50 + q.2)).bind fun v5 =>
    some (.inl (q.1 ||| (v5 <<< (q.2 &&& 31)), q.2 + 1))
def X12_onSet_F (x0 : Nat) (M : Gm) : Option (Int32) :=
  (lp (X12_onSet_B4 x0 M) FU (0, 0)).bind fun r1 =>
  some r1
def sh_X12_onSet (x0 : Nat) (M : Gm) : Option (Int32) := (isO M x0 12).bind fun _ => X12_onSet_F x0 M
theorem X12_onSet_B4_ok {w : Gw} {d : Nat} {x0 : Nat} {M : Gm} {q : Int32 × Int32} {o : Go} {M' : Gm} {out : (Int32 × Int32) ⊕ Int32} (h : X12_onSet_B4 x0 M q = some out) (hc : ∀ t : Int32 × Int32, out = .inl t → Wp w mdX12_onSet (d + 1) 4 [some (.inr x0), some (.inl t.1), some (.inl t.2)] [] M o M') (he0 : ∀ t : Int32, out = .inr t → Wp w mdX12_onSet (d + 1) 32 [none, some (.inl t), none] [] M o M') : Wp w mdX12_onSet (d + 1) 4 [some (.inr x0), some (.inl q.1), some (.inl q.2)] [] M o M' := by
  unfold X12_onSet_B4 at h
  refine wp_iload_n dX12_onSet_4 rfl ?_
  refine wp_aload_n dX12_onSet_5 rfl ?_
  obtain ⟨q1, e2, h⟩ := bnd h
  refine wp_callV (As := []) dX12_onSet_6 (sh_X12_trips_ok (d := d) e2) okX12_trips nnX12_trips vvX12_trips ml_RX12_312 rfl (Nat.le_of_ble_eq_true rfl) ?_
  refine wp_icmp_ge (tgt := 32) dX12_onSet_9 (by decide) (fun hc_ => ?_) (fun hc_ => ?_)
  · replace h := ite_t hc_ h
    cases h
    exact wp_ls (lsN (lsS (lsN lsZ))) (he0 q.1 rfl)
  · replace h := ite_f hc_ h
    refine wp_iload_n dX12_onSet_12 rfl ?_
    refine wp_aload_n dX12_onSet_13 rfl ?_
    obtain ⟨v3, e4, h⟩ := bnd h
    refine wp_getR (c := 12) (k := 5) dX12_onSet_14 e4 (by decide) (by decide) rfl fl_RX12_58 ?_
    refine wp_bipush (v := 50) dX12_onSet_17 (by decide) ?_
    refine wp_iload_n dX12_onSet_19 rfl ?_
    refine wp_iadd dX12_onSet_20 ?_
    obtain ⟨v5, e6, h⟩ := bnd h
    refine wp_iaload dX12_onSet_21 e6 ?_
    refine wp_iload_n dX12_onSet_22 rfl ?_
    refine wp_ishl dX12_onSet_23 ?_
    refine wp_ior dX12_onSet_24 ?_
    refine wp_istore_n dX12_onSet_25 (Nat.le_of_ble_eq_true rfl) ?_
    refine wp_iinc (v := q.2 + 1) dX12_onSet_26 rfl rfl ?_
    refine wp_goto (tgt := 4) dX12_onSet_29 (by decide) ?_
    cases h
    exact wp_ls (lsS (lsS (lsS lsZ))) (hc (q.1 ||| (v5 <<< (q.2 &&& 31)), q.2 + 1) rfl)

theorem X12_onSet_B4_lp {w : Gw} {d : Nat} {x0 : Nat} {M : Gm} {o : Go} {M' : Gm} {r : Int32} : ∀ (n : Nat) (q : Int32 × Int32), lp (X12_onSet_B4 x0 M) n q = some r → (∀ t : Int32, r = t → Wp w mdX12_onSet (d + 1) 32 [none, some (.inl t), none] [] M o M') → Wp w mdX12_onSet (d + 1) 4 [some (.inr x0), some (.inl q.1), some (.inl q.2)] [] M o M' := by
  intro n
  induction n with
  | zero => intro q h; cases h
  | succ n ih =>
    intro q h he0
    cases hb : X12_onSet_B4 x0 M q with
    | none => rw [lp_succ, hb] at h; cases h
    | some out =>
      rw [lp_succ, hb] at h
      exact X12_onSet_B4_ok hb (fun t e => ih t (by rw [e] at h; exact h) he0) (fun t e => he0 t (by rw [e] at h; cases h; rfl))
theorem X12_onSet_F_ok {w : Gw} {d : Nat} {x0 : Nat} {M : Gm} {out : Int32} (h : X12_onSet_F x0 M = some out) : Wp w mdX12_onSet (d + 1) 0 [some (.inr x0), none, none] [] M (.inl (some (.inl out))) M := by
  unfold X12_onSet_F at h
  refine wp_iconst (v := 0) dX12_onSet_0 (by decide) ?_
  refine wp_istore_n dX12_onSet_1 (Nat.le_of_ble_eq_true rfl) ?_
  refine wp_iconst (v := 0) dX12_onSet_2 (by decide) ?_
  refine wp_istore_n dX12_onSet_3 (Nat.le_of_ble_eq_true rfl) ?_
  obtain ⟨r1, e2, h⟩ := bnd h
  refine wp_ls (lsS (lsS (lsS lsZ))) (X12_onSet_B4_lp FU _ e2 ?_)
  intro t_ ht_; cases ht_
  refine wp_iload_n dX12_onSet_32 rfl ?_
  cases h
  exact wp_iret dX12_onSet_33 rfl

theorem sh_X12_onSet_ok {w : Gw} {d : Nat} {x0 : Nat} {M : Gm} {out : Int32} (h : sh_X12_onSet x0 M = some out) : Ev w mdX12_onSet (d + 1) [.inr x0] M (.inl (some (.inl out))) M := by
  obtain ⟨u, e0, h⟩ := bnd h
  exact ev_of okX12_onSet ⟨_, _, rfl, isO_of e0 (by decide), by decide⟩ (Nat.le_of_ble_eq_true rfl) (X12_onSet_F_ok h)

/-! HeatGovernorModel.count(I)I -/
def X12_count_F (x0 : Nat) (x1 : Int32) (M : Gm) : Option (Int32 × Gm) :=
  (pfI M x0 12 4 0).bind fun M1 =>
  if x1 = 0 then
    (gfR M1 x0 12 6).bind fun v3 =>
    (ldA M1 0 v3 (163 + x1)).bind fun v5 =>
    some (v5, M1)
  else if x1 = 1 then
    (gfR M1 x0 12 6).bind fun v7 =>
    (ldA M1 0 v7 (163 + x1)).bind fun v9 =>
    some (v9, M1)
  else if x1 = 2 then
    (gfR M1 x0 12 6).bind fun v11 =>
    (ldA M1 0 v11 (163 + x1)).bind fun v13 =>
    some (v13, M1)
  else if x1 = 3 then
    (gfR M1 x0 12 6).bind fun v15 =>
    (ldA M1 0 v15 (163 + x1)).bind fun v17 =>
    some (v17, M1)
  else if x1 = 4 then
    (gfR M1 x0 12 6).bind fun v19 =>
    (ldA M1 0 v19 (163 + x1)).bind fun v21 =>
    some (v21, M1)
  else if x1 = 5 then
    (gfR M1 x0 12 5).bind fun v23 =>
    (ldA M1 0 v23 142).bind fun v25 =>
    some (v25, M1)
  else if x1 = 6 then
    (gfR M1 x0 12 5).bind fun v27 =>
    (ldA M1 0 v27 143).bind fun v29 =>
    some (v29, M1)
  else if x1 = 7 then
    (sh_X12_shutSet x0 M1).bind fun q31 =>
    some (q31, M1)
  else if x1 = 8 then
    (sh_X12_onSet x0 M1).bind fun q33 =>
    some (q33, M1)
  else if x1 = 9 then
    (sh_X12_first x0 M1).bind fun q35 =>
    some (q35.1, q35.2)
  else if x1 = 10 then
    (sh_X12_first x0 M1).bind fun q37 =>
    (gfI q37.2 x0 12 25).bind fun v39 =>
    some (v39, q37.2)
  else if x1 = 11 then
    (sh_X12_neededNow x0 M1).bind fun q41 =>
    some (q41.1, q41.2)
  else if x1 = 12 then
    (sh_X12_again x0 M1).bind fun q43 =>
    some (q43.1, q43.2)
  else if x1 = 13 then
    (gfR M1 x0 12 5).bind fun v45 =>
    (ldA M1 0 v45 144).bind fun v47 =>
    (sh_J9_min_7cf53 40 v47 M1).bind fun q49 =>
    some (q49, M1)
  else if x1 = 14 then
    (gfI M1 x0 12 26).bind fun v51 =>
    some (v51, M1)
  else if x1 = 15 then
    (gfI M1 x0 12 28).bind fun v53 =>
    some (v53, M1)
  else if x1 = 16 then
    (gfI M1 x0 12 11).bind fun v55 =>
    some (v55, M1)
  else if x1 = 17 then
    (gfR M1 x0 12 9).bind fun v57 =>
    (ldA M1 0 v57 (x1 - 17)).bind fun v59 =>
    some (v59, M1)
  else if x1 = 18 then
    (gfR M1 x0 12 9).bind fun v61 =>
    (ldA M1 0 v61 (x1 - 17)).bind fun v63 =>
    some (v63, M1)
  else if x1 = 19 then
    (gfR M1 x0 12 9).bind fun v65 =>
    (ldA M1 0 v65 (x1 - 17)).bind fun v67 =>
    some (v67, M1)
  else
    (sh_X12_fail x0 1 M1).bind fun q69 =>
    some (q69.1, q69.2)
def sh_X12_count (x0 : Nat) (x1 : Int32) (M : Gm) : Option (Int32 × Gm) := (isO M x0 12).bind fun _ => X12_count_F x0 x1 M
theorem X12_count_F_ok {w : Gw} {d : Nat} {x0 : Nat} {x1 : Int32} {M : Gm} {out : Int32 × Gm} (h : X12_count_F x0 x1 M = some out) : Wp w mdX12_count (d + 7) 0 [some (.inr x0), some (.inl x1), none] [] M (.inl (some (.inl out.1))) out.2 := by
  unfold X12_count_F at h
  refine wp_aload_n dX12_count_0 rfl ?_
  refine wp_iconst (v := 0) dX12_count_1 (by decide) ?_
  obtain ⟨M1, e2, h⟩ := bnd h
  refine wp_putI (c := 12) (k := 4) dX12_count_2 e2 (by decide) (by decide) rfl fl_RX12_131 (Or.inl rfl) ?_
  refine wp_iload_n dX12_count_5 rfl ?_
  by_cases cz0 : x1 = 0
  · replace h := ite_t cz0 h
    refine wp_tableIn (tgt := 100) dX12_count_6 0 (by rw [cz0]; decide) (by decide) rfl (by decide) ?_
    refine wp_aload_n dX12_count_100 rfl ?_
    obtain ⟨v3, e4, h⟩ := bnd h
    refine wp_getR (c := 12) (k := 6) dX12_count_101 e4 (by decide) (by decide) rfl fl_RX12_62 ?_
    refine wp_sipush (v := 163) dX12_count_104 (by decide) ?_
    refine wp_iload_n dX12_count_107 rfl ?_
    refine wp_iadd dX12_count_108 ?_
    obtain ⟨v5, e6, h⟩ := bnd h
    refine wp_iaload dX12_count_109 e6 ?_
    cases h
    exact wp_iret dX12_count_110 rfl
  replace h := ite_f cz0 h
  by_cases cz1 : x1 = 1
  · replace h := ite_t cz1 h
    refine wp_tableIn (tgt := 100) dX12_count_6 1 (by rw [cz1]; decide) (by decide) rfl (by decide) ?_
    refine wp_aload_n dX12_count_100 rfl ?_
    obtain ⟨v7, e8, h⟩ := bnd h
    refine wp_getR (c := 12) (k := 6) dX12_count_101 e8 (by decide) (by decide) rfl fl_RX12_62 ?_
    refine wp_sipush (v := 163) dX12_count_104 (by decide) ?_
    refine wp_iload_n dX12_count_107 rfl ?_
    refine wp_iadd dX12_count_108 ?_
    obtain ⟨v9, e10, h⟩ := bnd h
    refine wp_iaload dX12_count_109 e10 ?_
    cases h
    exact wp_iret dX12_count_110 rfl
  replace h := ite_f cz1 h
  by_cases cz2 : x1 = 2
  · replace h := ite_t cz2 h
    refine wp_tableIn (tgt := 100) dX12_count_6 2 (by rw [cz2]; decide) (by decide) rfl (by decide) ?_
    refine wp_aload_n dX12_count_100 rfl ?_
    obtain ⟨v11, e12, h⟩ := bnd h
    refine wp_getR (c := 12) (k := 6) dX12_count_101 e12 (by decide) (by decide) rfl fl_RX12_62 ?_
    refine wp_sipush (v := 163) dX12_count_104 (by decide) ?_
    refine wp_iload_n dX12_count_107 rfl ?_
    refine wp_iadd dX12_count_108 ?_
    obtain ⟨v13, e14, h⟩ := bnd h
    refine wp_iaload dX12_count_109 e14 ?_
    cases h
    exact wp_iret dX12_count_110 rfl
  replace h := ite_f cz2 h
  by_cases cz3 : x1 = 3
  · replace h := ite_t cz3 h
    refine wp_tableIn (tgt := 100) dX12_count_6 3 (by rw [cz3]; decide) (by decide) rfl (by decide) ?_
    refine wp_aload_n dX12_count_100 rfl ?_
    obtain ⟨v15, e16, h⟩ := bnd h
    refine wp_getR (c := 12) (k := 6) dX12_count_101 e16 (by decide) (by decide) rfl fl_RX12_62 ?_
    refine wp_sipush (v := 163) dX12_count_104 (by decide) ?_
    refine wp_iload_n dX12_count_107 rfl ?_
    refine wp_iadd dX12_count_108 ?_
    obtain ⟨v17, e18, h⟩ := bnd h
    refine wp_iaload dX12_count_109 e18 ?_
    cases h
    exact wp_iret dX12_count_110 rfl
  replace h := ite_f cz3 h
  by_cases cz4 : x1 = 4
  · replace h := ite_t cz4 h
    refine wp_tableIn (tgt := 100) dX12_count_6 4 (by rw [cz4]; decide) (by decide) rfl (by decide) ?_
    refine wp_aload_n dX12_count_100 rfl ?_
    obtain ⟨v19, e20, h⟩ := bnd h
    refine wp_getR (c := 12) (k := 6) dX12_count_101 e20 (by decide) (by decide) rfl fl_RX12_62 ?_
    refine wp_sipush (v := 163) dX12_count_104 (by decide) ?_
    refine wp_iload_n dX12_count_107 rfl ?_
    refine wp_iadd dX12_count_108 ?_
    obtain ⟨v21, e22, h⟩ := bnd h
    refine wp_iaload dX12_count_109 e22 ?_
    cases h
    exact wp_iret dX12_count_110 rfl
  replace h := ite_f cz4 h
  by_cases cz5 : x1 = 5
  · replace h := ite_t cz5 h
    refine wp_tableIn (tgt := 111) dX12_count_6 5 (by rw [cz5]; decide) (by decide) rfl (by decide) ?_
    refine wp_aload_n dX12_count_111 rfl ?_
    obtain ⟨v23, e24, h⟩ := bnd h
    refine wp_getR (c := 12) (k := 5) dX12_count_112 e24 (by decide) (by decide) rfl fl_RX12_58 ?_
    refine wp_sipush (v := 142) dX12_count_115 (by decide) ?_
    obtain ⟨v25, e26, h⟩ := bnd h
    refine wp_iaload dX12_count_118 e26 ?_
    cases h
    exact wp_iret dX12_count_119 rfl
  replace h := ite_f cz5 h
  by_cases cz6 : x1 = 6
  · replace h := ite_t cz6 h
    refine wp_tableIn (tgt := 120) dX12_count_6 6 (by rw [cz6]; decide) (by decide) rfl (by decide) ?_
    refine wp_aload_n dX12_count_120 rfl ?_
    obtain ⟨v27, e28, h⟩ := bnd h
    refine wp_getR (c := 12) (k := 5) dX12_count_121 e28 (by decide) (by decide) rfl fl_RX12_58 ?_
    refine wp_sipush (v := 143) dX12_count_124 (by decide) ?_
    obtain ⟨v29, e30, h⟩ := bnd h
    refine wp_iaload dX12_count_127 e30 ?_
    cases h
    exact wp_iret dX12_count_128 rfl
  replace h := ite_f cz6 h
  by_cases cz7 : x1 = 7
  · replace h := ite_t cz7 h
    refine wp_tableIn (tgt := 129) dX12_count_6 7 (by rw [cz7]; decide) (by decide) rfl (by decide) ?_
    refine wp_aload_n dX12_count_129 rfl ?_
    obtain ⟨q31, e32, h⟩ := bnd h
    refine wp_callV (As := []) dX12_count_130 (sh_X12_shutSet_ok (d := d + 5) e32) okX12_shutSet nnX12_shutSet vvX12_shutSet ml_RX12_345 rfl (Nat.le_of_ble_eq_true rfl) ?_
    cases h
    exact wp_iret dX12_count_133 rfl
  replace h := ite_f cz7 h
  by_cases cz8 : x1 = 8
  · replace h := ite_t cz8 h
    refine wp_tableIn (tgt := 134) dX12_count_6 8 (by rw [cz8]; decide) (by decide) rfl (by decide) ?_
    refine wp_aload_n dX12_count_134 rfl ?_
    obtain ⟨q33, e34, h⟩ := bnd h
    refine wp_callV (As := []) dX12_count_135 (sh_X12_onSet_ok (d := d + 5) e34) okX12_onSet nnX12_onSet vvX12_onSet ml_RX12_369 rfl (Nat.le_of_ble_eq_true rfl) ?_
    cases h
    exact wp_iret dX12_count_138 rfl
  replace h := ite_f cz8 h
  by_cases cz9 : x1 = 9
  · replace h := ite_t cz9 h
    refine wp_tableIn (tgt := 139) dX12_count_6 9 (by rw [cz9]; decide) (by decide) rfl (by decide) ?_
    refine wp_aload_n dX12_count_139 rfl ?_
    obtain ⟨q35, e36, h⟩ := bnd h
    refine wp_callV (As := []) dX12_count_140 (sh_X12_first_ok (d := d + 1) e36) okX12_first nnX12_first vvX12_first ml_RX12_362 rfl (Nat.le_of_ble_eq_true rfl) ?_
    cases h
    exact wp_iret dX12_count_143 rfl
  replace h := ite_f cz9 h
  by_cases cz10 : x1 = 10
  · replace h := ite_t cz10 h
    refine wp_tableIn (tgt := 144) dX12_count_6 10 (by rw [cz10]; decide) (by decide) rfl (by decide) ?_
    refine wp_aload_n dX12_count_144 rfl ?_
    obtain ⟨q37, e38, h⟩ := bnd h
    refine wp_callV (As := []) dX12_count_145 (sh_X12_first_ok (d := d + 1) e38) okX12_first nnX12_first vvX12_first ml_RX12_362 rfl (Nat.le_of_ble_eq_true rfl) ?_
    refine wp_istore_n dX12_count_148 (Nat.le_of_ble_eq_true rfl) ?_
    refine wp_aload_n dX12_count_149 rfl ?_
    obtain ⟨v39, e40, h⟩ := bnd h
    refine wp_getI (c := 12) (k := 25) dX12_count_150 e40 (by decide) (by decide) rfl fl_RX12_348 ?_
    cases h
    exact wp_iret dX12_count_153 rfl
  replace h := ite_f cz10 h
  by_cases cz11 : x1 = 11
  · replace h := ite_t cz11 h
    refine wp_tableIn (tgt := 154) dX12_count_6 11 (by rw [cz11]; decide) (by decide) rfl (by decide) ?_
    refine wp_aload_n dX12_count_154 rfl ?_
    obtain ⟨q41, e42, h⟩ := bnd h
    refine wp_callV (As := []) dX12_count_155 (sh_X12_neededNow_ok (d := d) e42) okX12_neededNow nnX12_neededNow vvX12_neededNow ml_RX12_372 rfl (Nat.le_of_ble_eq_true rfl) ?_
    cases h
    exact wp_iret dX12_count_158 rfl
  replace h := ite_f cz11 h
  by_cases cz12 : x1 = 12
  · replace h := ite_t cz12 h
    refine wp_tableIn (tgt := 159) dX12_count_6 12 (by rw [cz12]; decide) (by decide) rfl (by decide) ?_
    refine wp_aload_n dX12_count_159 rfl ?_
    obtain ⟨q43, e44, h⟩ := bnd h
    refine wp_callV (As := []) dX12_count_160 (sh_X12_again_ok (d := d + 1) e44) okX12_again nnX12_again vvX12_again ml_RX12_375 rfl (Nat.le_of_ble_eq_true rfl) ?_
    cases h
    exact wp_iret dX12_count_163 rfl
  replace h := ite_f cz12 h
  by_cases cz13 : x1 = 13
  · replace h := ite_t cz13 h
    refine wp_tableIn (tgt := 164) dX12_count_6 13 (by rw [cz13]; decide) (by decide) rfl (by decide) ?_
    refine wp_bipush (v := 40) dX12_count_164 (by decide) ?_
    refine wp_aload_n dX12_count_166 rfl ?_
    obtain ⟨v45, e46, h⟩ := bnd h
    refine wp_getR (c := 12) (k := 5) dX12_count_167 e46 (by decide) (by decide) rfl fl_RX12_58 ?_
    refine wp_sipush (v := 144) dX12_count_170 (by decide) ?_
    obtain ⟨v47, e48, h⟩ := bnd h
    refine wp_iaload dX12_count_173 e48 ?_
    obtain ⟨q49, e50, h⟩ := bnd h
    refine wp_callS (As := [.inl 40, .inl v47]) dX12_count_174 (sh_J9_min_7cf53_ok (d := d + 6) e50) okJ9_min_7cf53 nnJ9_min_7cf53 ssJ9_min_7cf53 ml_RX12_164 rfl (Nat.le_of_ble_eq_true rfl) ?_
    cases h
    exact wp_iret dX12_count_177 rfl
  replace h := ite_f cz13 h
  by_cases cz14 : x1 = 14
  · replace h := ite_t cz14 h
    refine wp_tableIn (tgt := 178) dX12_count_6 14 (by rw [cz14]; decide) (by decide) rfl (by decide) ?_
    refine wp_aload_n dX12_count_178 rfl ?_
    obtain ⟨v51, e52, h⟩ := bnd h
    refine wp_getI (c := 12) (k := 26) dX12_count_179 e52 (by decide) (by decide) rfl fl_RX12_254 ?_
    cases h
    exact wp_iret dX12_count_182 rfl
  replace h := ite_f cz14 h
  by_cases cz15 : x1 = 15
  · replace h := ite_t cz15 h
    refine wp_tableIn (tgt := 183) dX12_count_6 15 (by rw [cz15]; decide) (by decide) rfl (by decide) ?_
    refine wp_aload_n dX12_count_183 rfl ?_
    obtain ⟨v53, e54, h⟩ := bnd h
    refine wp_getI (c := 12) (k := 28) dX12_count_184 e54 (by decide) (by decide) rfl fl_RX12_257 ?_
    cases h
    exact wp_iret dX12_count_187 rfl
  replace h := ite_f cz15 h
  by_cases cz16 : x1 = 16
  · replace h := ite_t cz16 h
    refine wp_tableIn (tgt := 188) dX12_count_6 16 (by rw [cz16]; decide) (by decide) rfl (by decide) ?_
    refine wp_aload_n dX12_count_188 rfl ?_
    obtain ⟨v55, e56, h⟩ := bnd h
    refine wp_getI (c := 12) (k := 11) dX12_count_189 e56 (by decide) (by decide) rfl fl_RX12_134 ?_
    cases h
    exact wp_iret dX12_count_192 rfl
  replace h := ite_f cz16 h
  by_cases cz17 : x1 = 17
  · replace h := ite_t cz17 h
    refine wp_tableIn (tgt := 193) dX12_count_6 17 (by rw [cz17]; decide) (by decide) rfl (by decide) ?_
    refine wp_aload_n dX12_count_193 rfl ?_
    obtain ⟨v57, e58, h⟩ := bnd h
    refine wp_getR (c := 12) (k := 9) dX12_count_194 e58 (by decide) (by decide) rfl fl_RX12_71 ?_
    refine wp_iload_n dX12_count_197 rfl ?_
    refine wp_bipush (v := 17) dX12_count_198 (by decide) ?_
    refine wp_isub dX12_count_200 ?_
    obtain ⟨v59, e60, h⟩ := bnd h
    refine wp_iaload dX12_count_201 e60 ?_
    cases h
    exact wp_iret dX12_count_202 rfl
  replace h := ite_f cz17 h
  by_cases cz18 : x1 = 18
  · replace h := ite_t cz18 h
    refine wp_tableIn (tgt := 193) dX12_count_6 18 (by rw [cz18]; decide) (by decide) rfl (by decide) ?_
    refine wp_aload_n dX12_count_193 rfl ?_
    obtain ⟨v61, e62, h⟩ := bnd h
    refine wp_getR (c := 12) (k := 9) dX12_count_194 e62 (by decide) (by decide) rfl fl_RX12_71 ?_
    refine wp_iload_n dX12_count_197 rfl ?_
    refine wp_bipush (v := 17) dX12_count_198 (by decide) ?_
    refine wp_isub dX12_count_200 ?_
    obtain ⟨v63, e64, h⟩ := bnd h
    refine wp_iaload dX12_count_201 e64 ?_
    cases h
    exact wp_iret dX12_count_202 rfl
  replace h := ite_f cz18 h
  by_cases cz19 : x1 = 19
  · replace h := ite_t cz19 h
    refine wp_tableIn (tgt := 193) dX12_count_6 19 (by rw [cz19]; decide) (by decide) rfl (by decide) ?_
    refine wp_aload_n dX12_count_193 rfl ?_
    obtain ⟨v65, e66, h⟩ := bnd h
    refine wp_getR (c := 12) (k := 9) dX12_count_194 e66 (by decide) (by decide) rfl fl_RX12_71 ?_
    refine wp_iload_n dX12_count_197 rfl ?_
    refine wp_bipush (v := 17) dX12_count_198 (by decide) ?_
    refine wp_isub dX12_count_200 ?_
    obtain ⟨v67, e68, h⟩ := bnd h
    refine wp_iaload dX12_count_201 e68 ?_
    cases h
    exact wp_iret dX12_count_202 rfl
  replace h := ite_f cz19 h
  refine wp_tableOut (tgt := 203) dX12_count_6 (by have g0 := lv_neT cz0 (show (0 : Int32).toInt = 0 by decide); have g1 := lv_neT cz1 (show (1 : Int32).toInt = 1 by decide); have g2 := lv_neT cz2 (show (2 : Int32).toInt = 2 by decide); have g3 := lv_neT cz3 (show (3 : Int32).toInt = 3 by decide); have g4 := lv_neT cz4 (show (4 : Int32).toInt = 4 by decide); have g5 := lv_neT cz5 (show (5 : Int32).toInt = 5 by decide); have g6 := lv_neT cz6 (show (6 : Int32).toInt = 6 by decide); have g7 := lv_neT cz7 (show (7 : Int32).toInt = 7 by decide); have g8 := lv_neT cz8 (show (8 : Int32).toInt = 8 by decide); have g9 := lv_neT cz9 (show (9 : Int32).toInt = 9 by decide); have g10 := lv_neT cz10 (show (10 : Int32).toInt = 10 by decide); have g11 := lv_neT cz11 (show (11 : Int32).toInt = 11 by decide); have g12 := lv_neT cz12 (show (12 : Int32).toInt = 12 by decide); have g13 := lv_neT cz13 (show (13 : Int32).toInt = 13 by decide); have g14 := lv_neT cz14 (show (14 : Int32).toInt = 14 by decide); have g15 := lv_neT cz15 (show (15 : Int32).toInt = 15 by decide); have g16 := lv_neT cz16 (show (16 : Int32).toInt = 16 by decide); have g17 := lv_neT cz17 (show (17 : Int32).toInt = 17 by decide); have g18 := lv_neT cz18 (show (18 : Int32).toInt = 18 by decide); have g19 := lv_neT cz19 (show (19 : Int32).toInt = 19 by decide); omega) (by decide) ?_
  refine wp_aload_n dX12_count_203 rfl ?_
  refine wp_iconst (v := 1) dX12_count_204 (by decide) ?_
  obtain ⟨q69, e70, h⟩ := bnd h
  refine wp_callV (As := [.inl 1]) dX12_count_205 (sh_X12_fail_ok (d := d + 6) e70) okX12_fail nnX12_fail vvX12_fail ml_RX12_245 rfl (Nat.le_of_ble_eq_true rfl) ?_
  cases h
  exact wp_iret dX12_count_208 rfl

theorem sh_X12_count_ok {w : Gw} {d : Nat} {x0 : Nat} {x1 : Int32} {M : Gm} {out : Int32 × Gm} (h : sh_X12_count x0 x1 M = some out) : Ev w mdX12_count (d + 7) [.inr x0, .inl x1] M (.inl (some (.inl out.1))) out.2 := by
  obtain ⟨u, e0, h⟩ := bnd h
  exact ev_of okX12_count ⟨_, _, rfl, isO_of e0 (by decide), by decide⟩ (Nat.le_of_ble_eq_true rfl) (X12_count_F_ok h)

/-! HeatGovernorModel.isIn(III)Z -/
def X12_isIn_J15 (s0 : Int32) (M : Gm) : Option (Int32) :=
  (zck s0).bind fun z1 =>
  some z1
def X12_isIn_J14 (M : Gm) : Option (Int32) :=
  X12_isIn_J15 0 M
def X12_isIn_F (x0 : Int32) (x1 : Int32) (x2 : Int32) (M : Gm) : Option (Int32) :=
  if x0 < x1 then
    X12_isIn_J14 M
  else
    if x2 < x0 then
      X12_isIn_J14 M
    else
      X12_isIn_J15 1 M
def sh_X12_isIn (x0 : Int32) (x1 : Int32) (x2 : Int32) (M : Gm) : Option (Int32) := X12_isIn_F x0 x1 x2 M
theorem X12_isIn_J15_ok {w : Gw} {d : Nat} {s0 : Int32} {M : Gm} {out : Int32} (h : X12_isIn_J15 s0 M = some out) : Wp w mdX12_isIn d 15 [none, none, none] [.inl s0] M (.inl (some (.inl out))) M := by
  unfold X12_isIn_J15 at h
  obtain ⟨z1, e2, h⟩ := bnd h
  obtain ⟨hz_, rfl⟩ := zck_of e2
  cases h
  exact wp_zret dX12_isIn_15 rfl hz_

theorem X12_isIn_J14_ok {w : Gw} {d : Nat} {M : Gm} {out : Int32} (h : X12_isIn_J14 M = some out) : Wp w mdX12_isIn d 14 [none, none, none] [] M (.inl (some (.inl out))) M := by
  unfold X12_isIn_J14 at h
  refine wp_iconst (v := 0) dX12_isIn_14 (by decide) ?_
  exact wp_ls (lsN (lsN (lsN lsZ))) (X12_isIn_J15_ok h)

theorem X12_isIn_F_ok {w : Gw} {d : Nat} {x0 : Int32} {x1 : Int32} {x2 : Int32} {M : Gm} {out : Int32} (h : X12_isIn_F x0 x1 x2 M = some out) : Wp w mdX12_isIn d 0 [some (.inl x0), some (.inl x1), some (.inl x2)] [] M (.inl (some (.inl out))) M := by
  unfold X12_isIn_F at h
  refine wp_iload_n dX12_isIn_0 rfl ?_
  refine wp_iload_n dX12_isIn_1 rfl ?_
  refine wp_icmp_lt (tgt := 14) dX12_isIn_2 (by decide) (fun hc_ => ?_) (fun hc_ => ?_)
  · replace h := ite_t hc_ h
    exact wp_ls (lsN (lsN (lsN lsZ))) (X12_isIn_J14_ok h)
  · replace h := ite_f hc_ h
    refine wp_iload_n dX12_isIn_5 rfl ?_
    refine wp_iload_n dX12_isIn_6 rfl ?_
    refine wp_icmp_gt (tgt := 14) dX12_isIn_7 (by decide) (fun hc_ => ?_) (fun hc_ => ?_)
    · replace h := ite_t hc_ h
      exact wp_ls (lsN (lsN (lsN lsZ))) (X12_isIn_J14_ok h)
    · replace h := ite_f hc_ h
      refine wp_iconst (v := 1) dX12_isIn_10 (by decide) ?_
      refine wp_goto (tgt := 15) dX12_isIn_11 (by decide) ?_
      exact wp_ls (lsN (lsN (lsN lsZ))) (X12_isIn_J15_ok h)

theorem sh_X12_isIn_ok {w : Gw} {d : Nat} {x0 : Int32} {x1 : Int32} {x2 : Int32} {M : Gm} {out : Int32} (h : sh_X12_isIn x0 x1 x2 M = some out) : Ev w mdX12_isIn d [.inl x0, .inl x1, .inl x2] M (.inl (some (.inl out))) M := ev_of okX12_isIn trivial (Nat.le_of_ble_eq_true rfl) (X12_isIn_F_ok h)

/-! HeatGovernorModel.isZone(I)Z -/
def X12_isZone_F (x0 : Nat) (x1 : Int32) (M : Gm) : Option (Int32) :=
  (sh_X12_zones x0 M).bind fun q1 =>
  (sh_X12_isIn x1 0 (q1 - 1) M).bind fun q3 =>
  (zck q3).bind fun z5 =>
  some z5
def sh_X12_isZone (x0 : Nat) (x1 : Int32) (M : Gm) : Option (Int32) := (isO M x0 12).bind fun _ => X12_isZone_F x0 x1 M
theorem X12_isZone_F_ok {w : Gw} {d : Nat} {x0 : Nat} {x1 : Int32} {M : Gm} {out : Int32} (h : X12_isZone_F x0 x1 M = some out) : Wp w mdX12_isZone (d + 1) 0 [some (.inr x0), some (.inl x1)] [] M (.inl (some (.inl out))) M := by
  unfold X12_isZone_F at h
  refine wp_iload_n dX12_isZone_0 rfl ?_
  refine wp_iconst (v := 0) dX12_isZone_1 (by decide) ?_
  refine wp_aload_n dX12_isZone_2 rfl ?_
  obtain ⟨q1, e2, h⟩ := bnd h
  refine wp_callV (As := []) dX12_isZone_3 (sh_X12_zones_ok (d := d) e2) okX12_zones nnX12_zones vvX12_zones ml_RX12_266 rfl (Nat.le_of_ble_eq_true rfl) ?_
  refine wp_iconst (v := 1) dX12_isZone_6 (by decide) ?_
  refine wp_isub dX12_isZone_7 ?_
  obtain ⟨q3, e4, h⟩ := bnd h
  refine wp_callS (As := [.inl x1, .inl 0, .inl (q1 - 1)]) dX12_isZone_8 (sh_X12_isIn_ok (d := d) e4) okX12_isIn nnX12_isIn ssX12_isIn ml_RX12_378 rfl (Nat.le_of_ble_eq_true rfl) ?_
  obtain ⟨z5, e6, h⟩ := bnd h
  obtain ⟨hz_, rfl⟩ := zck_of e6
  cases h
  exact wp_zret dX12_isZone_11 rfl hz_

theorem sh_X12_isZone_ok {w : Gw} {d : Nat} {x0 : Nat} {x1 : Int32} {M : Gm} {out : Int32} (h : sh_X12_isZone x0 x1 M = some out) : Ev w mdX12_isZone (d + 1) [.inr x0, .inl x1] M (.inl (some (.inl out))) M := by
  obtain ⟨u, e0, h⟩ := bnd h
  exact ev_of okX12_isZone ⟨_, _, rfl, isO_of e0 (by decide), by decide⟩ (Nat.le_of_ble_eq_true rfl) (X12_isZone_F_ok h)

/-! HeatGovernorModel.margin(I)I -/
def X12_margin_J75 (x0 : Nat) (x1 : Int32) (x2 : Int32) (x3 : Int32) (M : Gm) : Option ((Int32 × Int32) ⊕ Int32) :=
  some (.inl (x2, x3 + 1))
def X12_margin_J74 (x0 : Nat) (x1 : Int32) (x3 : Int32) (s0 : Int32) (M : Gm) : Option ((Int32 × Int32) ⊕ Int32) :=
  X12_margin_J75 x0 x1 s0 x3 M
def X12_margin_B4 (x0 : Nat) (x1 : Int32) (M : Gm) (q : Int32 × Int32) : Option ((Int32 × Int32) ⊕ Int32) :=
  (sh_X12_trips x0 M).bind fun q1 =>
  if q1 ≤ q.2 then
    some (.inr q.1)
  else
    (sh_X12_zoneOf x0 q.2 M).bind fun q3 =>
    if q3 = x1 then
      (gfR M x0 12 5).bind fun v5 =>
      (ldA M 0 v5 (50 + q.2)).bind fun v7 =>
      if v7 = 1 then
        X12_margin_J75 x0 x1 q.1 q.2 M
      else
        (gfR M x0 12 6).bind fun v9 =>
        (ldA M 0 v9 (35 + q.2)).bind fun v11 =>
        (gfR M x0 12 5).bind fun v13 =>
        (ldA M 0 v13 (20 + x1)).bind fun v15 =>
        if q.1 = ((-1)) then
          X12_margin_J74 x0 x1 q.2 (v11 - v15) M
        else
          (sh_J9_min_7cf53 q.1 (v11 - v15) M).bind fun q17 =>
          X12_margin_J74 x0 x1 q.2 q17 M
    else
      X12_margin_J75 x0 x1 q.1 q.2 M
def X12_margin_F (x0 : Nat) (x1 : Int32) (M : Gm) : Option (Int32) :=
  (lp (X12_margin_B4 x0 x1 M) FU ((-1), 0)).bind fun r1 =>
  some r1
def sh_X12_margin (x0 : Nat) (x1 : Int32) (M : Gm) : Option (Int32) := (isO M x0 12).bind fun _ => X12_margin_F x0 x1 M
theorem X12_margin_J75_ok {w : Gw} {d : Nat} {x0 : Nat} {x1 : Int32} {x2 : Int32} {x3 : Int32} {M : Gm} {o : Go} {M' : Gm} {out : (Int32 × Int32) ⊕ Int32} (h : X12_margin_J75 x0 x1 x2 x3 M = some out) (hc : ∀ t : Int32 × Int32, out = .inl t → Wp w mdX12_margin (d + 1) 4 [some (.inr x0), some (.inl x1), some (.inl t.1), some (.inl t.2), none] [] M o M') (he0 : ∀ t : Int32, out = .inr t → Wp w mdX12_margin (d + 1) 81 [none, none, some (.inl t), none, none] [] M o M') : Wp w mdX12_margin (d + 1) 75 [some (.inr x0), some (.inl x1), some (.inl x2), some (.inl x3), none] [] M o M' := by
  unfold X12_margin_J75 at h
  refine wp_iinc (v := x3 + 1) dX12_margin_75 rfl rfl ?_
  refine wp_goto (tgt := 4) dX12_margin_78 (by decide) ?_
  cases h
  exact wp_ls (lsS (lsS (lsS (lsS (lsN lsZ))))) (hc (x2, x3 + 1) rfl)

theorem X12_margin_J74_ok {w : Gw} {d : Nat} {x0 : Nat} {x1 : Int32} {x3 : Int32} {s0 : Int32} {M : Gm} {o : Go} {M' : Gm} {out : (Int32 × Int32) ⊕ Int32} (h : X12_margin_J74 x0 x1 x3 s0 M = some out) (hc : ∀ t : Int32 × Int32, out = .inl t → Wp w mdX12_margin (d + 1) 4 [some (.inr x0), some (.inl x1), some (.inl t.1), some (.inl t.2), none] [] M o M') (he0 : ∀ t : Int32, out = .inr t → Wp w mdX12_margin (d + 1) 81 [none, none, some (.inl t), none, none] [] M o M') : Wp w mdX12_margin (d + 1) 74 [some (.inr x0), some (.inl x1), none, some (.inl x3), none] [.inl s0] M o M' := by
  unfold X12_margin_J74 at h
  refine wp_istore_n dX12_margin_74 (Nat.le_of_ble_eq_true rfl) ?_
  exact wp_ls (lsS (lsS (lsS (lsS (lsN lsZ))))) (X12_margin_J75_ok h hc he0)

theorem X12_margin_B4_ok {w : Gw} {d : Nat} {x0 : Nat} {x1 : Int32} {M : Gm} {q : Int32 × Int32} {o : Go} {M' : Gm} {out : (Int32 × Int32) ⊕ Int32} (h : X12_margin_B4 x0 x1 M q = some out) (hc : ∀ t : Int32 × Int32, out = .inl t → Wp w mdX12_margin (d + 1) 4 [some (.inr x0), some (.inl x1), some (.inl t.1), some (.inl t.2), none] [] M o M') (he0 : ∀ t : Int32, out = .inr t → Wp w mdX12_margin (d + 1) 81 [none, none, some (.inl t), none, none] [] M o M') : Wp w mdX12_margin (d + 1) 4 [some (.inr x0), some (.inl x1), some (.inl q.1), some (.inl q.2), none] [] M o M' := by
  unfold X12_margin_B4 at h
  refine wp_iload_n dX12_margin_4 rfl ?_
  refine wp_aload_n dX12_margin_5 rfl ?_
  obtain ⟨q1, e2, h⟩ := bnd h
  refine wp_callV (As := []) dX12_margin_6 (sh_X12_trips_ok (d := d) e2) okX12_trips nnX12_trips vvX12_trips ml_RX12_312 rfl (Nat.le_of_ble_eq_true rfl) ?_
  refine wp_icmp_ge (tgt := 81) dX12_margin_9 (by decide) (fun hc_ => ?_) (fun hc_ => ?_)
  · replace h := ite_t hc_ h
    cases h
    exact wp_ls (lsN (lsN (lsS (lsN (lsN lsZ))))) (he0 q.1 rfl)
  · replace h := ite_f hc_ h
    refine wp_aload_n dX12_margin_12 rfl ?_
    refine wp_iload_n dX12_margin_13 rfl ?_
    obtain ⟨q3, e4, h⟩ := bnd h
    refine wp_callV (As := [.inl q.2]) dX12_margin_14 (sh_X12_zoneOf_ok (d := d) e4) okX12_zoneOf nnX12_zoneOf vvX12_zoneOf ml_RX12_287 rfl (Nat.le_of_ble_eq_true rfl) ?_
    refine wp_iload_n dX12_margin_17 rfl ?_
    refine wp_icmp_ne (tgt := 75) dX12_margin_18 (by decide) (fun hc_ => ?_) (fun hc_ => ?_)
    · replace h := ite_f hc_ h
      exact wp_ls (lsS (lsS (lsS (lsS (lsN lsZ))))) (X12_margin_J75_ok h hc he0)
    · replace h := ite_t hc_ h
      refine wp_aload_n dX12_margin_21 rfl ?_
      obtain ⟨v5, e6, h⟩ := bnd h
      refine wp_getR (c := 12) (k := 5) dX12_margin_22 e6 (by decide) (by decide) rfl fl_RX12_58 ?_
      refine wp_bipush (v := 50) dX12_margin_25 (by decide) ?_
      refine wp_iload_n dX12_margin_27 rfl ?_
      refine wp_iadd dX12_margin_28 ?_
      obtain ⟨v7, e8, h⟩ := bnd h
      refine wp_iaload dX12_margin_29 e8 ?_
      refine wp_iconst (v := 1) dX12_margin_30 (by decide) ?_
      refine wp_icmp_ne (tgt := 37) dX12_margin_31 (by decide) (fun hc_ => ?_) (fun hc_ => ?_)
      · replace h := ite_f hc_ h
        refine wp_aload_n dX12_margin_37 rfl ?_
        obtain ⟨v9, e10, h⟩ := bnd h
        refine wp_getR (c := 12) (k := 6) dX12_margin_38 e10 (by decide) (by decide) rfl fl_RX12_62 ?_
        refine wp_bipush (v := 35) dX12_margin_41 (by decide) ?_
        refine wp_iload_n dX12_margin_43 rfl ?_
        refine wp_iadd dX12_margin_44 ?_
        obtain ⟨v11, e12, h⟩ := bnd h
        refine wp_iaload dX12_margin_45 e12 ?_
        refine wp_aload_n dX12_margin_46 rfl ?_
        obtain ⟨v13, e14, h⟩ := bnd h
        refine wp_getR (c := 12) (k := 5) dX12_margin_47 e14 (by decide) (by decide) rfl fl_RX12_58 ?_
        refine wp_bipush (v := 20) dX12_margin_50 (by decide) ?_
        refine wp_iload_n dX12_margin_52 rfl ?_
        refine wp_iadd dX12_margin_53 ?_
        obtain ⟨v15, e16, h⟩ := bnd h
        refine wp_iaload dX12_margin_54 e16 ?_
        refine wp_isub dX12_margin_55 ?_
        refine wp_istore dX12_margin_56 (Nat.le_of_ble_eq_true rfl) ?_
        refine wp_iload_n dX12_margin_58 rfl ?_
        refine wp_iconst (v := (-1)) dX12_margin_59 (by decide) ?_
        refine wp_icmp_ne (tgt := 68) dX12_margin_60 (by decide) (fun hc_ => ?_) (fun hc_ => ?_)
        · replace h := ite_f hc_ h
          refine wp_iload_n dX12_margin_68 rfl ?_
          refine wp_iload dX12_margin_69 rfl ?_
          obtain ⟨q17, e18, h⟩ := bnd h
          refine wp_callS (As := [.inl q.1, .inl (v11 - v15)]) dX12_margin_71 (sh_J9_min_7cf53_ok (d := d) e18) okJ9_min_7cf53 nnJ9_min_7cf53 ssJ9_min_7cf53 ml_RX12_164 rfl (Nat.le_of_ble_eq_true rfl) ?_
          exact wp_ls (lsS (lsS (lsN (lsS (lsN lsZ))))) (X12_margin_J74_ok h hc he0)
        · replace h := ite_t hc_ h
          refine wp_iload dX12_margin_63 rfl ?_
          refine wp_goto (tgt := 74) dX12_margin_65 (by decide) ?_
          exact wp_ls (lsS (lsS (lsN (lsS (lsN lsZ))))) (X12_margin_J74_ok h hc he0)
      · replace h := ite_t hc_ h
        refine wp_goto (tgt := 75) dX12_margin_34 (by decide) ?_
        exact wp_ls (lsS (lsS (lsS (lsS (lsN lsZ))))) (X12_margin_J75_ok h hc he0)

theorem X12_margin_B4_lp {w : Gw} {d : Nat} {x0 : Nat} {x1 : Int32} {M : Gm} {o : Go} {M' : Gm} {r : Int32} : ∀ (n : Nat) (q : Int32 × Int32), lp (X12_margin_B4 x0 x1 M) n q = some r → (∀ t : Int32, r = t → Wp w mdX12_margin (d + 1) 81 [none, none, some (.inl t), none, none] [] M o M') → Wp w mdX12_margin (d + 1) 4 [some (.inr x0), some (.inl x1), some (.inl q.1), some (.inl q.2), none] [] M o M' := by
  intro n
  induction n with
  | zero => intro q h; cases h
  | succ n ih =>
    intro q h he0
    cases hb : X12_margin_B4 x0 x1 M q with
    | none => rw [lp_succ, hb] at h; cases h
    | some out =>
      rw [lp_succ, hb] at h
      exact X12_margin_B4_ok hb (fun t e => ih t (by rw [e] at h; exact h) he0) (fun t e => he0 t (by rw [e] at h; cases h; rfl))
theorem X12_margin_F_ok {w : Gw} {d : Nat} {x0 : Nat} {x1 : Int32} {M : Gm} {out : Int32} (h : X12_margin_F x0 x1 M = some out) : Wp w mdX12_margin (d + 1) 0 [some (.inr x0), some (.inl x1), none, none, none] [] M (.inl (some (.inl out))) M := by
  unfold X12_margin_F at h
  refine wp_iconst (v := (-1)) dX12_margin_0 (by decide) ?_
  refine wp_istore_n dX12_margin_1 (Nat.le_of_ble_eq_true rfl) ?_
  refine wp_iconst (v := 0) dX12_margin_2 (by decide) ?_
  refine wp_istore_n dX12_margin_3 (Nat.le_of_ble_eq_true rfl) ?_
  obtain ⟨r1, e2, h⟩ := bnd h
  refine wp_ls (lsS (lsS (lsS (lsS (lsN lsZ))))) (X12_margin_B4_lp FU _ e2 ?_)
  intro t_ ht_; cases ht_
  refine wp_iload_n dX12_margin_81 rfl ?_
  cases h
  exact wp_iret dX12_margin_82 rfl

theorem sh_X12_margin_ok {w : Gw} {d : Nat} {x0 : Nat} {x1 : Int32} {M : Gm} {out : Int32} (h : sh_X12_margin x0 x1 M = some out) : Ev w mdX12_margin (d + 1) [.inr x0, .inl x1] M (.inl (some (.inl out))) M := by
  obtain ⟨u, e0, h⟩ := bnd h
  exact ev_of okX12_margin ⟨_, _, rfl, isO_of e0 (by decide), by decide⟩ (Nat.le_of_ble_eq_true rfl) (X12_margin_F_ok h)

/-! HeatGovernorModel.zone(II)I -/
def X12_zone_F (x0 : Nat) (x1 : Int32) (x2 : Int32) (M : Gm) : Option (Int32 × Gm) :=
  (pfI M x0 12 4 0).bind fun M1 =>
  (sh_X12_isZone x0 x1 M1).bind fun q3 =>
  if q3 = 0 then
    (sh_X12_fail x0 1 M1).bind fun q47 =>
    some (q47.1, q47.2)
  else
    if x2 = 0 then
      (gfR M1 x0 12 5).bind fun v5 =>
      (ldA M1 0 v5 (0 + x1)).bind fun v7 =>
      some (v7, M1)
    else if x2 = 1 then
      (gfR M1 x0 12 5).bind fun v9 =>
      (ldA M1 0 v9 (20 + x1)).bind fun v11 =>
      some (v11, M1)
    else if x2 = 2 then
      (gfR M1 x0 12 5).bind fun v13 =>
      (ldA M1 0 v13 (25 + x1)).bind fun v15 =>
      some (v15, M1)
    else if x2 = 3 then
      (gfR M1 x0 12 5).bind fun v17 =>
      (ldA M1 0 v17 (5 + x1)).bind fun v19 =>
      some (v19, M1)
    else if x2 = 4 then
      (gfR M1 x0 12 6).bind fun v21 =>
      (ldA M1 0 v21 (0 + x1)).bind fun v23 =>
      some (v23, M1)
    else if x2 = 5 then
      (gfR M1 x0 12 6).bind fun v25 =>
      (ldA M1 0 v25 (5 + x1)).bind fun v27 =>
      some (v27, M1)
    else if x2 = 6 then
      (gfR M1 x0 12 6).bind fun v29 =>
      (ldA M1 0 v29 (10 + x1)).bind fun v31 =>
      some (v31, M1)
    else if x2 = 7 then
      (gfR M1 x0 12 5).bind fun v33 =>
      (ldA M1 0 v33 (10 + x1)).bind fun v35 =>
      some (v35, M1)
    else if x2 = 8 then
      (gfR M1 x0 12 5).bind fun v37 =>
      (ldA M1 0 v37 (15 + x1)).bind fun v39 =>
      some (v39, M1)
    else if x2 = 9 then
      (sh_X12_margin x0 x1 M1).bind fun q41 =>
      some (q41, M1)
    else if x2 = 10 then
      (sh_X12_cooled x0 x1 M1).bind fun q43 =>
      some (q43, M1)
    else
      (sh_X12_fail x0 1 M1).bind fun q45 =>
      some (q45.1, q45.2)
def sh_X12_zone (x0 : Nat) (x1 : Int32) (x2 : Int32) (M : Gm) : Option (Int32 × Gm) := (isO M x0 12).bind fun _ => X12_zone_F x0 x1 x2 M
theorem X12_zone_F_ok {w : Gw} {d : Nat} {x0 : Nat} {x1 : Int32} {x2 : Int32} {M : Gm} {out : Int32 × Gm} (h : X12_zone_F x0 x1 x2 M = some out) : Wp w mdX12_zone (d + 2) 0 [some (.inr x0), some (.inl x1), some (.inl x2)] [] M (.inl (some (.inl out.1))) out.2 := by
  unfold X12_zone_F at h
  refine wp_aload_n dX12_zone_0 rfl ?_
  refine wp_iconst (v := 0) dX12_zone_1 (by decide) ?_
  obtain ⟨M1, e2, h⟩ := bnd h
  refine wp_putI (c := 12) (k := 4) dX12_zone_2 e2 (by decide) (by decide) rfl fl_RX12_131 (Or.inl rfl) ?_
  refine wp_aload_n dX12_zone_5 rfl ?_
  refine wp_iload_n dX12_zone_6 rfl ?_
  obtain ⟨q3, e4, h⟩ := bnd h
  refine wp_callV (As := [.inl x1]) dX12_zone_7 (sh_X12_isZone_ok (d := d) e4) okX12_isZone nnX12_isZone vvX12_isZone ml_RX12_382 rfl (Nat.le_of_ble_eq_true rfl) ?_
  refine wp_if_ne (tgt := 19) dX12_zone_10 (by decide) (fun hc_ => ?_) (fun hc_ => ?_)
  · replace h := ite_f hc_ h
    refine wp_iload_n dX12_zone_19 rfl ?_
    by_cases cz0 : x2 = 0
    · replace h := ite_t cz0 h
      refine wp_tableIn (tgt := 80) dX12_zone_20 0 (by rw [cz0]; decide) (by decide) rfl (by decide) ?_
      refine wp_aload_n dX12_zone_80 rfl ?_
      obtain ⟨v5, e6, h⟩ := bnd h
      refine wp_getR (c := 12) (k := 5) dX12_zone_81 e6 (by decide) (by decide) rfl fl_RX12_58 ?_
      refine wp_iconst (v := 0) dX12_zone_84 (by decide) ?_
      refine wp_iload_n dX12_zone_85 rfl ?_
      refine wp_iadd dX12_zone_86 ?_
      obtain ⟨v7, e8, h⟩ := bnd h
      refine wp_iaload dX12_zone_87 e8 ?_
      cases h
      exact wp_iret dX12_zone_88 rfl
    replace h := ite_f cz0 h
    by_cases cz1 : x2 = 1
    · replace h := ite_t cz1 h
      refine wp_tableIn (tgt := 89) dX12_zone_20 1 (by rw [cz1]; decide) (by decide) rfl (by decide) ?_
      refine wp_aload_n dX12_zone_89 rfl ?_
      obtain ⟨v9, e10, h⟩ := bnd h
      refine wp_getR (c := 12) (k := 5) dX12_zone_90 e10 (by decide) (by decide) rfl fl_RX12_58 ?_
      refine wp_bipush (v := 20) dX12_zone_93 (by decide) ?_
      refine wp_iload_n dX12_zone_95 rfl ?_
      refine wp_iadd dX12_zone_96 ?_
      obtain ⟨v11, e12, h⟩ := bnd h
      refine wp_iaload dX12_zone_97 e12 ?_
      cases h
      exact wp_iret dX12_zone_98 rfl
    replace h := ite_f cz1 h
    by_cases cz2 : x2 = 2
    · replace h := ite_t cz2 h
      refine wp_tableIn (tgt := 99) dX12_zone_20 2 (by rw [cz2]; decide) (by decide) rfl (by decide) ?_
      refine wp_aload_n dX12_zone_99 rfl ?_
      obtain ⟨v13, e14, h⟩ := bnd h
      refine wp_getR (c := 12) (k := 5) dX12_zone_100 e14 (by decide) (by decide) rfl fl_RX12_58 ?_
      refine wp_bipush (v := 25) dX12_zone_103 (by decide) ?_
      refine wp_iload_n dX12_zone_105 rfl ?_
      refine wp_iadd dX12_zone_106 ?_
      obtain ⟨v15, e16, h⟩ := bnd h
      refine wp_iaload dX12_zone_107 e16 ?_
      cases h
      exact wp_iret dX12_zone_108 rfl
    replace h := ite_f cz2 h
    by_cases cz3 : x2 = 3
    · replace h := ite_t cz3 h
      refine wp_tableIn (tgt := 109) dX12_zone_20 3 (by rw [cz3]; decide) (by decide) rfl (by decide) ?_
      refine wp_aload_n dX12_zone_109 rfl ?_
      obtain ⟨v17, e18, h⟩ := bnd h
      refine wp_getR (c := 12) (k := 5) dX12_zone_110 e18 (by decide) (by decide) rfl fl_RX12_58 ?_
      refine wp_iconst (v := 5) dX12_zone_113 (by decide) ?_
      refine wp_iload_n dX12_zone_114 rfl ?_
      refine wp_iadd dX12_zone_115 ?_
      obtain ⟨v19, e20, h⟩ := bnd h
      refine wp_iaload dX12_zone_116 e20 ?_
      cases h
      exact wp_iret dX12_zone_117 rfl
    replace h := ite_f cz3 h
    by_cases cz4 : x2 = 4
    · replace h := ite_t cz4 h
      refine wp_tableIn (tgt := 118) dX12_zone_20 4 (by rw [cz4]; decide) (by decide) rfl (by decide) ?_
      refine wp_aload_n dX12_zone_118 rfl ?_
      obtain ⟨v21, e22, h⟩ := bnd h
      refine wp_getR (c := 12) (k := 6) dX12_zone_119 e22 (by decide) (by decide) rfl fl_RX12_62 ?_
      refine wp_iconst (v := 0) dX12_zone_122 (by decide) ?_
      refine wp_iload_n dX12_zone_123 rfl ?_
      refine wp_iadd dX12_zone_124 ?_
      obtain ⟨v23, e24, h⟩ := bnd h
      refine wp_iaload dX12_zone_125 e24 ?_
      cases h
      exact wp_iret dX12_zone_126 rfl
    replace h := ite_f cz4 h
    by_cases cz5 : x2 = 5
    · replace h := ite_t cz5 h
      refine wp_tableIn (tgt := 127) dX12_zone_20 5 (by rw [cz5]; decide) (by decide) rfl (by decide) ?_
      refine wp_aload_n dX12_zone_127 rfl ?_
      obtain ⟨v25, e26, h⟩ := bnd h
      refine wp_getR (c := 12) (k := 6) dX12_zone_128 e26 (by decide) (by decide) rfl fl_RX12_62 ?_
      refine wp_iconst (v := 5) dX12_zone_131 (by decide) ?_
      refine wp_iload_n dX12_zone_132 rfl ?_
      refine wp_iadd dX12_zone_133 ?_
      obtain ⟨v27, e28, h⟩ := bnd h
      refine wp_iaload dX12_zone_134 e28 ?_
      cases h
      exact wp_iret dX12_zone_135 rfl
    replace h := ite_f cz5 h
    by_cases cz6 : x2 = 6
    · replace h := ite_t cz6 h
      refine wp_tableIn (tgt := 136) dX12_zone_20 6 (by rw [cz6]; decide) (by decide) rfl (by decide) ?_
      refine wp_aload_n dX12_zone_136 rfl ?_
      obtain ⟨v29, e30, h⟩ := bnd h
      refine wp_getR (c := 12) (k := 6) dX12_zone_137 e30 (by decide) (by decide) rfl fl_RX12_62 ?_
      refine wp_bipush (v := 10) dX12_zone_140 (by decide) ?_
      refine wp_iload_n dX12_zone_142 rfl ?_
      refine wp_iadd dX12_zone_143 ?_
      obtain ⟨v31, e32, h⟩ := bnd h
      refine wp_iaload dX12_zone_144 e32 ?_
      cases h
      exact wp_iret dX12_zone_145 rfl
    replace h := ite_f cz6 h
    by_cases cz7 : x2 = 7
    · replace h := ite_t cz7 h
      refine wp_tableIn (tgt := 146) dX12_zone_20 7 (by rw [cz7]; decide) (by decide) rfl (by decide) ?_
      refine wp_aload_n dX12_zone_146 rfl ?_
      obtain ⟨v33, e34, h⟩ := bnd h
      refine wp_getR (c := 12) (k := 5) dX12_zone_147 e34 (by decide) (by decide) rfl fl_RX12_58 ?_
      refine wp_bipush (v := 10) dX12_zone_150 (by decide) ?_
      refine wp_iload_n dX12_zone_152 rfl ?_
      refine wp_iadd dX12_zone_153 ?_
      obtain ⟨v35, e36, h⟩ := bnd h
      refine wp_iaload dX12_zone_154 e36 ?_
      cases h
      exact wp_iret dX12_zone_155 rfl
    replace h := ite_f cz7 h
    by_cases cz8 : x2 = 8
    · replace h := ite_t cz8 h
      refine wp_tableIn (tgt := 156) dX12_zone_20 8 (by rw [cz8]; decide) (by decide) rfl (by decide) ?_
      refine wp_aload_n dX12_zone_156 rfl ?_
      obtain ⟨v37, e38, h⟩ := bnd h
      refine wp_getR (c := 12) (k := 5) dX12_zone_157 e38 (by decide) (by decide) rfl fl_RX12_58 ?_
      refine wp_bipush (v := 15) dX12_zone_160 (by decide) ?_
      refine wp_iload_n dX12_zone_162 rfl ?_
      refine wp_iadd dX12_zone_163 ?_
      obtain ⟨v39, e40, h⟩ := bnd h
      refine wp_iaload dX12_zone_164 e40 ?_
      cases h
      exact wp_iret dX12_zone_165 rfl
    replace h := ite_f cz8 h
    by_cases cz9 : x2 = 9
    · replace h := ite_t cz9 h
      refine wp_tableIn (tgt := 166) dX12_zone_20 9 (by rw [cz9]; decide) (by decide) rfl (by decide) ?_
      refine wp_aload_n dX12_zone_166 rfl ?_
      refine wp_iload_n dX12_zone_167 rfl ?_
      obtain ⟨q41, e42, h⟩ := bnd h
      refine wp_callV (As := [.inl x1]) dX12_zone_168 (sh_X12_margin_ok (d := d) e42) okX12_margin nnX12_margin vvX12_margin ml_RX12_385 rfl (Nat.le_of_ble_eq_true rfl) ?_
      cases h
      exact wp_iret dX12_zone_171 rfl
    replace h := ite_f cz9 h
    by_cases cz10 : x2 = 10
    · replace h := ite_t cz10 h
      refine wp_tableIn (tgt := 172) dX12_zone_20 10 (by rw [cz10]; decide) (by decide) rfl (by decide) ?_
      refine wp_aload_n dX12_zone_172 rfl ?_
      refine wp_iload_n dX12_zone_173 rfl ?_
      obtain ⟨q43, e44, h⟩ := bnd h
      refine wp_callV (As := [.inl x1]) dX12_zone_174 (sh_X12_cooled_ok (d := d) e44) okX12_cooled nnX12_cooled vvX12_cooled ml_RX12_272 rfl (Nat.le_of_ble_eq_true rfl) ?_
      cases h
      exact wp_iret dX12_zone_177 rfl
    replace h := ite_f cz10 h
    refine wp_tableOut (tgt := 178) dX12_zone_20 (by have g0 := lv_neT cz0 (show (0 : Int32).toInt = 0 by decide); have g1 := lv_neT cz1 (show (1 : Int32).toInt = 1 by decide); have g2 := lv_neT cz2 (show (2 : Int32).toInt = 2 by decide); have g3 := lv_neT cz3 (show (3 : Int32).toInt = 3 by decide); have g4 := lv_neT cz4 (show (4 : Int32).toInt = 4 by decide); have g5 := lv_neT cz5 (show (5 : Int32).toInt = 5 by decide); have g6 := lv_neT cz6 (show (6 : Int32).toInt = 6 by decide); have g7 := lv_neT cz7 (show (7 : Int32).toInt = 7 by decide); have g8 := lv_neT cz8 (show (8 : Int32).toInt = 8 by decide); have g9 := lv_neT cz9 (show (9 : Int32).toInt = 9 by decide); have g10 := lv_neT cz10 (show (10 : Int32).toInt = 10 by decide); omega) (by decide) ?_
    refine wp_aload_n dX12_zone_178 rfl ?_
    refine wp_iconst (v := 1) dX12_zone_179 (by decide) ?_
    obtain ⟨q45, e46, h⟩ := bnd h
    refine wp_callV (As := [.inl 1]) dX12_zone_180 (sh_X12_fail_ok (d := d + 1) e46) okX12_fail nnX12_fail vvX12_fail ml_RX12_245 rfl (Nat.le_of_ble_eq_true rfl) ?_
    cases h
    exact wp_iret dX12_zone_183 rfl
  · replace h := ite_t hc_ h
    refine wp_aload_n dX12_zone_13 rfl ?_
    refine wp_iconst (v := 1) dX12_zone_14 (by decide) ?_
    obtain ⟨q47, e48, h⟩ := bnd h
    refine wp_callV (As := [.inl 1]) dX12_zone_15 (sh_X12_fail_ok (d := d + 1) e48) okX12_fail nnX12_fail vvX12_fail ml_RX12_245 rfl (Nat.le_of_ble_eq_true rfl) ?_
    cases h
    exact wp_iret dX12_zone_18 rfl

theorem sh_X12_zone_ok {w : Gw} {d : Nat} {x0 : Nat} {x1 : Int32} {x2 : Int32} {M : Gm} {out : Int32 × Gm} (h : sh_X12_zone x0 x1 x2 M = some out) : Ev w mdX12_zone (d + 2) [.inr x0, .inl x1, .inl x2] M (.inl (some (.inl out.1))) out.2 := by
  obtain ⟨u, e0, h⟩ := bnd h
  exact ev_of okX12_zone ⟨_, _, rfl, isO_of e0 (by decide), by decide⟩ (Nat.le_of_ble_eq_true rfl) (X12_zone_F_ok h)

/-! HeatGovernorModel.bound(I)I -/
def X12_bound_J27 (x0 : Nat) (x1 : Int32) (x3 : Int32) (s0 : Int32) (s1 : Int32) (M : Gm) : Option ((Int32 × Int32) ⊕ Int32) :=
  some (.inl (s0 + s1, x3 + 1))
def X12_bound_B4 (x0 : Nat) (x1 : Int32) (M : Gm) (q : Int32 × Int32) : Option ((Int32 × Int32) ⊕ Int32) :=
  (sh_X12_devices x0 M).bind fun q1 =>
  if q1 ≤ q.2 then
    some (.inr q.1)
  else
    (sh_X12_weight x0 x1 q.2 M).bind fun q3 =>
    if q3 ≤ 0 then
      X12_bound_J27 x0 x1 q.2 q.1 0 M
    else
      X12_bound_J27 x0 x1 q.2 q.1 1 M
def X12_bound_F (x0 : Nat) (x1 : Int32) (M : Gm) : Option (Int32) :=
  (lp (X12_bound_B4 x0 x1 M) FU (0, 0)).bind fun r1 =>
  some r1
def sh_X12_bound (x0 : Nat) (x1 : Int32) (M : Gm) : Option (Int32) := (isO M x0 12).bind fun _ => X12_bound_F x0 x1 M
theorem X12_bound_J27_ok {w : Gw} {d : Nat} {x0 : Nat} {x1 : Int32} {x3 : Int32} {s0 : Int32} {s1 : Int32} {M : Gm} {o : Go} {M' : Gm} {out : (Int32 × Int32) ⊕ Int32} (h : X12_bound_J27 x0 x1 x3 s0 s1 M = some out) (hc : ∀ t : Int32 × Int32, out = .inl t → Wp w mdX12_bound (d + 1) 4 [some (.inr x0), some (.inl x1), some (.inl t.1), some (.inl t.2)] [] M o M') (he0 : ∀ t : Int32, out = .inr t → Wp w mdX12_bound (d + 1) 35 [none, none, some (.inl t), none] [] M o M') : Wp w mdX12_bound (d + 1) 27 [some (.inr x0), some (.inl x1), none, some (.inl x3)] [.inl s1, .inl s0] M o M' := by
  unfold X12_bound_J27 at h
  refine wp_iadd dX12_bound_27 ?_
  refine wp_istore_n dX12_bound_28 (Nat.le_of_ble_eq_true rfl) ?_
  refine wp_iinc (v := x3 + 1) dX12_bound_29 rfl rfl ?_
  refine wp_goto (tgt := 4) dX12_bound_32 (by decide) ?_
  cases h
  exact wp_ls (lsS (lsS (lsS (lsS lsZ)))) (hc (s0 + s1, x3 + 1) rfl)

theorem X12_bound_B4_ok {w : Gw} {d : Nat} {x0 : Nat} {x1 : Int32} {M : Gm} {q : Int32 × Int32} {o : Go} {M' : Gm} {out : (Int32 × Int32) ⊕ Int32} (h : X12_bound_B4 x0 x1 M q = some out) (hc : ∀ t : Int32 × Int32, out = .inl t → Wp w mdX12_bound (d + 1) 4 [some (.inr x0), some (.inl x1), some (.inl t.1), some (.inl t.2)] [] M o M') (he0 : ∀ t : Int32, out = .inr t → Wp w mdX12_bound (d + 1) 35 [none, none, some (.inl t), none] [] M o M') : Wp w mdX12_bound (d + 1) 4 [some (.inr x0), some (.inl x1), some (.inl q.1), some (.inl q.2)] [] M o M' := by
  unfold X12_bound_B4 at h
  refine wp_iload_n dX12_bound_4 rfl ?_
  refine wp_aload_n dX12_bound_5 rfl ?_
  obtain ⟨q1, e2, h⟩ := bnd h
  refine wp_callV (As := []) dX12_bound_6 (sh_X12_devices_ok (d := d) e2) okX12_devices nnX12_devices vvX12_devices ml_RX12_263 rfl (Nat.le_of_ble_eq_true rfl) ?_
  refine wp_icmp_ge (tgt := 35) dX12_bound_9 (by decide) (fun hc_ => ?_) (fun hc_ => ?_)
  · replace h := ite_t hc_ h
    cases h
    exact wp_ls (lsN (lsN (lsS (lsN lsZ)))) (he0 q.1 rfl)
  · replace h := ite_f hc_ h
    refine wp_iload_n dX12_bound_12 rfl ?_
    refine wp_aload_n dX12_bound_13 rfl ?_
    refine wp_iload_n dX12_bound_14 rfl ?_
    refine wp_iload_n dX12_bound_15 rfl ?_
    obtain ⟨q3, e4, h⟩ := bnd h
    refine wp_callV (As := [.inl x1, .inl q.2]) dX12_bound_16 (sh_X12_weight_ok (d := d) e4) okX12_weight nnX12_weight vvX12_weight ml_RX12_294 rfl (Nat.le_of_ble_eq_true rfl) ?_
    refine wp_if_le (tgt := 26) dX12_bound_19 (by decide) (fun hc_ => ?_) (fun hc_ => ?_)
    · replace h := ite_t hc_ h
      refine wp_iconst (v := 0) dX12_bound_26 (by decide) ?_
      exact wp_ls (lsS (lsS (lsN (lsS lsZ)))) (X12_bound_J27_ok h hc he0)
    · replace h := ite_f hc_ h
      refine wp_iconst (v := 1) dX12_bound_22 (by decide) ?_
      refine wp_goto (tgt := 27) dX12_bound_23 (by decide) ?_
      exact wp_ls (lsS (lsS (lsN (lsS lsZ)))) (X12_bound_J27_ok h hc he0)

theorem X12_bound_B4_lp {w : Gw} {d : Nat} {x0 : Nat} {x1 : Int32} {M : Gm} {o : Go} {M' : Gm} {r : Int32} : ∀ (n : Nat) (q : Int32 × Int32), lp (X12_bound_B4 x0 x1 M) n q = some r → (∀ t : Int32, r = t → Wp w mdX12_bound (d + 1) 35 [none, none, some (.inl t), none] [] M o M') → Wp w mdX12_bound (d + 1) 4 [some (.inr x0), some (.inl x1), some (.inl q.1), some (.inl q.2)] [] M o M' := by
  intro n
  induction n with
  | zero => intro q h; cases h
  | succ n ih =>
    intro q h he0
    cases hb : X12_bound_B4 x0 x1 M q with
    | none => rw [lp_succ, hb] at h; cases h
    | some out =>
      rw [lp_succ, hb] at h
      exact X12_bound_B4_ok hb (fun t e => ih t (by rw [e] at h; exact h) he0) (fun t e => he0 t (by rw [e] at h; cases h; rfl))
theorem X12_bound_F_ok {w : Gw} {d : Nat} {x0 : Nat} {x1 : Int32} {M : Gm} {out : Int32} (h : X12_bound_F x0 x1 M = some out) : Wp w mdX12_bound (d + 1) 0 [some (.inr x0), some (.inl x1), none, none] [] M (.inl (some (.inl out))) M := by
  unfold X12_bound_F at h
  refine wp_iconst (v := 0) dX12_bound_0 (by decide) ?_
  refine wp_istore_n dX12_bound_1 (Nat.le_of_ble_eq_true rfl) ?_
  refine wp_iconst (v := 0) dX12_bound_2 (by decide) ?_
  refine wp_istore_n dX12_bound_3 (Nat.le_of_ble_eq_true rfl) ?_
  obtain ⟨r1, e2, h⟩ := bnd h
  refine wp_ls (lsS (lsS (lsS (lsS lsZ)))) (X12_bound_B4_lp FU _ e2 ?_)
  intro t_ ht_; cases ht_
  refine wp_iload_n dX12_bound_35 rfl ?_
  cases h
  exact wp_iret dX12_bound_36 rfl

theorem sh_X12_bound_ok {w : Gw} {d : Nat} {x0 : Nat} {x1 : Int32} {M : Gm} {out : Int32} (h : sh_X12_bound x0 x1 M = some out) : Ev w mdX12_bound (d + 1) [.inr x0, .inl x1] M (.inl (some (.inl out))) M := by
  obtain ⟨u, e0, h⟩ := bnd h
  exact ev_of okX12_bound ⟨_, _, rfl, isO_of e0 (by decide), by decide⟩ (Nat.le_of_ble_eq_true rfl) (X12_bound_F_ok h)

/-! HeatGovernorModel.isTrip(I)Z -/
def X12_isTrip_F (x0 : Nat) (x1 : Int32) (M : Gm) : Option (Int32) :=
  (sh_X12_trips x0 M).bind fun q1 =>
  (sh_X12_isIn x1 0 (q1 - 1) M).bind fun q3 =>
  (zck q3).bind fun z5 =>
  some z5
def sh_X12_isTrip (x0 : Nat) (x1 : Int32) (M : Gm) : Option (Int32) := (isO M x0 12).bind fun _ => X12_isTrip_F x0 x1 M
theorem X12_isTrip_F_ok {w : Gw} {d : Nat} {x0 : Nat} {x1 : Int32} {M : Gm} {out : Int32} (h : X12_isTrip_F x0 x1 M = some out) : Wp w mdX12_isTrip (d + 1) 0 [some (.inr x0), some (.inl x1)] [] M (.inl (some (.inl out))) M := by
  unfold X12_isTrip_F at h
  refine wp_iload_n dX12_isTrip_0 rfl ?_
  refine wp_iconst (v := 0) dX12_isTrip_1 (by decide) ?_
  refine wp_aload_n dX12_isTrip_2 rfl ?_
  obtain ⟨q1, e2, h⟩ := bnd h
  refine wp_callV (As := []) dX12_isTrip_3 (sh_X12_trips_ok (d := d) e2) okX12_trips nnX12_trips vvX12_trips ml_RX12_312 rfl (Nat.le_of_ble_eq_true rfl) ?_
  refine wp_iconst (v := 1) dX12_isTrip_6 (by decide) ?_
  refine wp_isub dX12_isTrip_7 ?_
  obtain ⟨q3, e4, h⟩ := bnd h
  refine wp_callS (As := [.inl x1, .inl 0, .inl (q1 - 1)]) dX12_isTrip_8 (sh_X12_isIn_ok (d := d) e4) okX12_isIn nnX12_isIn ssX12_isIn ml_RX12_378 rfl (Nat.le_of_ble_eq_true rfl) ?_
  obtain ⟨z5, e6, h⟩ := bnd h
  obtain ⟨hz_, rfl⟩ := zck_of e6
  cases h
  exact wp_zret dX12_isTrip_11 rfl hz_

theorem sh_X12_isTrip_ok {w : Gw} {d : Nat} {x0 : Nat} {x1 : Int32} {M : Gm} {out : Int32} (h : sh_X12_isTrip x0 x1 M = some out) : Ev w mdX12_isTrip (d + 1) [.inr x0, .inl x1] M (.inl (some (.inl out))) M := by
  obtain ⟨u, e0, h⟩ := bnd h
  exact ev_of okX12_isTrip ⟨_, _, rfl, isO_of e0 (by decide), by decide⟩ (Nat.le_of_ble_eq_true rfl) (X12_isTrip_F_ok h)

/-! HeatGovernorModel.trip(II)I -/
def X12_trip_F (x0 : Nat) (x1 : Int32) (x2 : Int32) (M : Gm) : Option (Int32 × Gm) :=
  (pfI M x0 12 4 0).bind fun M1 =>
  (sh_X12_isTrip x0 x1 M1).bind fun q3 =>
  if q3 = 0 then
    (sh_X12_fail x0 1 M1).bind fun q33 =>
    some (q33.1, q33.2)
  else
    if x2 = 0 then
      (sh_X12_zoneOf x0 x1 M1).bind fun q5 =>
      some (q5, M1)
    else if x2 = 1 then
      (gfR M1 x0 12 6).bind fun v7 =>
      (ldA M1 0 v7 (25 + x1)).bind fun v9 =>
      some (v9, M1)
    else if x2 = 2 then
      (gfR M1 x0 12 6).bind fun v11 =>
      (ldA M1 0 v11 (35 + x1)).bind fun v13 =>
      some (v13, M1)
    else if x2 = 3 then
      (gfR M1 x0 12 6).bind fun v15 =>
      (ldA M1 0 v15 (45 + x1)).bind fun v17 =>
      some (v17, M1)
    else if x2 = 4 then
      (gfR M1 x0 12 5).bind fun v19 =>
      (ldA M1 0 v19 (50 + x1)).bind fun v21 =>
      some (v21, M1)
    else if x2 = 5 then
      (gfR M1 x0 12 5).bind fun v23 =>
      (ldA M1 0 v23 (60 + x1)).bind fun v25 =>
      some (v25, M1)
    else if x2 = 6 then
      (sh_X12_askedOf x0 x1 M1).bind fun q27 =>
      some (q27, M1)
    else if x2 = 7 then
      (sh_X12_bound x0 x1 M1).bind fun q29 =>
      some (q29, M1)
    else
      (sh_X12_fail x0 1 M1).bind fun q31 =>
      some (q31.1, q31.2)
def sh_X12_trip (x0 : Nat) (x1 : Int32) (x2 : Int32) (M : Gm) : Option (Int32 × Gm) := (isO M x0 12).bind fun _ => X12_trip_F x0 x1 x2 M
theorem X12_trip_F_ok {w : Gw} {d : Nat} {x0 : Nat} {x1 : Int32} {x2 : Int32} {M : Gm} {out : Int32 × Gm} (h : X12_trip_F x0 x1 x2 M = some out) : Wp w mdX12_trip (d + 2) 0 [some (.inr x0), some (.inl x1), some (.inl x2)] [] M (.inl (some (.inl out.1))) out.2 := by
  unfold X12_trip_F at h
  refine wp_aload_n dX12_trip_0 rfl ?_
  refine wp_iconst (v := 0) dX12_trip_1 (by decide) ?_
  obtain ⟨M1, e2, h⟩ := bnd h
  refine wp_putI (c := 12) (k := 4) dX12_trip_2 e2 (by decide) (by decide) rfl fl_RX12_131 (Or.inl rfl) ?_
  refine wp_aload_n dX12_trip_5 rfl ?_
  refine wp_iload_n dX12_trip_6 rfl ?_
  obtain ⟨q3, e4, h⟩ := bnd h
  refine wp_callV (As := [.inl x1]) dX12_trip_7 (sh_X12_isTrip_ok (d := d) e4) okX12_isTrip nnX12_isTrip vvX12_isTrip ml_RX12_388 rfl (Nat.le_of_ble_eq_true rfl) ?_
  refine wp_if_ne (tgt := 19) dX12_trip_10 (by decide) (fun hc_ => ?_) (fun hc_ => ?_)
  · replace h := ite_f hc_ h
    refine wp_iload_n dX12_trip_19 rfl ?_
    by_cases cz0 : x2 = 0
    · replace h := ite_t cz0 h
      refine wp_tableIn (tgt := 68) dX12_trip_20 0 (by rw [cz0]; decide) (by decide) rfl (by decide) ?_
      refine wp_aload_n dX12_trip_68 rfl ?_
      refine wp_iload_n dX12_trip_69 rfl ?_
      obtain ⟨q5, e6, h⟩ := bnd h
      refine wp_callV (As := [.inl x1]) dX12_trip_70 (sh_X12_zoneOf_ok (d := d + 1) e6) okX12_zoneOf nnX12_zoneOf vvX12_zoneOf ml_RX12_287 rfl (Nat.le_of_ble_eq_true rfl) ?_
      cases h
      exact wp_iret dX12_trip_73 rfl
    replace h := ite_f cz0 h
    by_cases cz1 : x2 = 1
    · replace h := ite_t cz1 h
      refine wp_tableIn (tgt := 74) dX12_trip_20 1 (by rw [cz1]; decide) (by decide) rfl (by decide) ?_
      refine wp_aload_n dX12_trip_74 rfl ?_
      obtain ⟨v7, e8, h⟩ := bnd h
      refine wp_getR (c := 12) (k := 6) dX12_trip_75 e8 (by decide) (by decide) rfl fl_RX12_62 ?_
      refine wp_bipush (v := 25) dX12_trip_78 (by decide) ?_
      refine wp_iload_n dX12_trip_80 rfl ?_
      refine wp_iadd dX12_trip_81 ?_
      obtain ⟨v9, e10, h⟩ := bnd h
      refine wp_iaload dX12_trip_82 e10 ?_
      cases h
      exact wp_iret dX12_trip_83 rfl
    replace h := ite_f cz1 h
    by_cases cz2 : x2 = 2
    · replace h := ite_t cz2 h
      refine wp_tableIn (tgt := 84) dX12_trip_20 2 (by rw [cz2]; decide) (by decide) rfl (by decide) ?_
      refine wp_aload_n dX12_trip_84 rfl ?_
      obtain ⟨v11, e12, h⟩ := bnd h
      refine wp_getR (c := 12) (k := 6) dX12_trip_85 e12 (by decide) (by decide) rfl fl_RX12_62 ?_
      refine wp_bipush (v := 35) dX12_trip_88 (by decide) ?_
      refine wp_iload_n dX12_trip_90 rfl ?_
      refine wp_iadd dX12_trip_91 ?_
      obtain ⟨v13, e14, h⟩ := bnd h
      refine wp_iaload dX12_trip_92 e14 ?_
      cases h
      exact wp_iret dX12_trip_93 rfl
    replace h := ite_f cz2 h
    by_cases cz3 : x2 = 3
    · replace h := ite_t cz3 h
      refine wp_tableIn (tgt := 94) dX12_trip_20 3 (by rw [cz3]; decide) (by decide) rfl (by decide) ?_
      refine wp_aload_n dX12_trip_94 rfl ?_
      obtain ⟨v15, e16, h⟩ := bnd h
      refine wp_getR (c := 12) (k := 6) dX12_trip_95 e16 (by decide) (by decide) rfl fl_RX12_62 ?_
      refine wp_bipush (v := 45) dX12_trip_98 (by decide) ?_
      refine wp_iload_n dX12_trip_100 rfl ?_
      refine wp_iadd dX12_trip_101 ?_
      obtain ⟨v17, e18, h⟩ := bnd h
      refine wp_iaload dX12_trip_102 e18 ?_
      cases h
      exact wp_iret dX12_trip_103 rfl
    replace h := ite_f cz3 h
    by_cases cz4 : x2 = 4
    · replace h := ite_t cz4 h
      refine wp_tableIn (tgt := 104) dX12_trip_20 4 (by rw [cz4]; decide) (by decide) rfl (by decide) ?_
      refine wp_aload_n dX12_trip_104 rfl ?_
      obtain ⟨v19, e20, h⟩ := bnd h
      refine wp_getR (c := 12) (k := 5) dX12_trip_105 e20 (by decide) (by decide) rfl fl_RX12_58 ?_
      refine wp_bipush (v := 50) dX12_trip_108 (by decide) ?_
      refine wp_iload_n dX12_trip_110 rfl ?_
      refine wp_iadd dX12_trip_111 ?_
      obtain ⟨v21, e22, h⟩ := bnd h
      refine wp_iaload dX12_trip_112 e22 ?_
      cases h
      exact wp_iret dX12_trip_113 rfl
    replace h := ite_f cz4 h
    by_cases cz5 : x2 = 5
    · replace h := ite_t cz5 h
      refine wp_tableIn (tgt := 114) dX12_trip_20 5 (by rw [cz5]; decide) (by decide) rfl (by decide) ?_
      refine wp_aload_n dX12_trip_114 rfl ?_
      obtain ⟨v23, e24, h⟩ := bnd h
      refine wp_getR (c := 12) (k := 5) dX12_trip_115 e24 (by decide) (by decide) rfl fl_RX12_58 ?_
      refine wp_bipush (v := 60) dX12_trip_118 (by decide) ?_
      refine wp_iload_n dX12_trip_120 rfl ?_
      refine wp_iadd dX12_trip_121 ?_
      obtain ⟨v25, e26, h⟩ := bnd h
      refine wp_iaload dX12_trip_122 e26 ?_
      cases h
      exact wp_iret dX12_trip_123 rfl
    replace h := ite_f cz5 h
    by_cases cz6 : x2 = 6
    · replace h := ite_t cz6 h
      refine wp_tableIn (tgt := 124) dX12_trip_20 6 (by rw [cz6]; decide) (by decide) rfl (by decide) ?_
      refine wp_aload_n dX12_trip_124 rfl ?_
      refine wp_iload_n dX12_trip_125 rfl ?_
      obtain ⟨q27, e28, h⟩ := bnd h
      refine wp_callV (As := [.inl x1]) dX12_trip_126 (sh_X12_askedOf_ok (d := d) e28) okX12_askedOf nnX12_askedOf vvX12_askedOf ml_RX12_306 rfl (Nat.le_of_ble_eq_true rfl) ?_
      cases h
      exact wp_iret dX12_trip_129 rfl
    replace h := ite_f cz6 h
    by_cases cz7 : x2 = 7
    · replace h := ite_t cz7 h
      refine wp_tableIn (tgt := 130) dX12_trip_20 7 (by rw [cz7]; decide) (by decide) rfl (by decide) ?_
      refine wp_aload_n dX12_trip_130 rfl ?_
      refine wp_iload_n dX12_trip_131 rfl ?_
      obtain ⟨q29, e30, h⟩ := bnd h
      refine wp_callV (As := [.inl x1]) dX12_trip_132 (sh_X12_bound_ok (d := d) e30) okX12_bound nnX12_bound vvX12_bound ml_RX12_391 rfl (Nat.le_of_ble_eq_true rfl) ?_
      cases h
      exact wp_iret dX12_trip_135 rfl
    replace h := ite_f cz7 h
    refine wp_tableOut (tgt := 136) dX12_trip_20 (by have g0 := lv_neT cz0 (show (0 : Int32).toInt = 0 by decide); have g1 := lv_neT cz1 (show (1 : Int32).toInt = 1 by decide); have g2 := lv_neT cz2 (show (2 : Int32).toInt = 2 by decide); have g3 := lv_neT cz3 (show (3 : Int32).toInt = 3 by decide); have g4 := lv_neT cz4 (show (4 : Int32).toInt = 4 by decide); have g5 := lv_neT cz5 (show (5 : Int32).toInt = 5 by decide); have g6 := lv_neT cz6 (show (6 : Int32).toInt = 6 by decide); have g7 := lv_neT cz7 (show (7 : Int32).toInt = 7 by decide); omega) (by decide) ?_
    refine wp_aload_n dX12_trip_136 rfl ?_
    refine wp_iconst (v := 1) dX12_trip_137 (by decide) ?_
    obtain ⟨q31, e32, h⟩ := bnd h
    refine wp_callV (As := [.inl 1]) dX12_trip_138 (sh_X12_fail_ok (d := d + 1) e32) okX12_fail nnX12_fail vvX12_fail ml_RX12_245 rfl (Nat.le_of_ble_eq_true rfl) ?_
    cases h
    exact wp_iret dX12_trip_141 rfl
  · replace h := ite_t hc_ h
    refine wp_aload_n dX12_trip_13 rfl ?_
    refine wp_iconst (v := 1) dX12_trip_14 (by decide) ?_
    obtain ⟨q33, e34, h⟩ := bnd h
    refine wp_callV (As := [.inl 1]) dX12_trip_15 (sh_X12_fail_ok (d := d + 1) e34) okX12_fail nnX12_fail vvX12_fail ml_RX12_245 rfl (Nat.le_of_ble_eq_true rfl) ?_
    cases h
    exact wp_iret dX12_trip_18 rfl

theorem sh_X12_trip_ok {w : Gw} {d : Nat} {x0 : Nat} {x1 : Int32} {x2 : Int32} {M : Gm} {out : Int32 × Gm} (h : sh_X12_trip x0 x1 x2 M = some out) : Ev w mdX12_trip (d + 2) [.inr x0, .inl x1, .inl x2] M (.inl (some (.inl out.1))) out.2 := by
  obtain ⟨u, e0, h⟩ := bnd h
  exact ev_of okX12_trip ⟨_, _, rfl, isO_of e0 (by decide), by decide⟩ (Nat.le_of_ble_eq_true rfl) (X12_trip_F_ok h)

/-! HeatGovernorModel.isDevice(I)Z -/
def X12_isDevice_F (x0 : Nat) (x1 : Int32) (M : Gm) : Option (Int32) :=
  (sh_X12_devices x0 M).bind fun q1 =>
  (sh_X12_isIn x1 0 (q1 - 1) M).bind fun q3 =>
  (zck q3).bind fun z5 =>
  some z5
def sh_X12_isDevice (x0 : Nat) (x1 : Int32) (M : Gm) : Option (Int32) := (isO M x0 12).bind fun _ => X12_isDevice_F x0 x1 M
theorem X12_isDevice_F_ok {w : Gw} {d : Nat} {x0 : Nat} {x1 : Int32} {M : Gm} {out : Int32} (h : X12_isDevice_F x0 x1 M = some out) : Wp w mdX12_isDevice (d + 1) 0 [some (.inr x0), some (.inl x1)] [] M (.inl (some (.inl out))) M := by
  unfold X12_isDevice_F at h
  refine wp_iload_n dX12_isDevice_0 rfl ?_
  refine wp_iconst (v := 0) dX12_isDevice_1 (by decide) ?_
  refine wp_aload_n dX12_isDevice_2 rfl ?_
  obtain ⟨q1, e2, h⟩ := bnd h
  refine wp_callV (As := []) dX12_isDevice_3 (sh_X12_devices_ok (d := d) e2) okX12_devices nnX12_devices vvX12_devices ml_RX12_263 rfl (Nat.le_of_ble_eq_true rfl) ?_
  refine wp_iconst (v := 1) dX12_isDevice_6 (by decide) ?_
  refine wp_isub dX12_isDevice_7 ?_
  obtain ⟨q3, e4, h⟩ := bnd h
  refine wp_callS (As := [.inl x1, .inl 0, .inl (q1 - 1)]) dX12_isDevice_8 (sh_X12_isIn_ok (d := d) e4) okX12_isIn nnX12_isIn ssX12_isIn ml_RX12_378 rfl (Nat.le_of_ble_eq_true rfl) ?_
  obtain ⟨z5, e6, h⟩ := bnd h
  obtain ⟨hz_, rfl⟩ := zck_of e6
  cases h
  exact wp_zret dX12_isDevice_11 rfl hz_

theorem sh_X12_isDevice_ok {w : Gw} {d : Nat} {x0 : Nat} {x1 : Int32} {M : Gm} {out : Int32} (h : sh_X12_isDevice x0 x1 M = some out) : Ev w mdX12_isDevice (d + 1) [.inr x0, .inl x1] M (.inl (some (.inl out))) M := by
  obtain ⟨u, e0, h⟩ := bnd h
  exact ev_of okX12_isDevice ⟨_, _, rfl, isO_of e0 (by decide), by decide⟩ (Nat.le_of_ble_eq_true rfl) (X12_isDevice_F_ok h)

/-! HeatGovernorModel.device(II)I -/
def X12_device_F (x0 : Nat) (x1 : Int32) (x2 : Int32) (M : Gm) : Option (Int32 × Gm) :=
  (pfI M x0 12 4 0).bind fun M1 =>
  (sh_X12_isDevice x0 x1 M1).bind fun q3 =>
  if q3 = 0 then
    (sh_X12_fail x0 1 M1).bind fun q33 =>
    some (q33.1, q33.2)
  else
    if x2 = 0 then
      (gfR M1 x0 12 6).bind fun v5 =>
      (ldA M1 0 v5 (55 + x1)).bind fun v7 =>
      some (v7, M1)
    else if x2 = 1 then
      (gfR M1 x0 12 6).bind fun v9 =>
      (ldA M1 0 v9 (61 + x1)).bind fun v11 =>
      some (v11, M1)
    else if x2 = 2 then
      (gfR M1 x0 12 6).bind fun v13 =>
      (ldA M1 0 v13 (67 + x1)).bind fun v15 =>
      some (v15, M1)
    else if x2 = 3 then
      (gfR M1 x0 12 6).bind fun v17 =>
      (ldA M1 0 v17 (73 + x1)).bind fun v19 =>
      some (v19, M1)
    else if x2 = 4 then
      (gfR M1 x0 12 5).bind fun v21 =>
      (ldA M1 0 v21 (70 + x1)).bind fun v23 =>
      some (v23, M1)
    else if x2 = 5 then
      (gfR M1 x0 12 5).bind fun v25 =>
      (ldA M1 0 v25 (76 + x1)).bind fun v27 =>
      some (v27, M1)
    else if x2 = 6 then
      (sh_X12_mostWanted x0 x1 M1).bind fun q29 =>
      some (q29, M1)
    else
      (sh_X12_fail x0 1 M1).bind fun q31 =>
      some (q31.1, q31.2)
def sh_X12_device (x0 : Nat) (x1 : Int32) (x2 : Int32) (M : Gm) : Option (Int32 × Gm) := (isO M x0 12).bind fun _ => X12_device_F x0 x1 x2 M
theorem X12_device_F_ok {w : Gw} {d : Nat} {x0 : Nat} {x1 : Int32} {x2 : Int32} {M : Gm} {out : Int32 × Gm} (h : X12_device_F x0 x1 x2 M = some out) : Wp w mdX12_device (d + 2) 0 [some (.inr x0), some (.inl x1), some (.inl x2)] [] M (.inl (some (.inl out.1))) out.2 := by
  unfold X12_device_F at h
  refine wp_aload_n dX12_device_0 rfl ?_
  refine wp_iconst (v := 0) dX12_device_1 (by decide) ?_
  obtain ⟨M1, e2, h⟩ := bnd h
  refine wp_putI (c := 12) (k := 4) dX12_device_2 e2 (by decide) (by decide) rfl fl_RX12_131 (Or.inl rfl) ?_
  refine wp_aload_n dX12_device_5 rfl ?_
  refine wp_iload_n dX12_device_6 rfl ?_
  obtain ⟨q3, e4, h⟩ := bnd h
  refine wp_callV (As := [.inl x1]) dX12_device_7 (sh_X12_isDevice_ok (d := d) e4) okX12_isDevice nnX12_isDevice vvX12_isDevice ml_RX12_394 rfl (Nat.le_of_ble_eq_true rfl) ?_
  refine wp_if_ne (tgt := 19) dX12_device_10 (by decide) (fun hc_ => ?_) (fun hc_ => ?_)
  · replace h := ite_f hc_ h
    refine wp_iload_n dX12_device_19 rfl ?_
    by_cases cz0 : x2 = 0
    · replace h := ite_t cz0 h
      refine wp_tableIn (tgt := 64) dX12_device_20 0 (by rw [cz0]; decide) (by decide) rfl (by decide) ?_
      refine wp_aload_n dX12_device_64 rfl ?_
      obtain ⟨v5, e6, h⟩ := bnd h
      refine wp_getR (c := 12) (k := 6) dX12_device_65 e6 (by decide) (by decide) rfl fl_RX12_62 ?_
      refine wp_bipush (v := 55) dX12_device_68 (by decide) ?_
      refine wp_iload_n dX12_device_70 rfl ?_
      refine wp_iadd dX12_device_71 ?_
      obtain ⟨v7, e8, h⟩ := bnd h
      refine wp_iaload dX12_device_72 e8 ?_
      cases h
      exact wp_iret dX12_device_73 rfl
    replace h := ite_f cz0 h
    by_cases cz1 : x2 = 1
    · replace h := ite_t cz1 h
      refine wp_tableIn (tgt := 74) dX12_device_20 1 (by rw [cz1]; decide) (by decide) rfl (by decide) ?_
      refine wp_aload_n dX12_device_74 rfl ?_
      obtain ⟨v9, e10, h⟩ := bnd h
      refine wp_getR (c := 12) (k := 6) dX12_device_75 e10 (by decide) (by decide) rfl fl_RX12_62 ?_
      refine wp_bipush (v := 61) dX12_device_78 (by decide) ?_
      refine wp_iload_n dX12_device_80 rfl ?_
      refine wp_iadd dX12_device_81 ?_
      obtain ⟨v11, e12, h⟩ := bnd h
      refine wp_iaload dX12_device_82 e12 ?_
      cases h
      exact wp_iret dX12_device_83 rfl
    replace h := ite_f cz1 h
    by_cases cz2 : x2 = 2
    · replace h := ite_t cz2 h
      refine wp_tableIn (tgt := 84) dX12_device_20 2 (by rw [cz2]; decide) (by decide) rfl (by decide) ?_
      refine wp_aload_n dX12_device_84 rfl ?_
      obtain ⟨v13, e14, h⟩ := bnd h
      refine wp_getR (c := 12) (k := 6) dX12_device_85 e14 (by decide) (by decide) rfl fl_RX12_62 ?_
      refine wp_bipush (v := 67) dX12_device_88 (by decide) ?_
      refine wp_iload_n dX12_device_90 rfl ?_
      refine wp_iadd dX12_device_91 ?_
      obtain ⟨v15, e16, h⟩ := bnd h
      refine wp_iaload dX12_device_92 e16 ?_
      cases h
      exact wp_iret dX12_device_93 rfl
    replace h := ite_f cz2 h
    by_cases cz3 : x2 = 3
    · replace h := ite_t cz3 h
      refine wp_tableIn (tgt := 94) dX12_device_20 3 (by rw [cz3]; decide) (by decide) rfl (by decide) ?_
      refine wp_aload_n dX12_device_94 rfl ?_
      obtain ⟨v17, e18, h⟩ := bnd h
      refine wp_getR (c := 12) (k := 6) dX12_device_95 e18 (by decide) (by decide) rfl fl_RX12_62 ?_
      refine wp_bipush (v := 73) dX12_device_98 (by decide) ?_
      refine wp_iload_n dX12_device_100 rfl ?_
      refine wp_iadd dX12_device_101 ?_
      obtain ⟨v19, e20, h⟩ := bnd h
      refine wp_iaload dX12_device_102 e20 ?_
      cases h
      exact wp_iret dX12_device_103 rfl
    replace h := ite_f cz3 h
    by_cases cz4 : x2 = 4
    · replace h := ite_t cz4 h
      refine wp_tableIn (tgt := 104) dX12_device_20 4 (by rw [cz4]; decide) (by decide) rfl (by decide) ?_
      refine wp_aload_n dX12_device_104 rfl ?_
      obtain ⟨v21, e22, h⟩ := bnd h
      refine wp_getR (c := 12) (k := 5) dX12_device_105 e22 (by decide) (by decide) rfl fl_RX12_58 ?_
      refine wp_bipush (v := 70) dX12_device_108 (by decide) ?_
      refine wp_iload_n dX12_device_110 rfl ?_
      refine wp_iadd dX12_device_111 ?_
      obtain ⟨v23, e24, h⟩ := bnd h
      refine wp_iaload dX12_device_112 e24 ?_
      cases h
      exact wp_iret dX12_device_113 rfl
    replace h := ite_f cz4 h
    by_cases cz5 : x2 = 5
    · replace h := ite_t cz5 h
      refine wp_tableIn (tgt := 114) dX12_device_20 5 (by rw [cz5]; decide) (by decide) rfl (by decide) ?_
      refine wp_aload_n dX12_device_114 rfl ?_
      obtain ⟨v25, e26, h⟩ := bnd h
      refine wp_getR (c := 12) (k := 5) dX12_device_115 e26 (by decide) (by decide) rfl fl_RX12_58 ?_
      refine wp_bipush (v := 76) dX12_device_118 (by decide) ?_
      refine wp_iload_n dX12_device_120 rfl ?_
      refine wp_iadd dX12_device_121 ?_
      obtain ⟨v27, e28, h⟩ := bnd h
      refine wp_iaload dX12_device_122 e28 ?_
      cases h
      exact wp_iret dX12_device_123 rfl
    replace h := ite_f cz5 h
    by_cases cz6 : x2 = 6
    · replace h := ite_t cz6 h
      refine wp_tableIn (tgt := 124) dX12_device_20 6 (by rw [cz6]; decide) (by decide) rfl (by decide) ?_
      refine wp_aload_n dX12_device_124 rfl ?_
      refine wp_iload_n dX12_device_125 rfl ?_
      obtain ⟨q29, e30, h⟩ := bnd h
      refine wp_callV (As := [.inl x1]) dX12_device_126 (sh_X12_mostWanted_ok (d := d) e30) okX12_mostWanted nnX12_mostWanted vvX12_mostWanted ml_RX12_315 rfl (Nat.le_of_ble_eq_true rfl) ?_
      cases h
      exact wp_iret dX12_device_129 rfl
    replace h := ite_f cz6 h
    refine wp_tableOut (tgt := 130) dX12_device_20 (by have g0 := lv_neT cz0 (show (0 : Int32).toInt = 0 by decide); have g1 := lv_neT cz1 (show (1 : Int32).toInt = 1 by decide); have g2 := lv_neT cz2 (show (2 : Int32).toInt = 2 by decide); have g3 := lv_neT cz3 (show (3 : Int32).toInt = 3 by decide); have g4 := lv_neT cz4 (show (4 : Int32).toInt = 4 by decide); have g5 := lv_neT cz5 (show (5 : Int32).toInt = 5 by decide); have g6 := lv_neT cz6 (show (6 : Int32).toInt = 6 by decide); omega) (by decide) ?_
    refine wp_aload_n dX12_device_130 rfl ?_
    refine wp_iconst (v := 1) dX12_device_131 (by decide) ?_
    obtain ⟨q31, e32, h⟩ := bnd h
    refine wp_callV (As := [.inl 1]) dX12_device_132 (sh_X12_fail_ok (d := d + 1) e32) okX12_fail nnX12_fail vvX12_fail ml_RX12_245 rfl (Nat.le_of_ble_eq_true rfl) ?_
    cases h
    exact wp_iret dX12_device_135 rfl
  · replace h := ite_t hc_ h
    refine wp_aload_n dX12_device_13 rfl ?_
    refine wp_iconst (v := 1) dX12_device_14 (by decide) ?_
    obtain ⟨q33, e34, h⟩ := bnd h
    refine wp_callV (As := [.inl 1]) dX12_device_15 (sh_X12_fail_ok (d := d + 1) e34) okX12_fail nnX12_fail vvX12_fail ml_RX12_245 rfl (Nat.le_of_ble_eq_true rfl) ?_
    cases h
    exact wp_iret dX12_device_18 rfl

theorem sh_X12_device_ok {w : Gw} {d : Nat} {x0 : Nat} {x1 : Int32} {x2 : Int32} {M : Gm} {out : Int32 × Gm} (h : sh_X12_device x0 x1 x2 M = some out) : Ev w mdX12_device (d + 2) [.inr x0, .inl x1, .inl x2] M (.inl (some (.inl out.1))) out.2 := by
  obtain ⟨u, e0, h⟩ := bnd h
  exact ev_of okX12_device ⟨_, _, rfl, isO_of e0 (by decide), by decide⟩ (Nat.le_of_ble_eq_true rfl) (X12_device_F_ok h)

/-! HeatGovernorModel.bind(III)I -/
def X12_bind_J30 (x0 : Nat) (M : Gm) : Option (Int32 × Gm) :=
  (sh_X12_fail x0 1 M).bind fun q1 =>
  some (q1.1, q1.2)
def X12_bind_J55 (s0 : Int32) (M : Gm) : Option (Int32 × Gm) :=
  some (s0, M)
def X12_bind_F (x0 : Nat) (x1 : Int32) (x2 : Int32) (x3 : Int32) (M : Gm) : Option (Int32 × Gm) :=
  (pfI M x0 12 4 0).bind fun M1 =>
  (sh_X12_isTrip x0 x1 M1).bind fun q3 =>
  if q3 = 0 then
    X12_bind_J30 x0 M1
  else
    (sh_X12_isDevice x0 x2 M1).bind fun q5 =>
    if q5 = 0 then
      X12_bind_J30 x0 M1
    else
      (sh_X12_isIn x3 0 1 M1).bind fun q7 =>
      if q7 = 0 then
        X12_bind_J30 x0 M1
      else
        if x3 = 0 then
          (sh_X12_weight x0 x1 x2 M1).bind fun q11 =>
          X12_bind_J55 q11 M1
        else
          (sh_X12_wanted x0 x1 x2 M1).bind fun q9 =>
          X12_bind_J55 q9 M1
def sh_X12_bind (x0 : Nat) (x1 : Int32) (x2 : Int32) (x3 : Int32) (M : Gm) : Option (Int32 × Gm) := (isO M x0 12).bind fun _ => X12_bind_F x0 x1 x2 x3 M
theorem X12_bind_J30_ok {w : Gw} {d : Nat} {x0 : Nat} {M : Gm} {out : Int32 × Gm} (h : X12_bind_J30 x0 M = some out) : Wp w mdX12_bind (d + 2) 30 [some (.inr x0), none, none, none] [] M (.inl (some (.inl out.1))) out.2 := by
  unfold X12_bind_J30 at h
  refine wp_aload_n dX12_bind_30 rfl ?_
  refine wp_iconst (v := 1) dX12_bind_31 (by decide) ?_
  obtain ⟨q1, e2, h⟩ := bnd h
  refine wp_callV (As := [.inl 1]) dX12_bind_32 (sh_X12_fail_ok (d := d + 1) e2) okX12_fail nnX12_fail vvX12_fail ml_RX12_245 rfl (Nat.le_of_ble_eq_true rfl) ?_
  cases h
  exact wp_iret dX12_bind_35 rfl

theorem X12_bind_J55_ok {w : Gw} {d : Nat} {s0 : Int32} {M : Gm} {out : Int32 × Gm} (h : X12_bind_J55 s0 M = some out) : Wp w mdX12_bind (d + 2) 55 [none, none, none, none] [.inl s0] M (.inl (some (.inl out.1))) out.2 := by
  unfold X12_bind_J55 at h
  cases h
  exact wp_iret dX12_bind_55 rfl

theorem X12_bind_F_ok {w : Gw} {d : Nat} {x0 : Nat} {x1 : Int32} {x2 : Int32} {x3 : Int32} {M : Gm} {out : Int32 × Gm} (h : X12_bind_F x0 x1 x2 x3 M = some out) : Wp w mdX12_bind (d + 2) 0 [some (.inr x0), some (.inl x1), some (.inl x2), some (.inl x3)] [] M (.inl (some (.inl out.1))) out.2 := by
  unfold X12_bind_F at h
  refine wp_aload_n dX12_bind_0 rfl ?_
  refine wp_iconst (v := 0) dX12_bind_1 (by decide) ?_
  obtain ⟨M1, e2, h⟩ := bnd h
  refine wp_putI (c := 12) (k := 4) dX12_bind_2 e2 (by decide) (by decide) rfl fl_RX12_131 (Or.inl rfl) ?_
  refine wp_aload_n dX12_bind_5 rfl ?_
  refine wp_iload_n dX12_bind_6 rfl ?_
  obtain ⟨q3, e4, h⟩ := bnd h
  refine wp_callV (As := [.inl x1]) dX12_bind_7 (sh_X12_isTrip_ok (d := d) e4) okX12_isTrip nnX12_isTrip vvX12_isTrip ml_RX12_388 rfl (Nat.le_of_ble_eq_true rfl) ?_
  refine wp_if_eq (tgt := 30) dX12_bind_10 (by decide) (fun hc_ => ?_) (fun hc_ => ?_)
  · replace h := ite_t hc_ h
    exact wp_ls (lsS (lsN (lsN (lsN lsZ)))) (X12_bind_J30_ok h)
  · replace h := ite_f hc_ h
    refine wp_aload_n dX12_bind_13 rfl ?_
    refine wp_iload_n dX12_bind_14 rfl ?_
    obtain ⟨q5, e6, h⟩ := bnd h
    refine wp_callV (As := [.inl x2]) dX12_bind_15 (sh_X12_isDevice_ok (d := d) e6) okX12_isDevice nnX12_isDevice vvX12_isDevice ml_RX12_394 rfl (Nat.le_of_ble_eq_true rfl) ?_
    refine wp_if_eq (tgt := 30) dX12_bind_18 (by decide) (fun hc_ => ?_) (fun hc_ => ?_)
    · replace h := ite_t hc_ h
      exact wp_ls (lsS (lsN (lsN (lsN lsZ)))) (X12_bind_J30_ok h)
    · replace h := ite_f hc_ h
      refine wp_iload_n dX12_bind_21 rfl ?_
      refine wp_iconst (v := 0) dX12_bind_22 (by decide) ?_
      refine wp_iconst (v := 1) dX12_bind_23 (by decide) ?_
      obtain ⟨q7, e8, h⟩ := bnd h
      refine wp_callS (As := [.inl x3, .inl 0, .inl 1]) dX12_bind_24 (sh_X12_isIn_ok (d := d + 1) e8) okX12_isIn nnX12_isIn ssX12_isIn ml_RX12_378 rfl (Nat.le_of_ble_eq_true rfl) ?_
      refine wp_if_ne (tgt := 36) dX12_bind_27 (by decide) (fun hc_ => ?_) (fun hc_ => ?_)
      · replace h := ite_f hc_ h
        refine wp_iload_n dX12_bind_36 rfl ?_
        refine wp_if_ne (tgt := 49) dX12_bind_37 (by decide) (fun hc_ => ?_) (fun hc_ => ?_)
        · replace h := ite_f hc_ h
          refine wp_aload_n dX12_bind_49 rfl ?_
          refine wp_iload_n dX12_bind_50 rfl ?_
          refine wp_iload_n dX12_bind_51 rfl ?_
          obtain ⟨q9, e10, h⟩ := bnd h
          refine wp_callV (As := [.inl x1, .inl x2]) dX12_bind_52 (sh_X12_wanted_ok (d := d + 1) e10) okX12_wanted nnX12_wanted vvX12_wanted ml_RX12_300 rfl (Nat.le_of_ble_eq_true rfl) ?_
          exact wp_ls (lsN (lsN (lsN (lsN lsZ)))) (X12_bind_J55_ok h)
        · replace h := ite_t hc_ h
          refine wp_aload_n dX12_bind_40 rfl ?_
          refine wp_iload_n dX12_bind_41 rfl ?_
          refine wp_iload_n dX12_bind_42 rfl ?_
          obtain ⟨q11, e12, h⟩ := bnd h
          refine wp_callV (As := [.inl x1, .inl x2]) dX12_bind_43 (sh_X12_weight_ok (d := d + 1) e12) okX12_weight nnX12_weight vvX12_weight ml_RX12_294 rfl (Nat.le_of_ble_eq_true rfl) ?_
          refine wp_goto (tgt := 55) dX12_bind_46 (by decide) ?_
          exact wp_ls (lsN (lsN (lsN (lsN lsZ)))) (X12_bind_J55_ok h)
      · replace h := ite_t hc_ h
        exact wp_ls (lsS (lsN (lsN (lsN lsZ)))) (X12_bind_J30_ok h)

theorem sh_X12_bind_ok {w : Gw} {d : Nat} {x0 : Nat} {x1 : Int32} {x2 : Int32} {x3 : Int32} {M : Gm} {out : Int32 × Gm} (h : sh_X12_bind x0 x1 x2 x3 M = some out) : Ev w mdX12_bind (d + 2) [.inr x0, .inl x1, .inl x2, .inl x3] M (.inl (some (.inl out.1))) out.2 := by
  obtain ⟨u, e0, h⟩ := bnd h
  exact ev_of okX12_bind ⟨_, _, rfl, isO_of e0 (by decide), by decide⟩ (Nat.le_of_ble_eq_true rfl) (X12_bind_F_ok h)

/-! HeatGovernorModel.log(II)I -/
def X12_log_J83 (s0 : Int32) (M : Gm) : Option (Int32 × Gm) :=
  some (s0, M)
def X12_log_J42 (x0 : Nat) (x1 : Int32) (x2 : Int32) (s0 : Int32) (M : Gm) : Option (Int32 × Gm) :=
  if s0 = 0 then
    (sh_X12_fail x0 1 M).bind fun q1 =>
    X12_log_J83 q1.1 q1.2
  else
    (gfR M x0 12 5).bind fun v3 =>
    (gfR M x0 12 5).bind fun v5 =>
    (ldA M 0 v5 144).bind fun v7 =>
    (rmI ((v7 - 1) - x1) 40).bind fun v9 =>
    (ldA M 0 v3 ((145 + (4 * v9)) + x2)).bind fun v11 =>
    X12_log_J83 v11 M
def X12_log_J41 (x0 : Nat) (x1 : Int32) (x2 : Int32) (M : Gm) : Option (Int32 × Gm) :=
  X12_log_J42 x0 x1 x2 0 M
def X12_log_F (x0 : Nat) (x1 : Int32) (x2 : Int32) (M : Gm) : Option (Int32 × Gm) :=
  (pfI M x0 12 4 0).bind fun M1 =>
  (gfR M1 x0 12 5).bind fun v3 =>
  (ldA M1 0 v3 144).bind fun v5 =>
  (sh_J9_min_7cf53 40 v5 M1).bind fun q7 =>
  (sh_X12_isIn x1 0 (q7 - 1) M1).bind fun q9 =>
  if q9 = 0 then
    X12_log_J41 x0 x1 x2 M1
  else
    (sh_X12_isIn x2 0 3 M1).bind fun q11 =>
    if q11 = 0 then
      X12_log_J41 x0 x1 x2 M1
    else
      X12_log_J42 x0 x1 x2 1 M1
def sh_X12_log (x0 : Nat) (x1 : Int32) (x2 : Int32) (M : Gm) : Option (Int32 × Gm) := (isO M x0 12).bind fun _ => X12_log_F x0 x1 x2 M
theorem X12_log_J83_ok {w : Gw} {d : Nat} {s0 : Int32} {M : Gm} {out : Int32 × Gm} (h : X12_log_J83 s0 M = some out) : Wp w mdX12_log (d + 1) 83 [none, none, none, none] [.inl s0] M (.inl (some (.inl out.1))) out.2 := by
  unfold X12_log_J83 at h
  cases h
  exact wp_iret dX12_log_83 rfl

theorem X12_log_J42_ok {w : Gw} {d : Nat} {x0 : Nat} {x1 : Int32} {x2 : Int32} {s0 : Int32} {M : Gm} {out : Int32 × Gm} (h : X12_log_J42 x0 x1 x2 s0 M = some out) : Wp w mdX12_log (d + 1) 42 [some (.inr x0), some (.inl x1), some (.inl x2), none] [.inl s0] M (.inl (some (.inl out.1))) out.2 := by
  unfold X12_log_J42 at h
  refine wp_istore_n dX12_log_42 (Nat.le_of_ble_eq_true rfl) ?_
  refine wp_iload_n dX12_log_43 rfl ?_
  refine wp_if_eq (tgt := 78) dX12_log_44 (by decide) (fun hc_ => ?_) (fun hc_ => ?_)
  · replace h := ite_t hc_ h
    refine wp_aload_n dX12_log_78 rfl ?_
    refine wp_iconst (v := 1) dX12_log_79 (by decide) ?_
    obtain ⟨q1, e2, h⟩ := bnd h
    refine wp_callV (As := [.inl 1]) dX12_log_80 (sh_X12_fail_ok (d := d) e2) okX12_fail nnX12_fail vvX12_fail ml_RX12_245 rfl (Nat.le_of_ble_eq_true rfl) ?_
    exact wp_ls (lsN (lsN (lsN (lsN lsZ)))) (X12_log_J83_ok h)
  · replace h := ite_f hc_ h
    refine wp_aload_n dX12_log_47 rfl ?_
    obtain ⟨v3, e4, h⟩ := bnd h
    refine wp_getR (c := 12) (k := 5) dX12_log_48 e4 (by decide) (by decide) rfl fl_RX12_58 ?_
    refine wp_sipush (v := 145) dX12_log_51 (by decide) ?_
    refine wp_iconst (v := 4) dX12_log_54 (by decide) ?_
    refine wp_aload_n dX12_log_55 rfl ?_
    obtain ⟨v5, e6, h⟩ := bnd h
    refine wp_getR (c := 12) (k := 5) dX12_log_56 e6 (by decide) (by decide) rfl fl_RX12_58 ?_
    refine wp_sipush (v := 144) dX12_log_59 (by decide) ?_
    obtain ⟨v7, e8, h⟩ := bnd h
    refine wp_iaload dX12_log_62 e8 ?_
    refine wp_iconst (v := 1) dX12_log_63 (by decide) ?_
    refine wp_isub dX12_log_64 ?_
    refine wp_iload_n dX12_log_65 rfl ?_
    refine wp_isub dX12_log_66 ?_
    refine wp_bipush (v := 40) dX12_log_67 (by decide) ?_
    obtain ⟨v9, e10, h⟩ := bnd h
    refine wp_irem dX12_log_69 e10 ?_
    refine wp_imul dX12_log_70 ?_
    refine wp_iadd dX12_log_71 ?_
    refine wp_iload_n dX12_log_72 rfl ?_
    refine wp_iadd dX12_log_73 ?_
    obtain ⟨v11, e12, h⟩ := bnd h
    refine wp_iaload dX12_log_74 e12 ?_
    refine wp_goto (tgt := 83) dX12_log_75 (by decide) ?_
    exact wp_ls (lsN (lsN (lsN (lsN lsZ)))) (X12_log_J83_ok h)

theorem X12_log_J41_ok {w : Gw} {d : Nat} {x0 : Nat} {x1 : Int32} {x2 : Int32} {M : Gm} {out : Int32 × Gm} (h : X12_log_J41 x0 x1 x2 M = some out) : Wp w mdX12_log (d + 1) 41 [some (.inr x0), some (.inl x1), some (.inl x2), none] [] M (.inl (some (.inl out.1))) out.2 := by
  unfold X12_log_J41 at h
  refine wp_iconst (v := 0) dX12_log_41 (by decide) ?_
  exact wp_ls (lsS (lsS (lsS (lsN lsZ)))) (X12_log_J42_ok h)

theorem X12_log_F_ok {w : Gw} {d : Nat} {x0 : Nat} {x1 : Int32} {x2 : Int32} {M : Gm} {out : Int32 × Gm} (h : X12_log_F x0 x1 x2 M = some out) : Wp w mdX12_log (d + 1) 0 [some (.inr x0), some (.inl x1), some (.inl x2), none] [] M (.inl (some (.inl out.1))) out.2 := by
  unfold X12_log_F at h
  refine wp_aload_n dX12_log_0 rfl ?_
  refine wp_iconst (v := 0) dX12_log_1 (by decide) ?_
  obtain ⟨M1, e2, h⟩ := bnd h
  refine wp_putI (c := 12) (k := 4) dX12_log_2 e2 (by decide) (by decide) rfl fl_RX12_131 (Or.inl rfl) ?_
  refine wp_iload_n dX12_log_5 rfl ?_
  refine wp_iconst (v := 0) dX12_log_6 (by decide) ?_
  refine wp_bipush (v := 40) dX12_log_7 (by decide) ?_
  refine wp_aload_n dX12_log_9 rfl ?_
  obtain ⟨v3, e4, h⟩ := bnd h
  refine wp_getR (c := 12) (k := 5) dX12_log_10 e4 (by decide) (by decide) rfl fl_RX12_58 ?_
  refine wp_sipush (v := 144) dX12_log_13 (by decide) ?_
  obtain ⟨v5, e6, h⟩ := bnd h
  refine wp_iaload dX12_log_16 e6 ?_
  obtain ⟨q7, e8, h⟩ := bnd h
  refine wp_callS (As := [.inl 40, .inl v5]) dX12_log_17 (sh_J9_min_7cf53_ok (d := d) e8) okJ9_min_7cf53 nnJ9_min_7cf53 ssJ9_min_7cf53 ml_RX12_164 rfl (Nat.le_of_ble_eq_true rfl) ?_
  refine wp_iconst (v := 1) dX12_log_20 (by decide) ?_
  refine wp_isub dX12_log_21 ?_
  obtain ⟨q9, e10, h⟩ := bnd h
  refine wp_callS (As := [.inl x1, .inl 0, .inl (q7 - 1)]) dX12_log_22 (sh_X12_isIn_ok (d := d) e10) okX12_isIn nnX12_isIn ssX12_isIn ml_RX12_378 rfl (Nat.le_of_ble_eq_true rfl) ?_
  refine wp_if_eq (tgt := 41) dX12_log_25 (by decide) (fun hc_ => ?_) (fun hc_ => ?_)
  · replace h := ite_t hc_ h
    exact wp_ls (lsS (lsS (lsS (lsN lsZ)))) (X12_log_J41_ok h)
  · replace h := ite_f hc_ h
    refine wp_iload_n dX12_log_28 rfl ?_
    refine wp_iconst (v := 0) dX12_log_29 (by decide) ?_
    refine wp_iconst (v := 3) dX12_log_30 (by decide) ?_
    obtain ⟨q11, e12, h⟩ := bnd h
    refine wp_callS (As := [.inl x2, .inl 0, .inl 3]) dX12_log_31 (sh_X12_isIn_ok (d := d) e12) okX12_isIn nnX12_isIn ssX12_isIn ml_RX12_378 rfl (Nat.le_of_ble_eq_true rfl) ?_
    refine wp_if_eq (tgt := 41) dX12_log_34 (by decide) (fun hc_ => ?_) (fun hc_ => ?_)
    · replace h := ite_t hc_ h
      exact wp_ls (lsS (lsS (lsS (lsN lsZ)))) (X12_log_J41_ok h)
    · replace h := ite_f hc_ h
      refine wp_iconst (v := 1) dX12_log_37 (by decide) ?_
      refine wp_goto (tgt := 42) dX12_log_38 (by decide) ?_
      exact wp_ls (lsS (lsS (lsS (lsN lsZ)))) (X12_log_J42_ok h)

theorem sh_X12_log_ok {w : Gw} {d : Nat} {x0 : Nat} {x1 : Int32} {x2 : Int32} {M : Gm} {out : Int32 × Gm} (h : sh_X12_log x0 x1 x2 M = some out) : Ev w mdX12_log (d + 1) [.inr x0, .inl x1, .inl x2] M (.inl (some (.inl out.1))) out.2 := by
  obtain ⟨u, e0, h⟩ := bnd h
  exact ev_of okX12_log ⟨_, _, rfl, isO_of e0 (by decide), by decide⟩ (Nat.le_of_ble_eq_true rfl) (X12_log_F_ok h)
