/-! HeatGovernor$State.asked(I)I -/
def X7_asked_J27 (M : Gm) : Option (Int32) :=
  some 0
def X7_asked_B37 (x0 : Nat) (x2 : Nat) (M : Gm) (q : Int32 × Int32) : Option ((Int32 × Int32) ⊕ Int32) :=
  (gfI M x2 8 5).bind fun v1 =>
  if v1 ≤ q.2 then
    some (.inr q.1)
  else
    (gfR M x0 7 0).bind fun v3 =>
    (gfR M v3 5 2).bind fun v5 =>
    (gfR M x0 7 0).bind fun v7 =>
    (gfR M v7 5 3).bind fun v9 =>
    (ldR M 7 v9 q.2).bind fun v11 =>
    (gfI M v11 0 1).bind fun v13 =>
    (ldR M 6 v5 v13).bind fun v15 =>
    (gfI M v15 2 2).bind fun v17 =>
    some (.inl (q.1 + v17, q.2 + 1))
def X7_asked_F (x0 : Nat) (x1 : Int32) (M : Gm) : Option (Int32) :=
  (gfR M x0 7 0).bind fun v1 =>
  (gfR M v1 5 1).bind fun v3 =>
  (ldR M 5 v3 x1).bind fun v5 =>
  (gfI M v5 8 1).bind fun v7 =>
  if v7 = 1 then
    (gfR M x0 7 10).bind fun v9 =>
    (ldA M 0 v9 x1).bind fun v11 =>
    if v11 = 0 then
      X7_asked_J27 M
    else
      (gfI M v5 8 4).bind fun v13 =>
      (lp (X7_asked_B37 x0 v5 M) FU (0, v13)).bind fun r15 =>
      (gfR M x0 7 6).bind fun v17 =>
      (gfI M v5 8 0).bind fun v19 =>
      (ldA M 0 v17 v19).bind fun v21 =>
      (gfI M v5 8 2).bind fun v23 =>
      (sh_X11_quotient (v21 - v23) 10 M).bind fun q25 =>
      (sh_J9_max_7cf53 1 (q25 + 1) M).bind fun q27 =>
      (sh_J9_min_7cf53 r15 q27 M).bind fun q29 =>
      some q29
  else
    X7_asked_J27 M
def sh_X7_asked (x0 : Nat) (x1 : Int32) (M : Gm) : Option (Int32) := (isO M x0 7).bind fun _ => X7_asked_F x0 x1 M
theorem X7_asked_J27_ok {w : Gw} {d : Nat} {M : Gm} {out : Int32} (h : X7_asked_J27 M = some out) : Wp w mdX7_asked (d + 2) 27 [none, none, none, none, none] [] M (.inl (some (.inl out))) M := by
  unfold X7_asked_J27 at h
  refine wp_iconst (v := 0) dX7_asked_27 (by decide) ?_
  cases h
  exact wp_iret dX7_asked_28 rfl

theorem X7_asked_B37_ok {w : Gw} {d : Nat} {x0 : Nat} {x2 : Nat} {M : Gm} {q : Int32 × Int32} {o : Go} {M' : Gm} {out : (Int32 × Int32) ⊕ Int32} (h : X7_asked_B37 x0 x2 M q = some out) (hc : ∀ t : Int32 × Int32, out = .inl t → Wp w mdX7_asked (d + 2) 37 [some (.inr x0), none, some (.inr x2), some (.inl t.1), some (.inl t.2)] [] M o M') (he0 : ∀ t : Int32, out = .inr t → Wp w mdX7_asked (d + 2) 79 [some (.inr x0), none, some (.inr x2), some (.inl t), none] [] M o M') : Wp w mdX7_asked (d + 2) 37 [some (.inr x0), none, some (.inr x2), some (.inl q.1), some (.inl q.2)] [] M o M' := by
  unfold X7_asked_B37 at h
  refine wp_iload dX7_asked_37 rfl ?_
  refine wp_aload_n dX7_asked_39 rfl ?_
  obtain ⟨v1, e2, h⟩ := bnd h
  refine wp_getI (c := 8) (k := 5) dX7_asked_40 e2 (by decide) (by decide) rfl fl_RX7_156 ?_
  refine wp_icmp_ge (tgt := 79) dX7_asked_43 (by decide) (fun hc_ => ?_) (fun hc_ => ?_)
  · replace h := ite_t hc_ h
    cases h
    exact wp_ls (lsS (lsN (lsS (lsS (lsN lsZ))))) (he0 q.1 rfl)
  · replace h := ite_f hc_ h
    refine wp_iload_n dX7_asked_46 rfl ?_
    refine wp_aload_n dX7_asked_47 rfl ?_
    obtain ⟨v3, e4, h⟩ := bnd h
    refine wp_getR (c := 7) (k := 0) dX7_asked_48 e4 (by decide) (by decide) rfl fl_RX7_70 ?_
    obtain ⟨v5, e6, h⟩ := bnd h
    refine wp_getR (c := 5) (k := 2) dX7_asked_51 e6 (by decide) (by decide) rfl fl_RX7_99 ?_
    refine wp_aload_n dX7_asked_54 rfl ?_
    obtain ⟨v7, e8, h⟩ := bnd h
    refine wp_getR (c := 7) (k := 0) dX7_asked_55 e8 (by decide) (by decide) rfl fl_RX7_70 ?_
    obtain ⟨v9, e10, h⟩ := bnd h
    refine wp_getR (c := 5) (k := 3) dX7_asked_58 e10 (by decide) (by decide) rfl fl_RX7_159 ?_
    refine wp_iload dX7_asked_61 rfl ?_
    obtain ⟨v11, e12, h⟩ := bnd h
    refine wp_aaload (t := 7) dX7_asked_63 (by decide) rfl e12 ?_
    obtain ⟨v13, e14, h⟩ := bnd h
    refine wp_getI (c := 0) (k := 1) dX7_asked_64 e14 (by decide) (by decide) rfl fl_RX7_163 ?_
    obtain ⟨v15, e16, h⟩ := bnd h
    refine wp_aaload (t := 6) dX7_asked_67 (by decide) rfl e16 ?_
    obtain ⟨v17, e18, h⟩ := bnd h
    refine wp_getI (c := 2) (k := 2) dX7_asked_68 e18 (by decide) (by decide) rfl fl_RX7_147 ?_
    refine wp_iadd dX7_asked_71 ?_
    refine wp_istore_n dX7_asked_72 (Nat.le_of_ble_eq_true rfl) ?_
    refine wp_iinc (v := q.2 + 1) dX7_asked_73 rfl rfl ?_
    refine wp_goto (tgt := 37) dX7_asked_76 (by decide) ?_
    cases h
    exact wp_ls (lsS (lsN (lsS (lsS (lsS lsZ))))) (hc (q.1 + v17, q.2 + 1) rfl)

theorem X7_asked_B37_lp {w : Gw} {d : Nat} {x0 : Nat} {x2 : Nat} {M : Gm} {o : Go} {M' : Gm} {r : Int32} : ∀ (n : Nat) (q : Int32 × Int32), lp (X7_asked_B37 x0 x2 M) n q = some r → (∀ t : Int32, r = t → Wp w mdX7_asked (d + 2) 79 [some (.inr x0), none, some (.inr x2), some (.inl t), none] [] M o M') → Wp w mdX7_asked (d + 2) 37 [some (.inr x0), none, some (.inr x2), some (.inl q.1), some (.inl q.2)] [] M o M' := by
  intro n
  induction n with
  | zero => intro q h; cases h
  | succ n ih =>
    intro q h he0
    cases hb : X7_asked_B37 x0 x2 M q with
    | none => rw [lp_succ, hb] at h; cases h
    | some out =>
      rw [lp_succ, hb] at h
      exact X7_asked_B37_ok hb (fun t e => ih t (by rw [e] at h; exact h) he0) (fun t e => he0 t (by rw [e] at h; cases h; rfl))
theorem X7_asked_F_ok {w : Gw} {d : Nat} {x0 : Nat} {x1 : Int32} {M : Gm} {out : Int32} (h : X7_asked_F x0 x1 M = some out) : Wp w mdX7_asked (d + 2) 0 [some (.inr x0), some (.inl x1), none, none, none] [] M (.inl (some (.inl out))) M := by
  unfold X7_asked_F at h
  refine wp_aload_n dX7_asked_0 rfl ?_
  obtain ⟨v1, e2, h⟩ := bnd h
  refine wp_getR (c := 7) (k := 0) dX7_asked_1 e2 (by decide) (by decide) rfl fl_RX7_70 ?_
  obtain ⟨v3, e4, h⟩ := bnd h
  refine wp_getR (c := 5) (k := 1) dX7_asked_4 e4 (by decide) (by decide) rfl fl_RX7_134 ?_
  refine wp_iload_n dX7_asked_7 rfl ?_
  obtain ⟨v5, e6, h⟩ := bnd h
  refine wp_aaload (t := 5) dX7_asked_8 (by decide) rfl e6 ?_
  refine wp_astore_n dX7_asked_9 (Nat.le_of_ble_eq_true rfl) ?_
  refine wp_aload_n dX7_asked_10 rfl ?_
  obtain ⟨v7, e8, h⟩ := bnd h
  refine wp_getI (c := 8) (k := 1) dX7_asked_11 e8 (by decide) (by decide) rfl fl_RX7_150 ?_
  refine wp_iconst (v := 1) dX7_asked_14 (by decide) ?_
  refine wp_icmp_ne (tgt := 27) dX7_asked_15 (by decide) (fun hc_ => ?_) (fun hc_ => ?_)
  · replace h := ite_f hc_ h
    exact wp_ls (lsN (lsN (lsN (lsN (lsN lsZ))))) (X7_asked_J27_ok h)
  · replace h := ite_t hc_ h
    refine wp_aload_n dX7_asked_18 rfl ?_
    obtain ⟨v9, e10, h⟩ := bnd h
    refine wp_getR (c := 7) (k := 10) dX7_asked_19 e10 (by decide) (by decide) rfl fl_RX7_40 ?_
    refine wp_iload_n dX7_asked_22 rfl ?_
    obtain ⟨v11, e12, h⟩ := bnd h
    refine wp_iaload dX7_asked_23 e12 ?_
    refine wp_if_ne (tgt := 29) dX7_asked_24 (by decide) (fun hc_ => ?_) (fun hc_ => ?_)
    · replace h := ite_f hc_ h
      refine wp_iconst (v := 0) dX7_asked_29 (by decide) ?_
      refine wp_istore_n dX7_asked_30 (Nat.le_of_ble_eq_true rfl) ?_
      refine wp_aload_n dX7_asked_31 rfl ?_
      obtain ⟨v13, e14, h⟩ := bnd h
      refine wp_getI (c := 8) (k := 4) dX7_asked_32 e14 (by decide) (by decide) rfl fl_RX7_153 ?_
      refine wp_istore dX7_asked_35 (Nat.le_of_ble_eq_true rfl) ?_
      obtain ⟨r15, e16, h⟩ := bnd h
      refine wp_ls (lsS (lsN (lsS (lsS (lsS lsZ))))) (X7_asked_B37_lp FU _ e16 ?_)
      intro t_ ht_; cases ht_
      refine wp_iload_n dX7_asked_79 rfl ?_
      refine wp_iconst (v := 1) dX7_asked_80 (by decide) ?_
      refine wp_aload_n dX7_asked_81 rfl ?_
      obtain ⟨v17, e18, h⟩ := bnd h
      refine wp_getR (c := 7) (k := 6) dX7_asked_82 e18 (by decide) (by decide) rfl fl_RX7_28 ?_
      refine wp_aload_n dX7_asked_85 rfl ?_
      obtain ⟨v19, e20, h⟩ := bnd h
      refine wp_getI (c := 8) (k := 0) dX7_asked_86 e20 (by decide) (by decide) rfl fl_RX7_138 ?_
      obtain ⟨v21, e22, h⟩ := bnd h
      refine wp_iaload dX7_asked_89 e22 ?_
      refine wp_aload_n dX7_asked_90 rfl ?_
      obtain ⟨v23, e24, h⟩ := bnd h
      refine wp_getI (c := 8) (k := 2) dX7_asked_91 e24 (by decide) (by decide) rfl fl_RX7_143 ?_
      refine wp_isub dX7_asked_94 ?_
      refine wp_bipush (v := 10) dX7_asked_95 (by decide) ?_
      obtain ⟨q25, e26, h⟩ := bnd h
      refine wp_callSN (As := [.inl (v21 - v23), .inl 10]) dX7_asked_97 (sh_X11_quotient_ok (d := d) e26) okX11_quotient nnX11_quotient ssX11_quotient nl_RX7_168 rfl (Nat.le_of_ble_eq_true rfl) ?_
      refine wp_iconst (v := 1) dX7_asked_100 (by decide) ?_
      refine wp_iadd dX7_asked_101 ?_
      obtain ⟨q27, e28, h⟩ := bnd h
      refine wp_callS (As := [.inl 1, .inl (q25 + 1)]) dX7_asked_102 (sh_J9_max_7cf53_ok (d := d + 1) e28) okJ9_max_7cf53 nnJ9_max_7cf53 ssJ9_max_7cf53 ml_RX7_171 rfl (Nat.le_of_ble_eq_true rfl) ?_
      obtain ⟨q29, e30, h⟩ := bnd h
      refine wp_callS (As := [.inl r15, .inl q27]) dX7_asked_105 (sh_J9_min_7cf53_ok (d := d + 1) e30) okJ9_min_7cf53 nnJ9_min_7cf53 ssJ9_min_7cf53 ml_RX7_111 rfl (Nat.le_of_ble_eq_true rfl) ?_
      cases h
      exact wp_iret dX7_asked_108 rfl
    · replace h := ite_t hc_ h
      exact wp_ls (lsN (lsN (lsN (lsN (lsN lsZ))))) (X7_asked_J27_ok h)

theorem sh_X7_asked_ok {w : Gw} {d : Nat} {x0 : Nat} {x1 : Int32} {M : Gm} {out : Int32} (h : sh_X7_asked x0 x1 M = some out) : Ev w mdX7_asked (d + 2) [.inr x0, .inl x1] M (.inl (some (.inl out))) M := by
  obtain ⟨u, e0, h⟩ := bnd h
  exact ev_of okX7_asked ⟨_, _, rfl, isO_of e0 (by decide), by decide⟩ (Nat.le_of_ble_eq_true rfl) (X7_asked_F_ok h)

/-! HeatGovernor$Clock.wantAll(LHeatGovernor$State;)V -/
def X1_wantAll_J72 (x0 : Nat) (x1 : Nat) (x2 : Int32) (M : Gm) : Option ((Int32 × Gm) ⊕ Gm) :=
  some (.inl (x2 + 1, M))
def X1_wantAll_B2 (x0 : Nat) (x1 : Nat) (q : Int32 × Gm) : Option ((Int32 × Gm) ⊕ Gm) :=
  (gfR q.2 x1 7 0).bind fun v1 =>
  (gfI q.2 v1 5 6).bind fun v3 =>
  if v3 ≤ q.1 then
    some (.inr q.2)
  else
    (gfR q.2 x1 7 0).bind fun v5 =>
    (gfR q.2 v5 5 1).bind fun v7 =>
    (ldR q.2 5 v7 q.1).bind fun v9 =>
    (gfI q.2 v9 8 1).bind fun v11 =>
    if v11 = 0 then
      (sh_X1_wantStep x0 x1 q.1 q.2).bind fun q31 =>
      X1_wantAll_J72 x0 x1 q.1 q31
    else
      (gfR q.2 x1 7 0).bind fun v13 =>
      (gfR q.2 v13 5 1).bind fun v15 =>
      (ldR q.2 5 v15 q.1).bind fun v17 =>
      (gfI q.2 v17 8 1).bind fun v19 =>
      if v19 = 1 then
        (gfR q.2 x1 7 0).bind fun v21 =>
        (gfR q.2 v21 5 1).bind fun v23 =>
        (ldR q.2 5 v23 q.1).bind fun v25 =>
        (sh_X7_asked x1 q.1 q.2).bind fun q27 =>
        (sh_X1_wantShares x0 x1 v25 q27 q.2).bind fun q29 =>
        X1_wantAll_J72 x0 x1 q.1 q29
      else
        X1_wantAll_J72 x0 x1 q.1 q.2
def X1_wantAll_F (x0 : Nat) (x1 : Nat) (M : Gm) : Option (Gm) :=
  (lp (X1_wantAll_B2 x0 x1) FU (0, M)).bind fun r1 =>
  some r1
def sh_X1_wantAll (x0 : Nat) (x1 : Nat) (M : Gm) : Option (Gm) := (isO M x0 1).bind fun _ => X1_wantAll_F x0 x1 M
theorem X1_wantAll_J72_ok {w : Gw} {d : Nat} {x0 : Nat} {x1 : Nat} {x2 : Int32} {M : Gm} {o : Go} {M' : Gm} {out : (Int32 × Gm) ⊕ Gm} (h : X1_wantAll_J72 x0 x1 x2 M = some out) (hc : ∀ t : Int32 × Gm, out = .inl t → Wp w mdX1_wantAll (d + 3) 2 [some (.inr x0), some (.inr x1), some (.inl t.1)] [] t.2 o M') (he0 : ∀ t : Gm, out = .inr t → Wp w mdX1_wantAll (d + 3) 78 [none, none, none] [] t o M') : Wp w mdX1_wantAll (d + 3) 72 [some (.inr x0), some (.inr x1), some (.inl x2)] [] M o M' := by
  unfold X1_wantAll_J72 at h
  refine wp_iinc (v := x2 + 1) dX1_wantAll_72 rfl rfl ?_
  refine wp_goto (tgt := 2) dX1_wantAll_75 (by decide) ?_
  cases h
  exact wp_ls (lsS (lsS (lsS lsZ))) (hc (x2 + 1, M) rfl)

theorem X1_wantAll_B2_ok {w : Gw} {d : Nat} {x0 : Nat} {x1 : Nat} {q : Int32 × Gm} {o : Go} {M' : Gm} {out : (Int32 × Gm) ⊕ Gm} (h : X1_wantAll_B2 x0 x1 q = some out) (hc : ∀ t : Int32 × Gm, out = .inl t → Wp w mdX1_wantAll (d + 3) 2 [some (.inr x0), some (.inr x1), some (.inl t.1)] [] t.2 o M') (he0 : ∀ t : Gm, out = .inr t → Wp w mdX1_wantAll (d + 3) 78 [none, none, none] [] t o M') : Wp w mdX1_wantAll (d + 3) 2 [some (.inr x0), some (.inr x1), some (.inl q.1)] [] q.2 o M' := by
  unfold X1_wantAll_B2 at h
  refine wp_iload_n dX1_wantAll_2 rfl ?_
  refine wp_aload_n dX1_wantAll_3 rfl ?_
  obtain ⟨v1, e2, h⟩ := bnd h
  refine wp_getR (c := 7) (k := 0) dX1_wantAll_4 e2 (by decide) (by decide) rfl fl_RX1_43 ?_
  obtain ⟨v3, e4, h⟩ := bnd h
  refine wp_getI (c := 5) (k := 6) dX1_wantAll_7 e4 (by decide) (by decide) rfl fl_RX1_146 ?_
  refine wp_icmp_ge (tgt := 78) dX1_wantAll_10 (by decide) (fun hc_ => ?_) (fun hc_ => ?_)
  · replace h := ite_t hc_ h
    cases h
    exact wp_ls (lsN (lsN (lsN lsZ))) (he0 q.2 rfl)
  · replace h := ite_f hc_ h
    refine wp_aload_n dX1_wantAll_13 rfl ?_
    obtain ⟨v5, e6, h⟩ := bnd h
    refine wp_getR (c := 7) (k := 0) dX1_wantAll_14 e6 (by decide) (by decide) rfl fl_RX1_43 ?_
    obtain ⟨v7, e8, h⟩ := bnd h
    refine wp_getR (c := 5) (k := 1) dX1_wantAll_17 e8 (by decide) (by decide) rfl fl_RX1_149 ?_
    refine wp_iload_n dX1_wantAll_20 rfl ?_
    obtain ⟨v9, e10, h⟩ := bnd h
    refine wp_aaload (t := 5) dX1_wantAll_21 (by decide) rfl e10 ?_
    obtain ⟨v11, e12, h⟩ := bnd h
    refine wp_getI (c := 8) (k := 1) dX1_wantAll_22 e12 (by decide) (by decide) rfl fl_RX1_172 ?_
    refine wp_if_ne (tgt := 37) dX1_wantAll_25 (by decide) (fun hc_ => ?_) (fun hc_ => ?_)
    · replace h := ite_f hc_ h
      refine wp_aload_n dX1_wantAll_37 rfl ?_
      obtain ⟨v13, e14, h⟩ := bnd h
      refine wp_getR (c := 7) (k := 0) dX1_wantAll_38 e14 (by decide) (by decide) rfl fl_RX1_43 ?_
      obtain ⟨v15, e16, h⟩ := bnd h
      refine wp_getR (c := 5) (k := 1) dX1_wantAll_41 e16 (by decide) (by decide) rfl fl_RX1_149 ?_
      refine wp_iload_n dX1_wantAll_44 rfl ?_
      obtain ⟨v17, e18, h⟩ := bnd h
      refine wp_aaload (t := 5) dX1_wantAll_45 (by decide) rfl e18 ?_
      obtain ⟨v19, e20, h⟩ := bnd h
      refine wp_getI (c := 8) (k := 1) dX1_wantAll_46 e20 (by decide) (by decide) rfl fl_RX1_172 ?_
      refine wp_iconst (v := 1) dX1_wantAll_49 (by decide) ?_
      refine wp_icmp_ne (tgt := 72) dX1_wantAll_50 (by decide) (fun hc_ => ?_) (fun hc_ => ?_)
      · replace h := ite_f hc_ h
        exact wp_ls (lsS (lsS (lsS lsZ))) (X1_wantAll_J72_ok h hc he0)
      · replace h := ite_t hc_ h
        refine wp_aload_n dX1_wantAll_53 rfl ?_
        refine wp_aload_n dX1_wantAll_54 rfl ?_
        refine wp_aload_n dX1_wantAll_55 rfl ?_
        obtain ⟨v21, e22, h⟩ := bnd h
        refine wp_getR (c := 7) (k := 0) dX1_wantAll_56 e22 (by decide) (by decide) rfl fl_RX1_43 ?_
        obtain ⟨v23, e24, h⟩ := bnd h
        refine wp_getR (c := 5) (k := 1) dX1_wantAll_59 e24 (by decide) (by decide) rfl fl_RX1_149 ?_
        refine wp_iload_n dX1_wantAll_62 rfl ?_
        obtain ⟨v25, e26, h⟩ := bnd h
        refine wp_aaload (t := 5) dX1_wantAll_63 (by decide) rfl e26 ?_
        refine wp_aload_n dX1_wantAll_64 rfl ?_
        refine wp_iload_n dX1_wantAll_65 rfl ?_
        obtain ⟨q27, e28, h⟩ := bnd h
        refine wp_callV (As := [.inl q.1]) dX1_wantAll_66 (sh_X7_asked_ok (d := d) e28) okX7_asked nnX7_asked vvX7_asked ml_RX1_179 rfl (Nat.le_of_ble_eq_true rfl) ?_
        obtain ⟨q29, e30, h⟩ := bnd h
        refine wp_callV (As := [.inr x1, .inr v25, .inl q27]) dX1_wantAll_69 (sh_X1_wantShares_ok (d := d) e30) okX1_wantShares nnX1_wantShares vvX1_wantShares ml_RX1_183 rfl (Nat.le_of_ble_eq_true rfl) ?_
        exact wp_ls (lsS (lsS (lsS lsZ))) (X1_wantAll_J72_ok h hc he0)
    · replace h := ite_t hc_ h
      refine wp_aload_n dX1_wantAll_28 rfl ?_
      refine wp_aload_n dX1_wantAll_29 rfl ?_
      refine wp_iload_n dX1_wantAll_30 rfl ?_
      obtain ⟨q31, e32, h⟩ := bnd h
      refine wp_callV (As := [.inr x1, .inl q.1]) dX1_wantAll_31 (sh_X1_wantStep_ok (d := d) e32) okX1_wantStep nnX1_wantStep vvX1_wantStep ml_RX1_175 rfl (Nat.le_of_ble_eq_true rfl) ?_
      refine wp_goto (tgt := 72) dX1_wantAll_34 (by decide) ?_
      exact wp_ls (lsS (lsS (lsS lsZ))) (X1_wantAll_J72_ok h hc he0)

theorem X1_wantAll_B2_lp {w : Gw} {d : Nat} {x0 : Nat} {x1 : Nat} {o : Go} {M' : Gm} {r : Gm} : ∀ (n : Nat) (q : Int32 × Gm), lp (X1_wantAll_B2 x0 x1) n q = some r → (∀ t : Gm, r = t → Wp w mdX1_wantAll (d + 3) 78 [none, none, none] [] t o M') → Wp w mdX1_wantAll (d + 3) 2 [some (.inr x0), some (.inr x1), some (.inl q.1)] [] q.2 o M' := by
  intro n
  induction n with
  | zero => intro q h; cases h
  | succ n ih =>
    intro q h he0
    cases hb : X1_wantAll_B2 x0 x1 q with
    | none => rw [lp_succ, hb] at h; cases h
    | some out =>
      rw [lp_succ, hb] at h
      exact X1_wantAll_B2_ok hb (fun t e => ih t (by rw [e] at h; exact h) he0) (fun t e => he0 t (by rw [e] at h; cases h; rfl))
theorem X1_wantAll_F_ok {w : Gw} {d : Nat} {x0 : Nat} {x1 : Nat} {M : Gm} {out : Gm} (h : X1_wantAll_F x0 x1 M = some out) : Wp w mdX1_wantAll (d + 3) 0 [some (.inr x0), some (.inr x1), none] [] M (.inl none) out := by
  unfold X1_wantAll_F at h
  refine wp_iconst (v := 0) dX1_wantAll_0 (by decide) ?_
  refine wp_istore_n dX1_wantAll_1 (Nat.le_of_ble_eq_true rfl) ?_
  obtain ⟨r1, e2, h⟩ := bnd h
  refine wp_ls (lsS (lsS (lsS lsZ))) (X1_wantAll_B2_lp FU _ e2 ?_)
  intro t_ ht_; cases ht_
  cases h
  exact wp_ret dX1_wantAll_78 rfl

theorem sh_X1_wantAll_ok {w : Gw} {d : Nat} {x0 : Nat} {x1 : Nat} {M : Gm} {out : Gm} (h : sh_X1_wantAll x0 x1 M = some out) : Ev w mdX1_wantAll (d + 3) [.inr x0, .inr x1] M (.inl none) out := by
  obtain ⟨u, e0, h⟩ := bnd h
  exact ev_of okX1_wantAll ⟨_, _, rfl, isO_of e0 (by decide), by decide⟩ (Nat.le_of_ble_eq_true rfl) (X1_wantAll_F_ok h)

/-! HeatGovernor$Clock.passMinute(LHeatGovernor$State;)V -/
def X1_passMinute_F (x0 : Nat) (x1 : Nat) (M : Gm) : Option (Gm) :=
  (sh_X1_moveHeats x0 x1 M).bind fun q1 =>
  (sh_X1_readSensors x0 x1 q1).bind fun q3 =>
  (sh_X1_flipTrips x0 x1 q3).bind fun q5 =>
  (sh_X1_wantAll x0 x1 q5).bind fun q7 =>
  (sh_X1_moveDevices x0 x1 q7).bind fun q9 =>
  (sh_X1_shutZones x0 x1 q9).bind fun q11 =>
  (gfI q11 x1 7 1).bind fun v13 =>
  (pfI q11 x1 7 1 (v13 + 1)).bind fun M15 =>
  some M15
def sh_X1_passMinute (x0 : Nat) (x1 : Nat) (M : Gm) : Option (Gm) := (isO M x0 1).bind fun _ => X1_passMinute_F x0 x1 M
theorem X1_passMinute_F_ok {w : Gw} {d : Nat} {x0 : Nat} {x1 : Nat} {M : Gm} {out : Gm} (h : X1_passMinute_F x0 x1 M = some out) : Wp w mdX1_passMinute (d + 4) 0 [some (.inr x0), some (.inr x1)] [] M (.inl none) out := by
  unfold X1_passMinute_F at h
  refine wp_aload_n dX1_passMinute_0 rfl ?_
  refine wp_aload_n dX1_passMinute_1 rfl ?_
  obtain ⟨q1, e2, h⟩ := bnd h
  refine wp_callV (As := [.inr x1]) dX1_passMinute_2 (sh_X1_moveHeats_ok (d := d + 1) e2) okX1_moveHeats nnX1_moveHeats vvX1_moveHeats ml_RX1_18 rfl (Nat.le_of_ble_eq_true rfl) ?_
  refine wp_aload_n dX1_passMinute_5 rfl ?_
  refine wp_aload_n dX1_passMinute_6 rfl ?_
  obtain ⟨q3, e4, h⟩ := bnd h
  refine wp_callV (As := [.inr x1]) dX1_passMinute_7 (sh_X1_readSensors_ok (d := d) e4) okX1_readSensors nnX1_readSensors vvX1_readSensors ml_RX1_22 rfl (Nat.le_of_ble_eq_true rfl) ?_
  refine wp_aload_n dX1_passMinute_10 rfl ?_
  refine wp_aload_n dX1_passMinute_11 rfl ?_
  obtain ⟨q5, e6, h⟩ := bnd h
  refine wp_callV (As := [.inr x1]) dX1_passMinute_12 (sh_X1_flipTrips_ok (d := d + 1) e6) okX1_flipTrips nnX1_flipTrips vvX1_flipTrips ml_RX1_25 rfl (Nat.le_of_ble_eq_true rfl) ?_
  refine wp_aload_n dX1_passMinute_15 rfl ?_
  refine wp_aload_n dX1_passMinute_16 rfl ?_
  obtain ⟨q7, e8, h⟩ := bnd h
  refine wp_callV (As := [.inr x1]) dX1_passMinute_17 (sh_X1_wantAll_ok (d := d) e8) okX1_wantAll nnX1_wantAll vvX1_wantAll ml_RX1_28 rfl (Nat.le_of_ble_eq_true rfl) ?_
  refine wp_aload_n dX1_passMinute_20 rfl ?_
  refine wp_aload_n dX1_passMinute_21 rfl ?_
  obtain ⟨q9, e10, h⟩ := bnd h
  refine wp_callV (As := [.inr x1]) dX1_passMinute_22 (sh_X1_moveDevices_ok (d := d + 1) e10) okX1_moveDevices nnX1_moveDevices vvX1_moveDevices ml_RX1_31 rfl (Nat.le_of_ble_eq_true rfl) ?_
  refine wp_aload_n dX1_passMinute_25 rfl ?_
  refine wp_aload_n dX1_passMinute_26 rfl ?_
  obtain ⟨q11, e12, h⟩ := bnd h
  refine wp_callV (As := [.inr x1]) dX1_passMinute_27 (sh_X1_shutZones_ok (d := d) e12) okX1_shutZones nnX1_shutZones vvX1_shutZones ml_RX1_34 rfl (Nat.le_of_ble_eq_true rfl) ?_
  refine wp_aload_n dX1_passMinute_30 rfl ?_
  refine wp_dup dX1_passMinute_31 ?_
  obtain ⟨v13, e14, h⟩ := bnd h
  refine wp_getI (c := 7) (k := 1) dX1_passMinute_32 e14 (by decide) (by decide) rfl fl_RX1_37 ?_
  refine wp_iconst (v := 1) dX1_passMinute_35 (by decide) ?_
  refine wp_iadd dX1_passMinute_36 ?_
  obtain ⟨M15, e16, h⟩ := bnd h
  refine wp_putI (c := 7) (k := 1) dX1_passMinute_37 e16 (by decide) (by decide) rfl fl_RX1_37 (Or.inl rfl) ?_
  cases h
  exact wp_ret dX1_passMinute_40 rfl

theorem sh_X1_passMinute_ok {w : Gw} {d : Nat} {x0 : Nat} {x1 : Nat} {M : Gm} {out : Gm} (h : sh_X1_passMinute x0 x1 M = some out) : Ev w mdX1_passMinute (d + 4) [.inr x0, .inr x1] M (.inl none) out := by
  obtain ⟨u, e0, h⟩ := bnd h
  exact ev_of okX1_passMinute ⟨_, _, rfl, isO_of e0 (by decide), by decide⟩ (Nat.le_of_ble_eq_true rfl) (X1_passMinute_F_ok h)

/-! HeatGovernor$Memory.rowOfAct(I)LHeatGovernor$State; -/
def X4_rowOfAct_J33 (x2 : Nat) (M : Gm) : Option (Nat × Gm) :=
  some (x2, M)
def X4_rowOfAct_F (x0 : Nat) (x1 : Int32) (M : Gm) : Option (Nat × Gm) :=
  (gfR M x0 4 1).bind fun v1 =>
  (ldR M 9 v1 x1).bind fun v3 =>
  if v3 = 0 then
    (some (nwM M (7, 0))).bind fun M5 =>
    (gfR M5 x0 4 0).bind fun v6 =>
    (gfR M5 v6 7 0).bind fun v8 =>
    (sh_X7_init M.2.2.length v8 M5).bind fun q10 =>
    (gfR q10 x0 4 1).bind fun v12 =>
    (stR q10 9 7 v12 x1 M.2.2.length).bind fun M14 =>
    X4_rowOfAct_J33 M.2.2.length M14
  else
    X4_rowOfAct_J33 v3 M
def sh_X4_rowOfAct (x0 : Nat) (x1 : Int32) (M : Gm) : Option (Nat × Gm) := (isO M x0 4).bind fun _ => X4_rowOfAct_F x0 x1 M
theorem X4_rowOfAct_J33_ok {w : Gw} {d : Nat} {x2 : Nat} {M : Gm} {out : Nat × Gm} (h : X4_rowOfAct_J33 x2 M = some out) : Wp w mdX4_rowOfAct (d + 2) 33 [none, none, some (.inr x2)] [] M (.inl (some (.inr out.1))) out.2 := by
  unfold X4_rowOfAct_J33 at h
  refine wp_aload_n dX4_rowOfAct_33 rfl ?_
  cases h
  exact wp_aret dX4_rowOfAct_34 rfl

theorem X4_rowOfAct_F_ok {w : Gw} {d : Nat} {x0 : Nat} {x1 : Int32} {M : Gm} {out : Nat × Gm} (h : X4_rowOfAct_F x0 x1 M = some out) : Wp w mdX4_rowOfAct (d + 2) 0 [some (.inr x0), some (.inl x1), none] [] M (.inl (some (.inr out.1))) out.2 := by
  unfold X4_rowOfAct_F at h
  refine wp_aload_n dX4_rowOfAct_0 rfl ?_
  obtain ⟨v1, e2, h⟩ := bnd h
  refine wp_getR (c := 4) (k := 1) dX4_rowOfAct_1 e2 (by decide) (by decide) rfl fl_RX4_11 ?_
  refine wp_iload_n dX4_rowOfAct_4 rfl ?_
  obtain ⟨v3, e4, h⟩ := bnd h
  refine wp_aaload (t := 9) dX4_rowOfAct_5 (by decide) rfl e4 ?_
  refine wp_astore_n dX4_rowOfAct_6 (Nat.le_of_ble_eq_true rfl) ?_
  refine wp_aload_n dX4_rowOfAct_7 rfl ?_
  refine wp_ifnonnull (tgt := 33) dX4_rowOfAct_8 (by decide) (fun hc_ => ?_) (fun hc_ => ?_)
  · replace h := ite_f hc_ h
    exact wp_ls (lsN (lsN (lsS lsZ))) (X4_rowOfAct_J33_ok h)
  · replace h := ite_t hc_ h
    obtain ⟨M5, e_, h⟩ := bnd h
    refine wp_new (c := 7) dX4_rowOfAct_11 (by decide) cl_RX4_9 obi_7 obn_7 ?_
    rw [Option.some.inj e_]
    refine wp_dup dX4_rowOfAct_14 ?_
    refine wp_aload_n dX4_rowOfAct_15 rfl ?_
    obtain ⟨v6, e7, h⟩ := bnd h
    refine wp_getR (c := 4) (k := 0) dX4_rowOfAct_16 e7 (by decide) (by decide) rfl fl_RX4_43 ?_
    obtain ⟨v8, e9, h⟩ := bnd h
    refine wp_getR (c := 7) (k := 0) dX4_rowOfAct_19 e9 (by decide) (by decide) rfl fl_RX4_67 ?_
    obtain ⟨q10, e11, h⟩ := bnd h
    refine wp_callI (As := [.inr v8]) dX4_rowOfAct_22 (sh_X7_init_ok (d := d) e11) okX7_init nnX7_init rfl rfl ⟨_, rfl⟩ iiX7_init ml_RX4_40 rfl (Nat.le_of_ble_eq_true rfl) ?_
    refine wp_astore_n dX4_rowOfAct_25 (Nat.le_of_ble_eq_true rfl) ?_
    refine wp_aload_n dX4_rowOfAct_26 rfl ?_
    obtain ⟨v12, e13, h⟩ := bnd h
    refine wp_getR (c := 4) (k := 1) dX4_rowOfAct_27 e13 (by decide) (by decide) rfl fl_RX4_11 ?_
    refine wp_iload_n dX4_rowOfAct_30 rfl ?_
    refine wp_aload_n dX4_rowOfAct_31 rfl ?_
    obtain ⟨M14, e15, h⟩ := bnd h
    refine wp_aastore (t := 9) (c := 7) dX4_rowOfAct_32 e15 (by decide) (by decide) rfl ?_
    exact wp_ls (lsN (lsN (lsS lsZ))) (X4_rowOfAct_J33_ok h)

theorem sh_X4_rowOfAct_ok {w : Gw} {d : Nat} {x0 : Nat} {x1 : Int32} {M : Gm} {out : Nat × Gm} (h : sh_X4_rowOfAct x0 x1 M = some out) : Ev w mdX4_rowOfAct (d + 2) [.inr x0, .inl x1] M (.inl (some (.inr out.1))) out.2 := by
  obtain ⟨u, e0, h⟩ := bnd h
  exact ev_of okX4_rowOfAct ⟨_, _, rfl, isO_of e0 (by decide), by decide⟩ (Nat.le_of_ble_eq_true rfl) (X4_rowOfAct_F_ok h)

/-! HeatGovernor$State.copyRow([I[I)V -/
def X7_copyRow_F (x0 : Nat) (x1 : Nat) (M : Gm) : Option (Gm) :=
  (alen M x0).bind fun v1 =>
  (alen M x1).bind fun v3 =>
  (sh_J9_min_7cf53 v1 v3 M).bind fun q5 =>
  (cpI M x0 0 x1 0 q5).bind fun M7 =>
  some M7
def sh_X7_copyRow (x0 : Nat) (x1 : Nat) (M : Gm) : Option (Gm) := X7_copyRow_F x0 x1 M
theorem X7_copyRow_F_ok {w : Gw} {d : Nat} {x0 : Nat} {x1 : Nat} {M : Gm} {out : Gm} (h : X7_copyRow_F x0 x1 M = some out) : Wp w mdX7_copyRow (d + 1) 0 [some (.inr x0), some (.inr x1)] [] M (.inl none) out := by
  unfold X7_copyRow_F at h
  refine wp_aload_n dX7_copyRow_0 rfl ?_
  refine wp_iconst (v := 0) dX7_copyRow_1 (by decide) ?_
  refine wp_aload_n dX7_copyRow_2 rfl ?_
  refine wp_iconst (v := 0) dX7_copyRow_3 (by decide) ?_
  refine wp_aload_n dX7_copyRow_4 rfl ?_
  obtain ⟨v1, e2, h⟩ := bnd h
  refine wp_alen dX7_copyRow_5 e2 ?_
  refine wp_aload_n dX7_copyRow_6 rfl ?_
  obtain ⟨v3, e4, h⟩ := bnd h
  refine wp_alen dX7_copyRow_7 e4 ?_
  obtain ⟨q5, e6, h⟩ := bnd h
  refine wp_callS (As := [.inl v1, .inl v3]) dX7_copyRow_8 (sh_J9_min_7cf53_ok (d := d) e6) okJ9_min_7cf53 nnJ9_min_7cf53 ssJ9_min_7cf53 ml_RX7_111 rfl (Nat.le_of_ble_eq_true rfl) ?_
  obtain ⟨M7, e8, h⟩ := bnd h
  refine wp_copy dX7_copyRow_11 e8 ml_RX7_117 ac_1 ac_2 ac_3 (Nat.le_of_ble_eq_true rfl) ?_
  cases h
  exact wp_ret dX7_copyRow_14 rfl

theorem sh_X7_copyRow_ok {w : Gw} {d : Nat} {x0 : Nat} {x1 : Nat} {M : Gm} {out : Gm} (h : sh_X7_copyRow x0 x1 M = some out) : Ev w mdX7_copyRow (d + 1) [.inr x0, .inr x1] M (.inl none) out := ev_of okX7_copyRow trivial (Nat.le_of_ble_eq_true rfl) (X7_copyRow_F_ok h)

/-! HeatGovernor$State.copyFrom(LHeatGovernor$State;)V -/
def X7_copyFrom_F (x0 : Nat) (x1 : Nat) (M : Gm) : Option (Gm) :=
  (gfR M x1 7 0).bind fun v1 =>
  (pfR M x0 7 0 v1).bind fun M3 =>
  (gfI M3 x1 7 1).bind fun v5 =>
  (pfI M3 x0 7 1 v5).bind fun M7 =>
  (gfI M7 x1 7 2).bind fun v9 =>
  (pfI M7 x0 7 2 v9).bind fun M11 =>
  (gfR M11 x1 7 3).bind fun v13 =>
  (gfR M11 x0 7 3).bind fun v15 =>
  (sh_X7_copyRow v13 v15 M11).bind fun q17 =>
  (gfR q17 x1 7 4).bind fun v19 =>
  (gfR q17 x0 7 4).bind fun v21 =>
  (sh_X7_copyRow v19 v21 q17).bind fun q23 =>
  (gfR q23 x1 7 5).bind fun v25 =>
  (gfR q23 x0 7 5).bind fun v27 =>
  (sh_X7_copyRow v25 v27 q23).bind fun q29 =>
  (gfR q29 x1 7 6).bind fun v31 =>
  (gfR q29 x0 7 6).bind fun v33 =>
  (sh_X7_copyRow v31 v33 q29).bind fun q35 =>
  (gfR q35 x1 7 7).bind fun v37 =>
  (gfR q35 x0 7 7).bind fun v39 =>
  (sh_X7_copyRow v37 v39 q35).bind fun q41 =>
  (gfR q41 x1 7 8).bind fun v43 =>
  (gfR q41 x0 7 8).bind fun v45 =>
  (sh_X7_copyRow v43 v45 q41).bind fun q47 =>
  (gfR q47 x1 7 9).bind fun v49 =>
  (gfR q47 x0 7 9).bind fun v51 =>
  (sh_X7_copyRow v49 v51 q47).bind fun q53 =>
  (gfR q53 x1 7 10).bind fun v55 =>
  (gfR q53 x0 7 10).bind fun v57 =>
  (sh_X7_copyRow v55 v57 q53).bind fun q59 =>
  (gfR q59 x1 7 11).bind fun v61 =>
  (gfR q59 x0 7 11).bind fun v63 =>
  (sh_X7_copyRow v61 v63 q59).bind fun q65 =>
  (gfR q65 x1 7 12).bind fun v67 =>
  (gfR q65 x0 7 12).bind fun v69 =>
  (sh_X7_copyRow v67 v69 q65).bind fun q71 =>
  (gfR q71 x1 7 13).bind fun v73 =>
  (gfR q71 x0 7 13).bind fun v75 =>
  (sh_X7_copyRow v73 v75 q71).bind fun q77 =>
  (gfR q77 x1 7 14).bind fun v79 =>
  (gfR q77 x0 7 14).bind fun v81 =>
  (sh_X7_copyRow v79 v81 q77).bind fun q83 =>
  (gfR q83 x1 7 15).bind fun v85 =>
  (gfR q83 x0 7 15).bind fun v87 =>
  (sh_X7_copyRow v85 v87 q83).bind fun q89 =>
  (gfR q89 x1 7 16).bind fun v91 =>
  (gfR q89 x0 7 16).bind fun v93 =>
  (sh_X7_copyRow v91 v93 q89).bind fun q95 =>
  (gfI q95 x1 7 17).bind fun v97 =>
  (pfI q95 x0 7 17 v97).bind fun M99 =>
  (gfI M99 x1 7 18).bind fun v101 =>
  (pfI M99 x0 7 18 v101).bind fun M103 =>
  (gfI M103 x1 7 19).bind fun v105 =>
  (pfI M103 x0 7 19 v105).bind fun M107 =>
  some M107
def sh_X7_copyFrom (x0 : Nat) (x1 : Nat) (M : Gm) : Option (Gm) := (isO M x0 7).bind fun _ => X7_copyFrom_F x0 x1 M
theorem X7_copyFrom_F_ok {w : Gw} {d : Nat} {x0 : Nat} {x1 : Nat} {M : Gm} {out : Gm} (h : X7_copyFrom_F x0 x1 M = some out) : Wp w mdX7_copyFrom (d + 2) 0 [some (.inr x0), some (.inr x1)] [] M (.inl none) out := by
  unfold X7_copyFrom_F at h
  refine wp_aload_n dX7_copyFrom_0 rfl ?_
  refine wp_aload_n dX7_copyFrom_1 rfl ?_
  obtain ⟨v1, e2, h⟩ := bnd h
  refine wp_getR (c := 7) (k := 0) dX7_copyFrom_2 e2 (by decide) (by decide) rfl fl_RX7_70 ?_
  obtain ⟨M3, e4, h⟩ := bnd h
  refine wp_putR (c := 7) (k := 0) dX7_copyFrom_5 e4 (by decide) (by decide) rfl fl_RX7_70 (Or.inl rfl) ?_
  refine wp_aload_n dX7_copyFrom_8 rfl ?_
  refine wp_aload_n dX7_copyFrom_9 rfl ?_
  obtain ⟨v5, e6, h⟩ := bnd h
  refine wp_getI (c := 7) (k := 1) dX7_copyFrom_10 e6 (by decide) (by decide) rfl fl_RX7_9 ?_
  obtain ⟨M7, e8, h⟩ := bnd h
  refine wp_putI (c := 7) (k := 1) dX7_copyFrom_13 e8 (by decide) (by decide) rfl fl_RX7_9 (Or.inl rfl) ?_
  refine wp_aload_n dX7_copyFrom_16 rfl ?_
  refine wp_aload_n dX7_copyFrom_17 rfl ?_
  obtain ⟨v9, e10, h⟩ := bnd h
  refine wp_getI (c := 7) (k := 2) dX7_copyFrom_18 e10 (by decide) (by decide) rfl fl_RX7_15 ?_
  obtain ⟨M11, e12, h⟩ := bnd h
  refine wp_putI (c := 7) (k := 2) dX7_copyFrom_21 e12 (by decide) (by decide) rfl fl_RX7_15 (Or.inl rfl) ?_
  refine wp_aload_n dX7_copyFrom_24 rfl ?_
  obtain ⟨v13, e14, h⟩ := bnd h
  refine wp_getR (c := 7) (k := 3) dX7_copyFrom_25 e14 (by decide) (by decide) rfl fl_RX7_18 ?_
  refine wp_aload_n dX7_copyFrom_28 rfl ?_
  obtain ⟨v15, e16, h⟩ := bnd h
  refine wp_getR (c := 7) (k := 3) dX7_copyFrom_29 e16 (by decide) (by decide) rfl fl_RX7_18 ?_
  obtain ⟨q17, e18, h⟩ := bnd h
  refine wp_callS (As := [.inr v13, .inr v15]) dX7_copyFrom_32 (sh_X7_copyRow_ok (d := d) e18) okX7_copyRow nnX7_copyRow ssX7_copyRow ml_RX7_107 rfl (Nat.le_of_ble_eq_true rfl) ?_
  refine wp_aload_n dX7_copyFrom_35 rfl ?_
  obtain ⟨v19, e20, h⟩ := bnd h
  refine wp_getR (c := 7) (k := 4) dX7_copyFrom_36 e20 (by decide) (by decide) rfl fl_RX7_22 ?_
  refine wp_aload_n dX7_copyFrom_39 rfl ?_
  obtain ⟨v21, e22, h⟩ := bnd h
  refine wp_getR (c := 7) (k := 4) dX7_copyFrom_40 e22 (by decide) (by decide) rfl fl_RX7_22 ?_
  obtain ⟨q23, e24, h⟩ := bnd h
  refine wp_callS (As := [.inr v19, .inr v21]) dX7_copyFrom_43 (sh_X7_copyRow_ok (d := d) e24) okX7_copyRow nnX7_copyRow ssX7_copyRow ml_RX7_107 rfl (Nat.le_of_ble_eq_true rfl) ?_
  refine wp_aload_n dX7_copyFrom_46 rfl ?_
  obtain ⟨v25, e26, h⟩ := bnd h
  refine wp_getR (c := 7) (k := 5) dX7_copyFrom_47 e26 (by decide) (by decide) rfl fl_RX7_25 ?_
  refine wp_aload_n dX7_copyFrom_50 rfl ?_
  obtain ⟨v27, e28, h⟩ := bnd h
  refine wp_getR (c := 7) (k := 5) dX7_copyFrom_51 e28 (by decide) (by decide) rfl fl_RX7_25 ?_
  obtain ⟨q29, e30, h⟩ := bnd h
  refine wp_callS (As := [.inr v25, .inr v27]) dX7_copyFrom_54 (sh_X7_copyRow_ok (d := d) e30) okX7_copyRow nnX7_copyRow ssX7_copyRow ml_RX7_107 rfl (Nat.le_of_ble_eq_true rfl) ?_
  refine wp_aload_n dX7_copyFrom_57 rfl ?_
  obtain ⟨v31, e32, h⟩ := bnd h
  refine wp_getR (c := 7) (k := 6) dX7_copyFrom_58 e32 (by decide) (by decide) rfl fl_RX7_28 ?_
  refine wp_aload_n dX7_copyFrom_61 rfl ?_
  obtain ⟨v33, e34, h⟩ := bnd h
  refine wp_getR (c := 7) (k := 6) dX7_copyFrom_62 e34 (by decide) (by decide) rfl fl_RX7_28 ?_
  obtain ⟨q35, e36, h⟩ := bnd h
  refine wp_callS (As := [.inr v31, .inr v33]) dX7_copyFrom_65 (sh_X7_copyRow_ok (d := d) e36) okX7_copyRow nnX7_copyRow ssX7_copyRow ml_RX7_107 rfl (Nat.le_of_ble_eq_true rfl) ?_
  refine wp_aload_n dX7_copyFrom_68 rfl ?_
  obtain ⟨v37, e38, h⟩ := bnd h
  refine wp_getR (c := 7) (k := 7) dX7_copyFrom_69 e38 (by decide) (by decide) rfl fl_RX7_31 ?_
  refine wp_aload_n dX7_copyFrom_72 rfl ?_
  obtain ⟨v39, e40, h⟩ := bnd h
  refine wp_getR (c := 7) (k := 7) dX7_copyFrom_73 e40 (by decide) (by decide) rfl fl_RX7_31 ?_
  obtain ⟨q41, e42, h⟩ := bnd h
  refine wp_callS (As := [.inr v37, .inr v39]) dX7_copyFrom_76 (sh_X7_copyRow_ok (d := d) e42) okX7_copyRow nnX7_copyRow ssX7_copyRow ml_RX7_107 rfl (Nat.le_of_ble_eq_true rfl) ?_
  refine wp_aload_n dX7_copyFrom_79 rfl ?_
  obtain ⟨v43, e44, h⟩ := bnd h
  refine wp_getR (c := 7) (k := 8) dX7_copyFrom_80 e44 (by decide) (by decide) rfl fl_RX7_34 ?_
  refine wp_aload_n dX7_copyFrom_83 rfl ?_
  obtain ⟨v45, e46, h⟩ := bnd h
  refine wp_getR (c := 7) (k := 8) dX7_copyFrom_84 e46 (by decide) (by decide) rfl fl_RX7_34 ?_
  obtain ⟨q47, e48, h⟩ := bnd h
  refine wp_callS (As := [.inr v43, .inr v45]) dX7_copyFrom_87 (sh_X7_copyRow_ok (d := d) e48) okX7_copyRow nnX7_copyRow ssX7_copyRow ml_RX7_107 rfl (Nat.le_of_ble_eq_true rfl) ?_
  refine wp_aload_n dX7_copyFrom_90 rfl ?_
  obtain ⟨v49, e50, h⟩ := bnd h
  refine wp_getR (c := 7) (k := 9) dX7_copyFrom_91 e50 (by decide) (by decide) rfl fl_RX7_37 ?_
  refine wp_aload_n dX7_copyFrom_94 rfl ?_
  obtain ⟨v51, e52, h⟩ := bnd h
  refine wp_getR (c := 7) (k := 9) dX7_copyFrom_95 e52 (by decide) (by decide) rfl fl_RX7_37 ?_
  obtain ⟨q53, e54, h⟩ := bnd h
  refine wp_callS (As := [.inr v49, .inr v51]) dX7_copyFrom_98 (sh_X7_copyRow_ok (d := d) e54) okX7_copyRow nnX7_copyRow ssX7_copyRow ml_RX7_107 rfl (Nat.le_of_ble_eq_true rfl) ?_
  refine wp_aload_n dX7_copyFrom_101 rfl ?_
  obtain ⟨v55, e56, h⟩ := bnd h
  refine wp_getR (c := 7) (k := 10) dX7_copyFrom_102 e56 (by decide) (by decide) rfl fl_RX7_40 ?_
  refine wp_aload_n dX7_copyFrom_105 rfl ?_
  obtain ⟨v57, e58, h⟩ := bnd h
  refine wp_getR (c := 7) (k := 10) dX7_copyFrom_106 e58 (by decide) (by decide) rfl fl_RX7_40 ?_
  obtain ⟨q59, e60, h⟩ := bnd h
  refine wp_callS (As := [.inr v55, .inr v57]) dX7_copyFrom_109 (sh_X7_copyRow_ok (d := d) e60) okX7_copyRow nnX7_copyRow ssX7_copyRow ml_RX7_107 rfl (Nat.le_of_ble_eq_true rfl) ?_
  refine wp_aload_n dX7_copyFrom_112 rfl ?_
  obtain ⟨v61, e62, h⟩ := bnd h
  refine wp_getR (c := 7) (k := 11) dX7_copyFrom_113 e62 (by decide) (by decide) rfl fl_RX7_43 ?_
  refine wp_aload_n dX7_copyFrom_116 rfl ?_
  obtain ⟨v63, e64, h⟩ := bnd h
  refine wp_getR (c := 7) (k := 11) dX7_copyFrom_117 e64 (by decide) (by decide) rfl fl_RX7_43 ?_
  obtain ⟨q65, e66, h⟩ := bnd h
  refine wp_callS (As := [.inr v61, .inr v63]) dX7_copyFrom_120 (sh_X7_copyRow_ok (d := d) e66) okX7_copyRow nnX7_copyRow ssX7_copyRow ml_RX7_107 rfl (Nat.le_of_ble_eq_true rfl) ?_
  refine wp_aload_n dX7_copyFrom_123 rfl ?_
  obtain ⟨v67, e68, h⟩ := bnd h
  refine wp_getR (c := 7) (k := 12) dX7_copyFrom_124 e68 (by decide) (by decide) rfl fl_RX7_46 ?_
  refine wp_aload_n dX7_copyFrom_127 rfl ?_
  obtain ⟨v69, e70, h⟩ := bnd h
  refine wp_getR (c := 7) (k := 12) dX7_copyFrom_128 e70 (by decide) (by decide) rfl fl_RX7_46 ?_
  obtain ⟨q71, e72, h⟩ := bnd h
  refine wp_callS (As := [.inr v67, .inr v69]) dX7_copyFrom_131 (sh_X7_copyRow_ok (d := d) e72) okX7_copyRow nnX7_copyRow ssX7_copyRow ml_RX7_107 rfl (Nat.le_of_ble_eq_true rfl) ?_
  refine wp_aload_n dX7_copyFrom_134 rfl ?_
  obtain ⟨v73, e74, h⟩ := bnd h
  refine wp_getR (c := 7) (k := 13) dX7_copyFrom_135 e74 (by decide) (by decide) rfl fl_RX7_49 ?_
  refine wp_aload_n dX7_copyFrom_138 rfl ?_
  obtain ⟨v75, e76, h⟩ := bnd h
  refine wp_getR (c := 7) (k := 13) dX7_copyFrom_139 e76 (by decide) (by decide) rfl fl_RX7_49 ?_
  obtain ⟨q77, e78, h⟩ := bnd h
  refine wp_callS (As := [.inr v73, .inr v75]) dX7_copyFrom_142 (sh_X7_copyRow_ok (d := d) e78) okX7_copyRow nnX7_copyRow ssX7_copyRow ml_RX7_107 rfl (Nat.le_of_ble_eq_true rfl) ?_
  refine wp_aload_n dX7_copyFrom_145 rfl ?_
  obtain ⟨v79, e80, h⟩ := bnd h
  refine wp_getR (c := 7) (k := 14) dX7_copyFrom_146 e80 (by decide) (by decide) rfl fl_RX7_52 ?_
  refine wp_aload_n dX7_copyFrom_149 rfl ?_
  obtain ⟨v81, e82, h⟩ := bnd h
  refine wp_getR (c := 7) (k := 14) dX7_copyFrom_150 e82 (by decide) (by decide) rfl fl_RX7_52 ?_
  obtain ⟨q83, e84, h⟩ := bnd h
  refine wp_callS (As := [.inr v79, .inr v81]) dX7_copyFrom_153 (sh_X7_copyRow_ok (d := d) e84) okX7_copyRow nnX7_copyRow ssX7_copyRow ml_RX7_107 rfl (Nat.le_of_ble_eq_true rfl) ?_
  refine wp_aload_n dX7_copyFrom_156 rfl ?_
  obtain ⟨v85, e86, h⟩ := bnd h
  refine wp_getR (c := 7) (k := 15) dX7_copyFrom_157 e86 (by decide) (by decide) rfl fl_RX7_55 ?_
  refine wp_aload_n dX7_copyFrom_160 rfl ?_
  obtain ⟨v87, e88, h⟩ := bnd h
  refine wp_getR (c := 7) (k := 15) dX7_copyFrom_161 e88 (by decide) (by decide) rfl fl_RX7_55 ?_
  obtain ⟨q89, e90, h⟩ := bnd h
  refine wp_callS (As := [.inr v85, .inr v87]) dX7_copyFrom_164 (sh_X7_copyRow_ok (d := d) e90) okX7_copyRow nnX7_copyRow ssX7_copyRow ml_RX7_107 rfl (Nat.le_of_ble_eq_true rfl) ?_
  refine wp_aload_n dX7_copyFrom_167 rfl ?_
  obtain ⟨v91, e92, h⟩ := bnd h
  refine wp_getR (c := 7) (k := 16) dX7_copyFrom_168 e92 (by decide) (by decide) rfl fl_RX7_58 ?_
  refine wp_aload_n dX7_copyFrom_171 rfl ?_
  obtain ⟨v93, e94, h⟩ := bnd h
  refine wp_getR (c := 7) (k := 16) dX7_copyFrom_172 e94 (by decide) (by decide) rfl fl_RX7_58 ?_
  obtain ⟨q95, e96, h⟩ := bnd h
  refine wp_callS (As := [.inr v91, .inr v93]) dX7_copyFrom_175 (sh_X7_copyRow_ok (d := d) e96) okX7_copyRow nnX7_copyRow ssX7_copyRow ml_RX7_107 rfl (Nat.le_of_ble_eq_true rfl) ?_
  refine wp_aload_n dX7_copyFrom_178 rfl ?_
  refine wp_aload_n dX7_copyFrom_179 rfl ?_
  obtain ⟨v97, e98, h⟩ := bnd h
  refine wp_getI (c := 7) (k := 17) dX7_copyFrom_180 e98 (by decide) (by decide) rfl fl_RX7_61 ?_
  obtain ⟨M99, e100, h⟩ := bnd h
  refine wp_putI (c := 7) (k := 17) dX7_copyFrom_183 e100 (by decide) (by decide) rfl fl_RX7_61 (Or.inl rfl) ?_
  refine wp_aload_n dX7_copyFrom_186 rfl ?_
  refine wp_aload_n dX7_copyFrom_187 rfl ?_
  obtain ⟨v101, e102, h⟩ := bnd h
  refine wp_getI (c := 7) (k := 18) dX7_copyFrom_188 e102 (by decide) (by decide) rfl fl_RX7_64 ?_
  obtain ⟨M103, e104, h⟩ := bnd h
  refine wp_putI (c := 7) (k := 18) dX7_copyFrom_191 e104 (by decide) (by decide) rfl fl_RX7_64 (Or.inl rfl) ?_
  refine wp_aload_n dX7_copyFrom_194 rfl ?_
  refine wp_aload_n dX7_copyFrom_195 rfl ?_
  obtain ⟨v105, e106, h⟩ := bnd h
  refine wp_getI (c := 7) (k := 19) dX7_copyFrom_196 e106 (by decide) (by decide) rfl fl_RX7_67 ?_
  obtain ⟨M107, e108, h⟩ := bnd h
  refine wp_putI (c := 7) (k := 19) dX7_copyFrom_199 e108 (by decide) (by decide) rfl fl_RX7_67 (Or.inl rfl) ?_
  cases h
  exact wp_ret dX7_copyFrom_202 rfl

theorem sh_X7_copyFrom_ok {w : Gw} {d : Nat} {x0 : Nat} {x1 : Nat} {M : Gm} {out : Gm} (h : sh_X7_copyFrom x0 x1 M = some out) : Ev w mdX7_copyFrom (d + 2) [.inr x0, .inr x1] M (.inl none) out := by
  obtain ⟨u, e0, h⟩ := bnd h
  exact ev_of okX7_copyFrom ⟨_, _, rfl, isO_of e0 (by decide), by decide⟩ (Nat.le_of_ble_eq_true rfl) (X7_copyFrom_F_ok h)

/-! HeatGovernor$Memory.keepAct()V -/
def X4_keepAct_F (x0 : Nat) (M : Gm) : Option (Gm) :=
  (gfI M x0 4 2).bind fun v1 =>
  (sh_X4_rowOfAct x0 v1 M).bind fun q3 =>
  (gfR q3.2 x0 4 0).bind fun v5 =>
  (sh_X7_copyFrom q3.1 v5 q3.2).bind fun q7 =>
  (gfI q7 x0 4 2).bind fun v9 =>
  (rmI (v9 + 1) 40).bind fun v11 =>
  (pfI q7 x0 4 2 v11).bind fun M13 =>
  (gfI M13 x0 4 3).bind fun v15 =>
  (sh_J9_min_7cf53 (v15 + 1) 40 M13).bind fun q17 =>
  (pfI M13 x0 4 3 q17).bind fun M19 =>
  some M19
def sh_X4_keepAct (x0 : Nat) (M : Gm) : Option (Gm) := (isO M x0 4).bind fun _ => X4_keepAct_F x0 M
theorem X4_keepAct_F_ok {w : Gw} {d : Nat} {x0 : Nat} {M : Gm} {out : Gm} (h : X4_keepAct_F x0 M = some out) : Wp w mdX4_keepAct (d + 3) 0 [some (.inr x0)] [] M (.inl none) out := by
  unfold X4_keepAct_F at h
  refine wp_aload_n dX4_keepAct_0 rfl ?_
  refine wp_aload_n dX4_keepAct_1 rfl ?_
  obtain ⟨v1, e2, h⟩ := bnd h
  refine wp_getI (c := 4) (k := 2) dX4_keepAct_2 e2 (by decide) (by decide) rfl fl_RX4_17 ?_
  obtain ⟨q3, e4, h⟩ := bnd h
  refine wp_callV (As := [.inl v1]) dX4_keepAct_5 (sh_X4_rowOfAct_ok (d := d) e4) okX4_rowOfAct nnX4_rowOfAct vvX4_rowOfAct ml_RX4_50 rfl (Nat.le_of_ble_eq_true rfl) ?_
  refine wp_aload_n dX4_keepAct_8 rfl ?_
  obtain ⟨v5, e6, h⟩ := bnd h
  refine wp_getR (c := 4) (k := 0) dX4_keepAct_9 e6 (by decide) (by decide) rfl fl_RX4_43 ?_
  obtain ⟨q7, e8, h⟩ := bnd h
  refine wp_callV (As := [.inr v5]) dX4_keepAct_12 (sh_X7_copyFrom_ok (d := d) e8) okX7_copyFrom nnX7_copyFrom vvX7_copyFrom ml_RX4_54 rfl (Nat.le_of_ble_eq_true rfl) ?_
  refine wp_aload_n dX4_keepAct_15 rfl ?_
  refine wp_aload_n dX4_keepAct_16 rfl ?_
  obtain ⟨v9, e10, h⟩ := bnd h
  refine wp_getI (c := 4) (k := 2) dX4_keepAct_17 e10 (by decide) (by decide) rfl fl_RX4_17 ?_
  refine wp_iconst (v := 1) dX4_keepAct_20 (by decide) ?_
  refine wp_iadd dX4_keepAct_21 ?_
  refine wp_bipush (v := 40) dX4_keepAct_22 (by decide) ?_
  obtain ⟨v11, e12, h⟩ := bnd h
  refine wp_irem dX4_keepAct_24 e12 ?_
  obtain ⟨M13, e14, h⟩ := bnd h
  refine wp_putI (c := 4) (k := 2) dX4_keepAct_25 e14 (by decide) (by decide) rfl fl_RX4_17 (Or.inl rfl) ?_
  refine wp_aload_n dX4_keepAct_28 rfl ?_
  refine wp_aload_n dX4_keepAct_29 rfl ?_
  obtain ⟨v15, e16, h⟩ := bnd h
  refine wp_getI (c := 4) (k := 3) dX4_keepAct_30 e16 (by decide) (by decide) rfl fl_RX4_21 ?_
  refine wp_iconst (v := 1) dX4_keepAct_33 (by decide) ?_
  refine wp_iadd dX4_keepAct_34 ?_
  refine wp_bipush (v := 40) dX4_keepAct_35 (by decide) ?_
  obtain ⟨q17, e18, h⟩ := bnd h
  refine wp_callS (As := [.inl (v15 + 1), .inl 40]) dX4_keepAct_37 (sh_J9_min_7cf53_ok (d := d + 2) e18) okJ9_min_7cf53 nnJ9_min_7cf53 ssJ9_min_7cf53 ml_RX4_58 rfl (Nat.le_of_ble_eq_true rfl) ?_
  obtain ⟨M19, e20, h⟩ := bnd h
  refine wp_putI (c := 4) (k := 3) dX4_keepAct_40 e20 (by decide) (by decide) rfl fl_RX4_21 (Or.inl rfl) ?_
  cases h
  exact wp_ret dX4_keepAct_43 rfl

theorem sh_X4_keepAct_ok {w : Gw} {d : Nat} {x0 : Nat} {M : Gm} {out : Gm} (h : sh_X4_keepAct x0 M = some out) : Ev w mdX4_keepAct (d + 3) [.inr x0] M (.inl none) out := by
  obtain ⟨u, e0, h⟩ := bnd h
  exact ev_of okX4_keepAct ⟨_, _, rfl, isO_of e0 (by decide), by decide⟩ (Nat.le_of_ble_eq_true rfl) (X4_keepAct_F_ok h)

/-! HeatGovernor.minutes(I)I -/
def X11_minutes_J11 (x0 : Nat) (M : Gm) : Option (Int32 × Gm) :=
  (sh_X11_refuseAct x0 ((-1)) M).bind fun q1 =>
  some (q1.1, q1.2)
def X11_minutes_B26 (x0 : Nat) (x1 : Int32) (q : Int32 × Gm) : Option ((Int32 × Gm) ⊕ Gm) :=
  if x1 ≤ q.1 then
    some (.inr q.2)
  else
    (gfR q.2 x0 11 9).bind fun v1 =>
    (gfR q.2 x0 11 6).bind fun v3 =>
    (gfR q.2 v3 4 0).bind fun v5 =>
    (sh_X1_passMinute v1 v5 q.2).bind fun q7 =>
    some (.inl (q.1 + 1, q7))
def X11_minutes_F (x0 : Nat) (x1 : Int32) (M : Gm) : Option (Int32 × Gm) :=
  if x1 < 1 then
    X11_minutes_J11 x0 M
  else
    if x1 ≤ 60 then
      (gfR M x0 11 6).bind fun v1 =>
      (sh_X4_keepAct v1 M).bind fun q3 =>
      (lp (X11_minutes_B26 x0 x1) FU (0, q3)).bind fun r5 =>
      (gfR r5 x0 11 6).bind fun v7 =>
      (gfR r5 v7 4 0).bind fun v9 =>
      (gfI r5 v9 7 1).bind fun v11 =>
      some (v11, r5)
    else
      X11_minutes_J11 x0 M
def sh_X11_minutes (x0 : Nat) (x1 : Int32) (M : Gm) : Option (Int32 × Gm) := (isO M x0 11).bind fun _ => X11_minutes_F x0 x1 M
theorem X11_minutes_J11_ok {w : Gw} {d : Nat} {x0 : Nat} {M : Gm} {out : Int32 × Gm} (h : X11_minutes_J11 x0 M = some out) : Wp w mdX11_minutes (d + 5) 11 [some (.inr x0), none, none] [] M (.inl (some (.inl out.1))) out.2 := by
  unfold X11_minutes_J11 at h
  refine wp_aload_n dX11_minutes_11 rfl ?_
  refine wp_iconst (v := (-1)) dX11_minutes_12 (by decide) ?_
  obtain ⟨q1, e2, h⟩ := bnd h
  refine wp_callV (As := [.inl ((-1))]) dX11_minutes_13 (sh_X11_refuseAct_ok (d := d + 4) e2) okX11_refuseAct nnX11_refuseAct vvX11_refuseAct ml_RX11_307 rfl (Nat.le_of_ble_eq_true rfl) ?_
  cases h
  exact wp_iret dX11_minutes_16 rfl

theorem X11_minutes_B26_ok {w : Gw} {d : Nat} {x0 : Nat} {x1 : Int32} {q : Int32 × Gm} {o : Go} {M' : Gm} {out : (Int32 × Gm) ⊕ Gm} (h : X11_minutes_B26 x0 x1 q = some out) (hc : ∀ t : Int32 × Gm, out = .inl t → Wp w mdX11_minutes (d + 5) 26 [some (.inr x0), some (.inl x1), some (.inl t.1)] [] t.2 o M') (he0 : ∀ t : Gm, out = .inr t → Wp w mdX11_minutes (d + 5) 51 [some (.inr x0), none, none] [] t o M') : Wp w mdX11_minutes (d + 5) 26 [some (.inr x0), some (.inl x1), some (.inl q.1)] [] q.2 o M' := by
  unfold X11_minutes_B26 at h
  refine wp_iload_n dX11_minutes_26 rfl ?_
  refine wp_iload_n dX11_minutes_27 rfl ?_
  refine wp_icmp_ge (tgt := 51) dX11_minutes_28 (by decide) (fun hc_ => ?_) (fun hc_ => ?_)
  · replace h := ite_t hc_ h
    cases h
    exact wp_ls (lsS (lsN (lsN lsZ))) (he0 q.2 rfl)
  · replace h := ite_f hc_ h
    refine wp_aload_n dX11_minutes_31 rfl ?_
    obtain ⟨v1, e2, h⟩ := bnd h
    refine wp_getR (c := 11) (k := 9) dX11_minutes_32 e2 (by decide) (by decide) rfl fl_RX11_58 ?_
    refine wp_aload_n dX11_minutes_35 rfl ?_
    obtain ⟨v3, e4, h⟩ := bnd h
    refine wp_getR (c := 11) (k := 6) dX11_minutes_36 e4 (by decide) (by decide) rfl fl_RX11_44 ?_
    obtain ⟨v5, e6, h⟩ := bnd h
    refine wp_getR (c := 4) (k := 0) dX11_minutes_39 e6 (by decide) (by decide) rfl fl_RX11_96 ?_
    obtain ⟨q7, e8, h⟩ := bnd h
    refine wp_callV (As := [.inr v5]) dX11_minutes_42 (sh_X1_passMinute_ok (d := d) e8) okX1_passMinute nnX1_passMinute vvX1_passMinute ml_RX11_313 rfl (Nat.le_of_ble_eq_true rfl) ?_
    refine wp_iinc (v := q.1 + 1) dX11_minutes_45 rfl rfl ?_
    refine wp_goto (tgt := 26) dX11_minutes_48 (by decide) ?_
    cases h
    exact wp_ls (lsS (lsS (lsS lsZ))) (hc (q.1 + 1, q7) rfl)

theorem X11_minutes_B26_lp {w : Gw} {d : Nat} {x0 : Nat} {x1 : Int32} {o : Go} {M' : Gm} {r : Gm} : ∀ (n : Nat) (q : Int32 × Gm), lp (X11_minutes_B26 x0 x1) n q = some r → (∀ t : Gm, r = t → Wp w mdX11_minutes (d + 5) 51 [some (.inr x0), none, none] [] t o M') → Wp w mdX11_minutes (d + 5) 26 [some (.inr x0), some (.inl x1), some (.inl q.1)] [] q.2 o M' := by
  intro n
  induction n with
  | zero => intro q h; cases h
  | succ n ih =>
    intro q h he0
    cases hb : X11_minutes_B26 x0 x1 q with
    | none => rw [lp_succ, hb] at h; cases h
    | some out =>
      rw [lp_succ, hb] at h
      exact X11_minutes_B26_ok hb (fun t e => ih t (by rw [e] at h; exact h) he0) (fun t e => he0 t (by rw [e] at h; cases h; rfl))
theorem X11_minutes_F_ok {w : Gw} {d : Nat} {x0 : Nat} {x1 : Int32} {M : Gm} {out : Int32 × Gm} (h : X11_minutes_F x0 x1 M = some out) : Wp w mdX11_minutes (d + 5) 0 [some (.inr x0), some (.inl x1), none] [] M (.inl (some (.inl out.1))) out.2 := by
  unfold X11_minutes_F at h
  refine wp_iload_n dX11_minutes_0 rfl ?_
  refine wp_iconst (v := 1) dX11_minutes_1 (by decide) ?_
  refine wp_icmp_lt (tgt := 11) dX11_minutes_2 (by decide) (fun hc_ => ?_) (fun hc_ => ?_)
  · replace h := ite_t hc_ h
    exact wp_ls (lsS (lsN (lsN lsZ))) (X11_minutes_J11_ok h)
  · replace h := ite_f hc_ h
    refine wp_iload_n dX11_minutes_5 rfl ?_
    refine wp_bipush (v := 60) dX11_minutes_6 (by decide) ?_
    refine wp_icmp_le (tgt := 17) dX11_minutes_8 (by decide) (fun hc_ => ?_) (fun hc_ => ?_)
    · replace h := ite_t hc_ h
      refine wp_aload_n dX11_minutes_17 rfl ?_
      obtain ⟨v1, e2, h⟩ := bnd h
      refine wp_getR (c := 11) (k := 6) dX11_minutes_18 e2 (by decide) (by decide) rfl fl_RX11_44 ?_
      obtain ⟨q3, e4, h⟩ := bnd h
      refine wp_callV (As := []) dX11_minutes_21 (sh_X4_keepAct_ok (d := d + 1) e4) okX4_keepAct nnX4_keepAct vvX4_keepAct ml_RX11_310 rfl (Nat.le_of_ble_eq_true rfl) ?_
      refine wp_iconst (v := 0) dX11_minutes_24 (by decide) ?_
      refine wp_istore_n dX11_minutes_25 (Nat.le_of_ble_eq_true rfl) ?_
      obtain ⟨r5, e6, h⟩ := bnd h
      refine wp_ls (lsS (lsS (lsS lsZ))) (X11_minutes_B26_lp FU _ e6 ?_)
      intro t_ ht_; cases ht_
      refine wp_aload_n dX11_minutes_51 rfl ?_
      obtain ⟨v7, e8, h⟩ := bnd h
      refine wp_getR (c := 11) (k := 6) dX11_minutes_52 e8 (by decide) (by decide) rfl fl_RX11_44 ?_
      obtain ⟨v9, e10, h⟩ := bnd h
      refine wp_getR (c := 4) (k := 0) dX11_minutes_55 e10 (by decide) (by decide) rfl fl_RX11_96 ?_
      obtain ⟨v11, e12, h⟩ := bnd h
      refine wp_getI (c := 7) (k := 1) dX11_minutes_58 e12 (by decide) (by decide) rfl fl_RX11_115 ?_
      cases h
      exact wp_iret dX11_minutes_61 rfl
    · replace h := ite_f hc_ h
      exact wp_ls (lsS (lsN (lsN lsZ))) (X11_minutes_J11_ok h)

theorem sh_X11_minutes_ok {w : Gw} {d : Nat} {x0 : Nat} {x1 : Int32} {M : Gm} {out : Int32 × Gm} (h : sh_X11_minutes x0 x1 M = some out) : Ev w mdX11_minutes (d + 5) [.inr x0, .inl x1] M (.inl (some (.inl out.1))) out.2 := by
  obtain ⟨u, e0, h⟩ := bnd h
  exact ev_of okX11_minutes ⟨_, _, rfl, isO_of e0 (by decide), by decide⟩ (Nat.le_of_ble_eq_true rfl) (X11_minutes_F_ok h)

/-! HeatGovernor$Plan.hasZone(I)Z -/
def X5_hasZone_J17 (s0 : Int32) (M : Gm) : Option (Int32) :=
  (zck s0).bind fun z1 =>
  some z1
def X5_hasZone_J16 (M : Gm) : Option (Int32) :=
  X5_hasZone_J17 0 M
def X5_hasZone_F (x0 : Nat) (x1 : Int32) (M : Gm) : Option (Int32) :=
  if x1 < 0 then
    X5_hasZone_J16 M
  else
    (gfI M x0 5 5).bind fun v1 =>
    if v1 ≤ x1 then
      X5_hasZone_J16 M
    else
      X5_hasZone_J17 1 M
def sh_X5_hasZone (x0 : Nat) (x1 : Int32) (M : Gm) : Option (Int32) := (isO M x0 5).bind fun _ => X5_hasZone_F x0 x1 M
theorem X5_hasZone_J17_ok {w : Gw} {d : Nat} {s0 : Int32} {M : Gm} {out : Int32} (h : X5_hasZone_J17 s0 M = some out) : Wp w mdX5_hasZone d 17 [none, none] [.inl s0] M (.inl (some (.inl out))) M := by
  unfold X5_hasZone_J17 at h
  obtain ⟨z1, e2, h⟩ := bnd h
  obtain ⟨hz_, rfl⟩ := zck_of e2
  cases h
  exact wp_zret dX5_hasZone_17 rfl hz_

theorem X5_hasZone_J16_ok {w : Gw} {d : Nat} {M : Gm} {out : Int32} (h : X5_hasZone_J16 M = some out) : Wp w mdX5_hasZone d 16 [none, none] [] M (.inl (some (.inl out))) M := by
  unfold X5_hasZone_J16 at h
  refine wp_iconst (v := 0) dX5_hasZone_16 (by decide) ?_
  exact wp_ls (lsN (lsN lsZ)) (X5_hasZone_J17_ok h)

theorem X5_hasZone_F_ok {w : Gw} {d : Nat} {x0 : Nat} {x1 : Int32} {M : Gm} {out : Int32} (h : X5_hasZone_F x0 x1 M = some out) : Wp w mdX5_hasZone d 0 [some (.inr x0), some (.inl x1)] [] M (.inl (some (.inl out))) M := by
  unfold X5_hasZone_F at h
  refine wp_iload_n dX5_hasZone_0 rfl ?_
  refine wp_if_lt (tgt := 16) dX5_hasZone_1 (by decide) (fun hc_ => ?_) (fun hc_ => ?_)
  · replace h := ite_t hc_ h
    exact wp_ls (lsN (lsN lsZ)) (X5_hasZone_J16_ok h)
  · replace h := ite_f hc_ h
    refine wp_iload_n dX5_hasZone_4 rfl ?_
    refine wp_aload_n dX5_hasZone_5 rfl ?_
    obtain ⟨v1, e2, h⟩ := bnd h
    refine wp_getI (c := 5) (k := 5) dX5_hasZone_6 e2 (by decide) (by decide) rfl fl_RX5_41 ?_
    refine wp_icmp_ge (tgt := 16) dX5_hasZone_9 (by decide) (fun hc_ => ?_) (fun hc_ => ?_)
    · replace h := ite_t hc_ h
      exact wp_ls (lsN (lsN lsZ)) (X5_hasZone_J16_ok h)
    · replace h := ite_f hc_ h
      refine wp_iconst (v := 1) dX5_hasZone_12 (by decide) ?_
      refine wp_goto (tgt := 17) dX5_hasZone_13 (by decide) ?_
      exact wp_ls (lsN (lsN lsZ)) (X5_hasZone_J17_ok h)

theorem sh_X5_hasZone_ok {w : Gw} {d : Nat} {x0 : Nat} {x1 : Int32} {M : Gm} {out : Int32} (h : sh_X5_hasZone x0 x1 M = some out) : Ev w mdX5_hasZone d [.inr x0, .inl x1] M (.inl (some (.inl out))) M := by
  obtain ⟨u, e0, h⟩ := bnd h
  exact ev_of okX5_hasZone ⟨_, _, rfl, isO_of e0 (by decide), by decide⟩ (Nat.le_of_ble_eq_true rfl) (X5_hasZone_F_ok h)

/-! HeatGovernor.load(II)I -/
def X11_load_J37 (x0 : Nat) (M : Gm) : Option (Int32 × Gm) :=
  (sh_X11_refuseAct x0 ((-1)) M).bind fun q1 =>
  some (q1.1, q1.2)
def X11_load_F (x0 : Nat) (x1 : Int32) (x2 : Int32) (M : Gm) : Option (Int32 × Gm) :=
  (gfR M x0 11 4).bind fun v1 =>
  (sh_X5_hasZone v1 x1 M).bind fun q3 =>
  if q3 = 0 then
    X11_load_J37 x0 M
  else
    if x2 < 0 then
      X11_load_J37 x0 M
    else
      if 99 < x2 then
        X11_load_J37 x0 M
      else
        (gfR M x0 11 6).bind fun v5 =>
        (gfR M v5 4 0).bind fun v7 =>
        (gfR M v7 7 4).bind fun v9 =>
        (ldA M 0 v9 x1).bind fun v11 =>
        if v11 = x2 then
          X11_load_J37 x0 M
        else
          (gfR M x0 11 6).bind fun v13 =>
          (sh_X4_keepAct v13 M).bind fun q15 =>
          (gfR q15 x0 11 6).bind fun v17 =>
          (gfR q15 v17 4 0).bind fun v19 =>
          (gfR q15 v19 7 4).bind fun v21 =>
          (ldA q15 0 v21 x1).bind fun v23 =>
          (gfR q15 x0 11 6).bind fun v25 =>
          (gfR q15 v25 4 0).bind fun v27 =>
          (gfR q15 v27 7 4).bind fun v29 =>
          (stA q15 0 v29 x1 x2).bind fun M31 =>
          some (v23, M31)
def sh_X11_load (x0 : Nat) (x1 : Int32) (x2 : Int32) (M : Gm) : Option (Int32 × Gm) := (isO M x0 11).bind fun _ => X11_load_F x0 x1 x2 M
theorem X11_load_J37_ok {w : Gw} {d : Nat} {x0 : Nat} {M : Gm} {out : Int32 × Gm} (h : X11_load_J37 x0 M = some out) : Wp w mdX11_load (d + 4) 37 [some (.inr x0), none, none, none] [] M (.inl (some (.inl out.1))) out.2 := by
  unfold X11_load_J37 at h
  refine wp_aload_n dX11_load_37 rfl ?_
  refine wp_iconst (v := (-1)) dX11_load_38 (by decide) ?_
  obtain ⟨q1, e2, h⟩ := bnd h
  refine wp_callV (As := [.inl ((-1))]) dX11_load_39 (sh_X11_refuseAct_ok (d := d + 3) e2) okX11_refuseAct nnX11_refuseAct vvX11_refuseAct ml_RX11_307 rfl (Nat.le_of_ble_eq_true rfl) ?_
  cases h
  exact wp_iret dX11_load_42 rfl

theorem X11_load_F_ok {w : Gw} {d : Nat} {x0 : Nat} {x1 : Int32} {x2 : Int32} {M : Gm} {out : Int32 × Gm} (h : X11_load_F x0 x1 x2 M = some out) : Wp w mdX11_load (d + 4) 0 [some (.inr x0), some (.inl x1), some (.inl x2), none] [] M (.inl (some (.inl out.1))) out.2 := by
  unfold X11_load_F at h
  refine wp_aload_n dX11_load_0 rfl ?_
  obtain ⟨v1, e2, h⟩ := bnd h
  refine wp_getR (c := 11) (k := 4) dX11_load_1 e2 (by decide) (by decide) rfl fl_RX11_32 ?_
  refine wp_iload_n dX11_load_4 rfl ?_
  obtain ⟨q3, e4, h⟩ := bnd h
  refine wp_callV (As := [.inl x1]) dX11_load_5 (sh_X5_hasZone_ok (d := d + 3) e4) okX5_hasZone nnX5_hasZone vvX5_hasZone ml_RX11_317 rfl (Nat.le_of_ble_eq_true rfl) ?_
  refine wp_if_eq (tgt := 37) dX11_load_8 (by decide) (fun hc_ => ?_) (fun hc_ => ?_)
  · replace h := ite_t hc_ h
    exact wp_ls (lsS (lsN (lsN (lsN lsZ)))) (X11_load_J37_ok h)
  · replace h := ite_f hc_ h
    refine wp_iload_n dX11_load_11 rfl ?_
    refine wp_if_lt (tgt := 37) dX11_load_12 (by decide) (fun hc_ => ?_) (fun hc_ => ?_)
    · replace h := ite_t hc_ h
      exact wp_ls (lsS (lsN (lsN (lsN lsZ)))) (X11_load_J37_ok h)
    · replace h := ite_f hc_ h
      refine wp_iload_n dX11_load_15 rfl ?_
      refine wp_bipush (v := 99) dX11_load_16 (by decide) ?_
      refine wp_icmp_gt (tgt := 37) dX11_load_18 (by decide) (fun hc_ => ?_) (fun hc_ => ?_)
      · replace h := ite_t hc_ h
        exact wp_ls (lsS (lsN (lsN (lsN lsZ)))) (X11_load_J37_ok h)
      · replace h := ite_f hc_ h
        refine wp_aload_n dX11_load_21 rfl ?_
        obtain ⟨v5, e6, h⟩ := bnd h
        refine wp_getR (c := 11) (k := 6) dX11_load_22 e6 (by decide) (by decide) rfl fl_RX11_44 ?_
        obtain ⟨v7, e8, h⟩ := bnd h
        refine wp_getR (c := 4) (k := 0) dX11_load_25 e8 (by decide) (by decide) rfl fl_RX11_96 ?_
        obtain ⟨v9, e10, h⟩ := bnd h
        refine wp_getR (c := 7) (k := 4) dX11_load_28 e10 (by decide) (by decide) rfl fl_RX11_168 ?_
        refine wp_iload_n dX11_load_31 rfl ?_
        obtain ⟨v11, e12, h⟩ := bnd h
        refine wp_iaload dX11_load_32 e12 ?_
        refine wp_iload_n dX11_load_33 rfl ?_
        refine wp_icmp_ne (tgt := 43) dX11_load_34 (by decide) (fun hc_ => ?_) (fun hc_ => ?_)
        · replace h := ite_f hc_ h
          refine wp_aload_n dX11_load_43 rfl ?_
          obtain ⟨v13, e14, h⟩ := bnd h
          refine wp_getR (c := 11) (k := 6) dX11_load_44 e14 (by decide) (by decide) rfl fl_RX11_44 ?_
          obtain ⟨q15, e16, h⟩ := bnd h
          refine wp_callV (As := []) dX11_load_47 (sh_X4_keepAct_ok (d := d) e16) okX4_keepAct nnX4_keepAct vvX4_keepAct ml_RX11_310 rfl (Nat.le_of_ble_eq_true rfl) ?_
          refine wp_aload_n dX11_load_50 rfl ?_
          obtain ⟨v17, e18, h⟩ := bnd h
          refine wp_getR (c := 11) (k := 6) dX11_load_51 e18 (by decide) (by decide) rfl fl_RX11_44 ?_
          obtain ⟨v19, e20, h⟩ := bnd h
          refine wp_getR (c := 4) (k := 0) dX11_load_54 e20 (by decide) (by decide) rfl fl_RX11_96 ?_
          obtain ⟨v21, e22, h⟩ := bnd h
          refine wp_getR (c := 7) (k := 4) dX11_load_57 e22 (by decide) (by decide) rfl fl_RX11_168 ?_
          refine wp_iload_n dX11_load_60 rfl ?_
          obtain ⟨v23, e24, h⟩ := bnd h
          refine wp_iaload dX11_load_61 e24 ?_
          refine wp_istore_n dX11_load_62 (Nat.le_of_ble_eq_true rfl) ?_
          refine wp_aload_n dX11_load_63 rfl ?_
          obtain ⟨v25, e26, h⟩ := bnd h
          refine wp_getR (c := 11) (k := 6) dX11_load_64 e26 (by decide) (by decide) rfl fl_RX11_44 ?_
          obtain ⟨v27, e28, h⟩ := bnd h
          refine wp_getR (c := 4) (k := 0) dX11_load_67 e28 (by decide) (by decide) rfl fl_RX11_96 ?_
          obtain ⟨v29, e30, h⟩ := bnd h
          refine wp_getR (c := 7) (k := 4) dX11_load_70 e30 (by decide) (by decide) rfl fl_RX11_168 ?_
          refine wp_iload_n dX11_load_73 rfl ?_
          refine wp_iload_n dX11_load_74 rfl ?_
          obtain ⟨M31, e32, h⟩ := bnd h
          refine wp_iastore dX11_load_75 e32 ?_
          refine wp_iload_n dX11_load_76 rfl ?_
          cases h
          exact wp_iret dX11_load_77 rfl
        · replace h := ite_t hc_ h
          exact wp_ls (lsS (lsN (lsN (lsN lsZ)))) (X11_load_J37_ok h)

theorem sh_X11_load_ok {w : Gw} {d : Nat} {x0 : Nat} {x1 : Int32} {x2 : Int32} {M : Gm} {out : Int32 × Gm} (h : sh_X11_load x0 x1 x2 M = some out) : Ev w mdX11_load (d + 4) [.inr x0, .inl x1, .inl x2] M (.inl (some (.inl out.1))) out.2 := by
  obtain ⟨u, e0, h⟩ := bnd h
  exact ev_of okX11_load ⟨_, _, rfl, isO_of e0 (by decide), by decide⟩ (Nat.le_of_ble_eq_true rfl) (X11_load_F_ok h)

/-! HeatGovernor$Plan.hasDevice(I)Z -/
def X5_hasDevice_J17 (s0 : Int32) (M : Gm) : Option (Int32) :=
  (zck s0).bind fun z1 =>
  some z1
def X5_hasDevice_J16 (M : Gm) : Option (Int32) :=
  X5_hasDevice_J17 0 M
def X5_hasDevice_F (x0 : Nat) (x1 : Int32) (M : Gm) : Option (Int32) :=
  if x1 < 0 then
    X5_hasDevice_J16 M
  else
    (gfI M x0 5 7).bind fun v1 =>
    if v1 ≤ x1 then
      X5_hasDevice_J16 M
    else
      X5_hasDevice_J17 1 M
def sh_X5_hasDevice (x0 : Nat) (x1 : Int32) (M : Gm) : Option (Int32) := (isO M x0 5).bind fun _ => X5_hasDevice_F x0 x1 M
theorem X5_hasDevice_J17_ok {w : Gw} {d : Nat} {s0 : Int32} {M : Gm} {out : Int32} (h : X5_hasDevice_J17 s0 M = some out) : Wp w mdX5_hasDevice d 17 [none, none] [.inl s0] M (.inl (some (.inl out))) M := by
  unfold X5_hasDevice_J17 at h
  obtain ⟨z1, e2, h⟩ := bnd h
  obtain ⟨hz_, rfl⟩ := zck_of e2
  cases h
  exact wp_zret dX5_hasDevice_17 rfl hz_

theorem X5_hasDevice_J16_ok {w : Gw} {d : Nat} {M : Gm} {out : Int32} (h : X5_hasDevice_J16 M = some out) : Wp w mdX5_hasDevice d 16 [none, none] [] M (.inl (some (.inl out))) M := by
  unfold X5_hasDevice_J16 at h
  refine wp_iconst (v := 0) dX5_hasDevice_16 (by decide) ?_
  exact wp_ls (lsN (lsN lsZ)) (X5_hasDevice_J17_ok h)

theorem X5_hasDevice_F_ok {w : Gw} {d : Nat} {x0 : Nat} {x1 : Int32} {M : Gm} {out : Int32} (h : X5_hasDevice_F x0 x1 M = some out) : Wp w mdX5_hasDevice d 0 [some (.inr x0), some (.inl x1)] [] M (.inl (some (.inl out))) M := by
  unfold X5_hasDevice_F at h
  refine wp_iload_n dX5_hasDevice_0 rfl ?_
  refine wp_if_lt (tgt := 16) dX5_hasDevice_1 (by decide) (fun hc_ => ?_) (fun hc_ => ?_)
  · replace h := ite_t hc_ h
    exact wp_ls (lsN (lsN lsZ)) (X5_hasDevice_J16_ok h)
  · replace h := ite_f hc_ h
    refine wp_iload_n dX5_hasDevice_4 rfl ?_
    refine wp_aload_n dX5_hasDevice_5 rfl ?_
    obtain ⟨v1, e2, h⟩ := bnd h
    refine wp_getI (c := 5) (k := 7) dX5_hasDevice_6 e2 (by decide) (by decide) rfl fl_RX5_48 ?_
    refine wp_icmp_ge (tgt := 16) dX5_hasDevice_9 (by decide) (fun hc_ => ?_) (fun hc_ => ?_)
    · replace h := ite_t hc_ h
      exact wp_ls (lsN (lsN lsZ)) (X5_hasDevice_J16_ok h)
    · replace h := ite_f hc_ h
      refine wp_iconst (v := 1) dX5_hasDevice_12 (by decide) ?_
      refine wp_goto (tgt := 17) dX5_hasDevice_13 (by decide) ?_
      exact wp_ls (lsN (lsN lsZ)) (X5_hasDevice_J17_ok h)

theorem sh_X5_hasDevice_ok {w : Gw} {d : Nat} {x0 : Nat} {x1 : Int32} {M : Gm} {out : Int32} (h : sh_X5_hasDevice x0 x1 M = some out) : Ev w mdX5_hasDevice d [.inr x0, .inl x1] M (.inl (some (.inl out))) M := by
  obtain ⟨u, e0, h⟩ := bnd h
  exact ev_of okX5_hasDevice ⟨_, _, rfl, isO_of e0 (by decide), by decide⟩ (Nat.le_of_ble_eq_true rfl) (X5_hasDevice_F_ok h)

/-! HeatGovernor.hold(II)I -/
def X11_hold_J48 (x0 : Nat) (M : Gm) : Option (Int32 × Gm) :=
  (sh_X11_refuseAct x0 ((-2)) M).bind fun q1 =>
  some (q1.1, q1.2)
def X11_hold_F (x0 : Nat) (x1 : Int32) (x2 : Int32) (M : Gm) : Option (Int32 × Gm) :=
  (gfR M x0 11 4).bind fun v1 =>
  (sh_X5_hasDevice v1 x1 M).bind fun q3 =>
  if q3 = 0 then
    X11_hold_J48 x0 M
  else
    if x2 < ((-1)) then
      X11_hold_J48 x0 M
    else
      (gfR M x0 11 4).bind fun v5 =>
      (gfR M v5 5 2).bind fun v7 =>
      (ldR M 6 v7 x1).bind fun v9 =>
      (gfI M v9 2 2).bind fun v11 =>
      if v11 < x2 then
        X11_hold_J48 x0 M
      else
        (gfR M x0 11 6).bind fun v13 =>
        (gfR M v13 4 0).bind fun v15 =>
        (gfR M v15 7 13).bind fun v17 =>
        (ldA M 0 v17 x1).bind fun v19 =>
        if v19 = x2 then
          X11_hold_J48 x0 M
        else
          (gfR M x0 11 6).bind fun v21 =>
          (sh_X4_keepAct v21 M).bind fun q23 =>
          (gfR q23 x0 11 6).bind fun v25 =>
          (gfR q23 v25 4 0).bind fun v27 =>
          (gfR q23 v27 7 13).bind fun v29 =>
          (ldA q23 0 v29 x1).bind fun v31 =>
          (gfR q23 x0 11 6).bind fun v33 =>
          (gfR q23 v33 4 0).bind fun v35 =>
          (gfR q23 v35 7 13).bind fun v37 =>
          (stA q23 0 v37 x1 x2).bind fun M39 =>
          some (v31, M39)
def sh_X11_hold (x0 : Nat) (x1 : Int32) (x2 : Int32) (M : Gm) : Option (Int32 × Gm) := (isO M x0 11).bind fun _ => X11_hold_F x0 x1 x2 M
theorem X11_hold_J48_ok {w : Gw} {d : Nat} {x0 : Nat} {M : Gm} {out : Int32 × Gm} (h : X11_hold_J48 x0 M = some out) : Wp w mdX11_hold (d + 4) 48 [some (.inr x0), none, none, none] [] M (.inl (some (.inl out.1))) out.2 := by
  unfold X11_hold_J48 at h
  refine wp_aload_n dX11_hold_48 rfl ?_
  refine wp_bipush (v := (-2)) dX11_hold_49 (by decide) ?_
  obtain ⟨q1, e2, h⟩ := bnd h
  refine wp_callV (As := [.inl ((-2))]) dX11_hold_51 (sh_X11_refuseAct_ok (d := d + 3) e2) okX11_refuseAct nnX11_refuseAct vvX11_refuseAct ml_RX11_307 rfl (Nat.le_of_ble_eq_true rfl) ?_
  cases h
  exact wp_iret dX11_hold_54 rfl

theorem X11_hold_F_ok {w : Gw} {d : Nat} {x0 : Nat} {x1 : Int32} {x2 : Int32} {M : Gm} {out : Int32 × Gm} (h : X11_hold_F x0 x1 x2 M = some out) : Wp w mdX11_hold (d + 4) 0 [some (.inr x0), some (.inl x1), some (.inl x2), none] [] M (.inl (some (.inl out.1))) out.2 := by
  unfold X11_hold_F at h
  refine wp_aload_n dX11_hold_0 rfl ?_
  obtain ⟨v1, e2, h⟩ := bnd h
  refine wp_getR (c := 11) (k := 4) dX11_hold_1 e2 (by decide) (by decide) rfl fl_RX11_32 ?_
  refine wp_iload_n dX11_hold_4 rfl ?_
  obtain ⟨q3, e4, h⟩ := bnd h
  refine wp_callV (As := [.inl x1]) dX11_hold_5 (sh_X5_hasDevice_ok (d := d + 3) e4) okX5_hasDevice nnX5_hasDevice vvX5_hasDevice ml_RX11_320 rfl (Nat.le_of_ble_eq_true rfl) ?_
  refine wp_if_eq (tgt := 48) dX11_hold_8 (by decide) (fun hc_ => ?_) (fun hc_ => ?_)
  · replace h := ite_t hc_ h
    exact wp_ls (lsS (lsN (lsN (lsN lsZ)))) (X11_hold_J48_ok h)
  · replace h := ite_f hc_ h
    refine wp_iload_n dX11_hold_11 rfl ?_
    refine wp_iconst (v := (-1)) dX11_hold_12 (by decide) ?_
    refine wp_icmp_lt (tgt := 48) dX11_hold_13 (by decide) (fun hc_ => ?_) (fun hc_ => ?_)
    · replace h := ite_t hc_ h
      exact wp_ls (lsS (lsN (lsN (lsN lsZ)))) (X11_hold_J48_ok h)
    · replace h := ite_f hc_ h
      refine wp_iload_n dX11_hold_16 rfl ?_
      refine wp_aload_n dX11_hold_17 rfl ?_
      obtain ⟨v5, e6, h⟩ := bnd h
      refine wp_getR (c := 11) (k := 4) dX11_hold_18 e6 (by decide) (by decide) rfl fl_RX11_32 ?_
      obtain ⟨v7, e8, h⟩ := bnd h
      refine wp_getR (c := 5) (k := 2) dX11_hold_21 e8 (by decide) (by decide) rfl fl_RX11_239 ?_
      refine wp_iload_n dX11_hold_24 rfl ?_
      obtain ⟨v9, e10, h⟩ := bnd h
      refine wp_aaload (t := 6) dX11_hold_25 (by decide) rfl e10 ?_
      obtain ⟨v11, e12, h⟩ := bnd h
      refine wp_getI (c := 2) (k := 2) dX11_hold_26 e12 (by decide) (by decide) rfl fl_RX11_249 ?_
      refine wp_icmp_gt (tgt := 48) dX11_hold_29 (by decide) (fun hc_ => ?_) (fun hc_ => ?_)
      · replace h := ite_t hc_ h
        exact wp_ls (lsS (lsN (lsN (lsN lsZ)))) (X11_hold_J48_ok h)
      · replace h := ite_f hc_ h
        refine wp_aload_n dX11_hold_32 rfl ?_
        obtain ⟨v13, e14, h⟩ := bnd h
        refine wp_getR (c := 11) (k := 6) dX11_hold_33 e14 (by decide) (by decide) rfl fl_RX11_44 ?_
        obtain ⟨v15, e16, h⟩ := bnd h
        refine wp_getR (c := 4) (k := 0) dX11_hold_36 e16 (by decide) (by decide) rfl fl_RX11_96 ?_
        obtain ⟨v17, e18, h⟩ := bnd h
        refine wp_getR (c := 7) (k := 13) dX11_hold_39 e18 (by decide) (by decide) rfl fl_RX11_258 ?_
        refine wp_iload_n dX11_hold_42 rfl ?_
        obtain ⟨v19, e20, h⟩ := bnd h
        refine wp_iaload dX11_hold_43 e20 ?_
        refine wp_iload_n dX11_hold_44 rfl ?_
        refine wp_icmp_ne (tgt := 55) dX11_hold_45 (by decide) (fun hc_ => ?_) (fun hc_ => ?_)
        · replace h := ite_f hc_ h
          refine wp_aload_n dX11_hold_55 rfl ?_
          obtain ⟨v21, e22, h⟩ := bnd h
          refine wp_getR (c := 11) (k := 6) dX11_hold_56 e22 (by decide) (by decide) rfl fl_RX11_44 ?_
          obtain ⟨q23, e24, h⟩ := bnd h
          refine wp_callV (As := []) dX11_hold_59 (sh_X4_keepAct_ok (d := d) e24) okX4_keepAct nnX4_keepAct vvX4_keepAct ml_RX11_310 rfl (Nat.le_of_ble_eq_true rfl) ?_
          refine wp_aload_n dX11_hold_62 rfl ?_
          obtain ⟨v25, e26, h⟩ := bnd h
          refine wp_getR (c := 11) (k := 6) dX11_hold_63 e26 (by decide) (by decide) rfl fl_RX11_44 ?_
          obtain ⟨v27, e28, h⟩ := bnd h
          refine wp_getR (c := 4) (k := 0) dX11_hold_66 e28 (by decide) (by decide) rfl fl_RX11_96 ?_
          obtain ⟨v29, e30, h⟩ := bnd h
          refine wp_getR (c := 7) (k := 13) dX11_hold_69 e30 (by decide) (by decide) rfl fl_RX11_258 ?_
          refine wp_iload_n dX11_hold_72 rfl ?_
          obtain ⟨v31, e32, h⟩ := bnd h
          refine wp_iaload dX11_hold_73 e32 ?_
          refine wp_istore_n dX11_hold_74 (Nat.le_of_ble_eq_true rfl) ?_
          refine wp_aload_n dX11_hold_75 rfl ?_
          obtain ⟨v33, e34, h⟩ := bnd h
          refine wp_getR (c := 11) (k := 6) dX11_hold_76 e34 (by decide) (by decide) rfl fl_RX11_44 ?_
          obtain ⟨v35, e36, h⟩ := bnd h
          refine wp_getR (c := 4) (k := 0) dX11_hold_79 e36 (by decide) (by decide) rfl fl_RX11_96 ?_
          obtain ⟨v37, e38, h⟩ := bnd h
          refine wp_getR (c := 7) (k := 13) dX11_hold_82 e38 (by decide) (by decide) rfl fl_RX11_258 ?_
          refine wp_iload_n dX11_hold_85 rfl ?_
          refine wp_iload_n dX11_hold_86 rfl ?_
          obtain ⟨M39, e40, h⟩ := bnd h
          refine wp_iastore dX11_hold_87 e40 ?_
          refine wp_iload_n dX11_hold_88 rfl ?_
          cases h
          exact wp_iret dX11_hold_89 rfl
        · replace h := ite_t hc_ h
          exact wp_ls (lsS (lsN (lsN (lsN lsZ)))) (X11_hold_J48_ok h)

theorem sh_X11_hold_ok {w : Gw} {d : Nat} {x0 : Nat} {x1 : Int32} {x2 : Int32} {M : Gm} {out : Int32 × Gm} (h : sh_X11_hold x0 x1 x2 M = some out) : Ev w mdX11_hold (d + 4) [.inr x0, .inl x1, .inl x2] M (.inl (some (.inl out.1))) out.2 := by
  obtain ⟨u, e0, h⟩ := bnd h
  exact ev_of okX11_hold ⟨_, _, rfl, isO_of e0 (by decide), by decide⟩ (Nat.le_of_ble_eq_true rfl) (X11_hold_F_ok h)

/-! HeatGovernor$Plan.criticalOf(I)I -/
def X5_criticalOf_J38 (x0 : Nat) (x1 : Int32) (x2 : Int32) (M : Gm) : Option (Int32 ⊕ Unit ⊕ Int32) :=
  some (.inl (x2 + 1))
def X5_criticalOf_B2 (x0 : Nat) (x1 : Int32) (M : Gm) (q : Int32) : Option (Int32 ⊕ Unit ⊕ Int32) :=
  (gfI M x0 5 6).bind fun v1 =>
  if v1 ≤ q then
    some (.inr (.inl ()))
  else
    (gfR M x0 5 1).bind fun v3 =>
    (ldR M 5 v3 q).bind fun v5 =>
    (gfI M v5 8 0).bind fun v7 =>
    if v7 = x1 then
      (gfR M x0 5 1).bind fun v9 =>
      (ldR M 5 v9 q).bind fun v11 =>
      (gfI M v11 8 1).bind fun v13 =>
      if v13 = 3 then
        some (.inr (.inr q))
      else
        X5_criticalOf_J38 x0 x1 q M
    else
      X5_criticalOf_J38 x0 x1 q M
def X5_criticalOf_F (x0 : Nat) (x1 : Int32) (M : Gm) : Option (Int32) :=
  (lp (X5_criticalOf_B2 x0 x1 M) FU 0).bind fun r1 =>
  Sum.elim (fun u3 =>
    some ((-1))) (fun u4 =>
    some u4) r1
def sh_X5_criticalOf (x0 : Nat) (x1 : Int32) (M : Gm) : Option (Int32) := (isO M x0 5).bind fun _ => X5_criticalOf_F x0 x1 M
theorem X5_criticalOf_J38_ok {w : Gw} {d : Nat} {x0 : Nat} {x1 : Int32} {x2 : Int32} {M : Gm} {o : Go} {M' : Gm} {out : Int32 ⊕ Unit ⊕ Int32} (h : X5_criticalOf_J38 x0 x1 x2 M = some out) (hc : ∀ t : Int32, out = .inl t → Wp w mdX5_criticalOf d 2 [some (.inr x0), some (.inl x1), some (.inl t)] [] M o M') (he0 : ∀ t : Unit, out = .inr (.inl t) → Wp w mdX5_criticalOf d 44 [none, none, none] [] M o M') (he1 : ∀ t : Int32, out = .inr (.inr t) → Wp w mdX5_criticalOf d 36 [none, none, some (.inl t)] [] M o M') : Wp w mdX5_criticalOf d 38 [some (.inr x0), some (.inl x1), some (.inl x2)] [] M o M' := by
  unfold X5_criticalOf_J38 at h
  refine wp_iinc (v := x2 + 1) dX5_criticalOf_38 rfl rfl ?_
  refine wp_goto (tgt := 2) dX5_criticalOf_41 (by decide) ?_
  cases h
  exact wp_ls (lsS (lsS (lsS lsZ))) (hc (x2 + 1) rfl)

theorem X5_criticalOf_B2_ok {w : Gw} {d : Nat} {x0 : Nat} {x1 : Int32} {M : Gm} {q : Int32} {o : Go} {M' : Gm} {out : Int32 ⊕ Unit ⊕ Int32} (h : X5_criticalOf_B2 x0 x1 M q = some out) (hc : ∀ t : Int32, out = .inl t → Wp w mdX5_criticalOf d 2 [some (.inr x0), some (.inl x1), some (.inl t)] [] M o M') (he0 : ∀ t : Unit, out = .inr (.inl t) → Wp w mdX5_criticalOf d 44 [none, none, none] [] M o M') (he1 : ∀ t : Int32, out = .inr (.inr t) → Wp w mdX5_criticalOf d 36 [none, none, some (.inl t)] [] M o M') : Wp w mdX5_criticalOf d 2 [some (.inr x0), some (.inl x1), some (.inl q)] [] M o M' := by
  unfold X5_criticalOf_B2 at h
  refine wp_iload_n dX5_criticalOf_2 rfl ?_
  refine wp_aload_n dX5_criticalOf_3 rfl ?_
  obtain ⟨v1, e2, h⟩ := bnd h
  refine wp_getI (c := 5) (k := 6) dX5_criticalOf_4 e2 (by decide) (by decide) rfl fl_RX5_45 ?_
  refine wp_icmp_ge (tgt := 44) dX5_criticalOf_7 (by decide) (fun hc_ => ?_) (fun hc_ => ?_)
  · replace h := ite_t hc_ h
    cases h
    exact wp_ls (lsN (lsN (lsN lsZ))) (he0 () rfl)
  · replace h := ite_f hc_ h
    refine wp_aload_n dX5_criticalOf_10 rfl ?_
    obtain ⟨v3, e4, h⟩ := bnd h
    refine wp_getR (c := 5) (k := 1) dX5_criticalOf_11 e4 (by decide) (by decide) rfl fl_RX5_19 ?_
    refine wp_iload_n dX5_criticalOf_14 rfl ?_
    obtain ⟨v5, e6, h⟩ := bnd h
    refine wp_aaload (t := 5) dX5_criticalOf_15 (by decide) rfl e6 ?_
    obtain ⟨v7, e8, h⟩ := bnd h
    refine wp_getI (c := 8) (k := 0) dX5_criticalOf_16 e8 (by decide) (by decide) rfl fl_RX5_69 ?_
    refine wp_iload_n dX5_criticalOf_19 rfl ?_
    refine wp_icmp_ne (tgt := 38) dX5_criticalOf_20 (by decide) (fun hc_ => ?_) (fun hc_ => ?_)
    · replace h := ite_f hc_ h
      exact wp_ls (lsS (lsS (lsS lsZ))) (X5_criticalOf_J38_ok h hc he0 he1)
    · replace h := ite_t hc_ h
      refine wp_aload_n dX5_criticalOf_23 rfl ?_
      obtain ⟨v9, e10, h⟩ := bnd h
      refine wp_getR (c := 5) (k := 1) dX5_criticalOf_24 e10 (by decide) (by decide) rfl fl_RX5_19 ?_
      refine wp_iload_n dX5_criticalOf_27 rfl ?_
      obtain ⟨v11, e12, h⟩ := bnd h
      refine wp_aaload (t := 5) dX5_criticalOf_28 (by decide) rfl e12 ?_
      obtain ⟨v13, e14, h⟩ := bnd h
      refine wp_getI (c := 8) (k := 1) dX5_criticalOf_29 e14 (by decide) (by decide) rfl fl_RX5_72 ?_
      refine wp_iconst (v := 3) dX5_criticalOf_32 (by decide) ?_
      refine wp_icmp_ne (tgt := 38) dX5_criticalOf_33 (by decide) (fun hc_ => ?_) (fun hc_ => ?_)
      · replace h := ite_f hc_ h
        exact wp_ls (lsS (lsS (lsS lsZ))) (X5_criticalOf_J38_ok h hc he0 he1)
      · replace h := ite_t hc_ h
        cases h
        exact wp_ls (lsN (lsN (lsS lsZ))) (he1 q rfl)

theorem X5_criticalOf_B2_lp {w : Gw} {d : Nat} {x0 : Nat} {x1 : Int32} {M : Gm} {o : Go} {M' : Gm} {r : Unit ⊕ Int32} : ∀ (n : Nat) (q : Int32), lp (X5_criticalOf_B2 x0 x1 M) n q = some r → (∀ t : Unit, r = (.inl t) → Wp w mdX5_criticalOf d 44 [none, none, none] [] M o M') → (∀ t : Int32, r = (.inr t) → Wp w mdX5_criticalOf d 36 [none, none, some (.inl t)] [] M o M') → Wp w mdX5_criticalOf d 2 [some (.inr x0), some (.inl x1), some (.inl q)] [] M o M' := by
  intro n
  induction n with
  | zero => intro q h; cases h
  | succ n ih =>
    intro q h he0 he1
    cases hb : X5_criticalOf_B2 x0 x1 M q with
    | none => rw [lp_succ, hb] at h; cases h
    | some out =>
      rw [lp_succ, hb] at h
      exact X5_criticalOf_B2_ok hb (fun t e => ih t (by rw [e] at h; exact h) he0 he1) (fun t e => he0 t (by rw [e] at h; cases h; rfl)) (fun t e => he1 t (by rw [e] at h; cases h; rfl))
theorem X5_criticalOf_F_ok {w : Gw} {d : Nat} {x0 : Nat} {x1 : Int32} {M : Gm} {out : Int32} (h : X5_criticalOf_F x0 x1 M = some out) : Wp w mdX5_criticalOf d 0 [some (.inr x0), some (.inl x1), none] [] M (.inl (some (.inl out))) M := by
  unfold X5_criticalOf_F at h
  refine wp_iconst (v := 0) dX5_criticalOf_0 (by decide) ?_
  refine wp_istore_n dX5_criticalOf_1 (Nat.le_of_ble_eq_true rfl) ?_
  obtain ⟨r1, e2, h⟩ := bnd h
  refine wp_ls (lsS (lsS (lsS lsZ))) (X5_criticalOf_B2_lp FU _ e2 ?_ ?_)
  · intro y3 ht_; subst ht_
    replace h := elim_l h
    refine wp_iconst (v := (-1)) dX5_criticalOf_44 (by decide) ?_
    cases h
    exact wp_iret dX5_criticalOf_45 rfl
  · intro y4 ht_; subst ht_
    replace h := elim_r h
    refine wp_iload_n dX5_criticalOf_36 rfl ?_
    cases h
    exact wp_iret dX5_criticalOf_37 rfl

theorem sh_X5_criticalOf_ok {w : Gw} {d : Nat} {x0 : Nat} {x1 : Int32} {M : Gm} {out : Int32} (h : sh_X5_criticalOf x0 x1 M = some out) : Ev w mdX5_criticalOf d [.inr x0, .inl x1] M (.inl (some (.inl out))) M := by
  obtain ⟨u, e0, h⟩ := bnd h
  exact ev_of okX5_criticalOf ⟨_, _, rfl, isO_of e0 (by decide), by decide⟩ (Nat.le_of_ble_eq_true rfl) (X5_criticalOf_F_ok h)

/-! HeatGovernor$State.isCriticalOn(I)Z -/
def X7_isCriticalOn_J29 (s0 : Int32) (M : Gm) : Option (Int32) :=
  (zck s0).bind fun z1 =>
  some z1
def X7_isCriticalOn_J28 (M : Gm) : Option (Int32) :=
  X7_isCriticalOn_J29 0 M
def X7_isCriticalOn_F (x0 : Nat) (x1 : Int32) (M : Gm) : Option (Int32) :=
  (gfR M x0 7 0).bind fun v1 =>
  (sh_X5_criticalOf v1 x1 M).bind fun q3 =>
  if q3 = ((-1)) then
    X7_isCriticalOn_J28 M
  else
    (gfR M x0 7 10).bind fun v5 =>
    (ldA M 0 v5 q3).bind fun v7 =>
    if v7 = 1 then
      X7_isCriticalOn_J29 1 M
    else
      X7_isCriticalOn_J28 M
def sh_X7_isCriticalOn (x0 : Nat) (x1 : Int32) (M : Gm) : Option (Int32) := (isO M x0 7).bind fun _ => X7_isCriticalOn_F x0 x1 M
theorem X7_isCriticalOn_J29_ok {w : Gw} {d : Nat} {s0 : Int32} {M : Gm} {out : Int32} (h : X7_isCriticalOn_J29 s0 M = some out) : Wp w mdX7_isCriticalOn (d + 1) 29 [none, none, none] [.inl s0] M (.inl (some (.inl out))) M := by
  unfold X7_isCriticalOn_J29 at h
  obtain ⟨z1, e2, h⟩ := bnd h
  obtain ⟨hz_, rfl⟩ := zck_of e2
  cases h
  exact wp_zret dX7_isCriticalOn_29 rfl hz_

theorem X7_isCriticalOn_J28_ok {w : Gw} {d : Nat} {M : Gm} {out : Int32} (h : X7_isCriticalOn_J28 M = some out) : Wp w mdX7_isCriticalOn (d + 1) 28 [none, none, none] [] M (.inl (some (.inl out))) M := by
  unfold X7_isCriticalOn_J28 at h
  refine wp_iconst (v := 0) dX7_isCriticalOn_28 (by decide) ?_
  exact wp_ls (lsN (lsN (lsN lsZ))) (X7_isCriticalOn_J29_ok h)

theorem X7_isCriticalOn_F_ok {w : Gw} {d : Nat} {x0 : Nat} {x1 : Int32} {M : Gm} {out : Int32} (h : X7_isCriticalOn_F x0 x1 M = some out) : Wp w mdX7_isCriticalOn (d + 1) 0 [some (.inr x0), some (.inl x1), none] [] M (.inl (some (.inl out))) M := by
  unfold X7_isCriticalOn_F at h
  refine wp_aload_n dX7_isCriticalOn_0 rfl ?_
  obtain ⟨v1, e2, h⟩ := bnd h
  refine wp_getR (c := 7) (k := 0) dX7_isCriticalOn_1 e2 (by decide) (by decide) rfl fl_RX7_70 ?_
  refine wp_iload_n dX7_isCriticalOn_4 rfl ?_
  obtain ⟨q3, e4, h⟩ := bnd h
  refine wp_callV (As := [.inl x1]) dX7_isCriticalOn_5 (sh_X5_criticalOf_ok (d := d) e4) okX5_criticalOf nnX5_criticalOf vvX5_criticalOf ml_RX7_130 rfl (Nat.le_of_ble_eq_true rfl) ?_
  refine wp_istore_n dX7_isCriticalOn_8 (Nat.le_of_ble_eq_true rfl) ?_
  refine wp_iload_n dX7_isCriticalOn_9 rfl ?_
  refine wp_iconst (v := (-1)) dX7_isCriticalOn_10 (by decide) ?_
  refine wp_icmp_eq (tgt := 28) dX7_isCriticalOn_11 (by decide) (fun hc_ => ?_) (fun hc_ => ?_)
  · replace h := ite_t hc_ h
    exact wp_ls (lsN (lsN (lsN lsZ))) (X7_isCriticalOn_J28_ok h)
  · replace h := ite_f hc_ h
    refine wp_aload_n dX7_isCriticalOn_14 rfl ?_
    obtain ⟨v5, e6, h⟩ := bnd h
    refine wp_getR (c := 7) (k := 10) dX7_isCriticalOn_15 e6 (by decide) (by decide) rfl fl_RX7_40 ?_
    refine wp_iload_n dX7_isCriticalOn_18 rfl ?_
    obtain ⟨v7, e8, h⟩ := bnd h
    refine wp_iaload dX7_isCriticalOn_19 e8 ?_
    refine wp_iconst (v := 1) dX7_isCriticalOn_20 (by decide) ?_
    refine wp_icmp_ne (tgt := 28) dX7_isCriticalOn_21 (by decide) (fun hc_ => ?_) (fun hc_ => ?_)
    · replace h := ite_f hc_ h
      exact wp_ls (lsN (lsN (lsN lsZ))) (X7_isCriticalOn_J28_ok h)
    · replace h := ite_t hc_ h
      refine wp_iconst (v := 1) dX7_isCriticalOn_24 (by decide) ?_
      refine wp_goto (tgt := 29) dX7_isCriticalOn_25 (by decide) ?_
      exact wp_ls (lsN (lsN (lsN lsZ))) (X7_isCriticalOn_J29_ok h)

theorem sh_X7_isCriticalOn_ok {w : Gw} {d : Nat} {x0 : Nat} {x1 : Int32} {M : Gm} {out : Int32} (h : sh_X7_isCriticalOn x0 x1 M = some out) : Ev w mdX7_isCriticalOn (d + 1) [.inr x0, .inl x1] M (.inl (some (.inl out))) M := by
  obtain ⟨u, e0, h⟩ := bnd h
  exact ev_of okX7_isCriticalOn ⟨_, _, rfl, isO_of e0 (by decide), by decide⟩ (Nat.le_of_ble_eq_true rfl) (X7_isCriticalOn_F_ok h)

/-! HeatGovernor.start(I)I -/
def X11_start_J39 (x0 : Nat) (M : Gm) : Option (Int32 × Gm) :=
  (sh_X11_refuseAct x0 ((-1)) M).bind fun q1 =>
  some (q1.1, q1.2)
def X11_start_F (x0 : Nat) (x1 : Int32) (M : Gm) : Option (Int32 × Gm) :=
  (gfR M x0 11 4).bind fun v1 =>
  (sh_X5_hasZone v1 x1 M).bind fun q3 =>
  if q3 = 0 then
    X11_start_J39 x0 M
  else
    (gfR M x0 11 6).bind fun v5 =>
    (gfR M v5 4 0).bind fun v7 =>
    (sh_X7_isShut v7 x1 M).bind fun q9 =>
    if q9 = 0 then
      X11_start_J39 x0 M
    else
      (gfR M x0 11 6).bind fun v11 =>
      (gfR M v11 4 0).bind fun v13 =>
      (sh_X7_isCriticalOn v13 x1 M).bind fun q15 =>
      if q15 = 0 then
        (gfR M x0 11 6).bind fun v17 =>
        (sh_X4_keepAct v17 M).bind fun q19 =>
        (gfR q19 x0 11 6).bind fun v21 =>
        (gfR q19 v21 4 0).bind fun v23 =>
        (gfR q19 v23 7 8).bind fun v25 =>
        (stA q19 0 v25 x1 0).bind fun M27 =>
        (gfR M27 x0 11 6).bind fun v29 =>
        (gfR M27 v29 4 0).bind fun v31 =>
        (sh_X7_addLogRow v31 5 x1 ((-1)) M27).bind fun q33 =>
        (gfR q33 x0 11 6).bind fun v35 =>
        (gfR q33 v35 4 0).bind fun v37 =>
        (gfR q33 v37 7 6).bind fun v39 =>
        (ldA q33 0 v39 x1).bind fun v41 =>
        some (v41, q33)
      else
        X11_start_J39 x0 M
def sh_X11_start (x0 : Nat) (x1 : Int32) (M : Gm) : Option (Int32 × Gm) := (isO M x0 11).bind fun _ => X11_start_F x0 x1 M
theorem X11_start_J39_ok {w : Gw} {d : Nat} {x0 : Nat} {M : Gm} {out : Int32 × Gm} (h : X11_start_J39 x0 M = some out) : Wp w mdX11_start (d + 4) 39 [some (.inr x0), none] [] M (.inl (some (.inl out.1))) out.2 := by
  unfold X11_start_J39 at h
  refine wp_aload_n dX11_start_39 rfl ?_
  refine wp_iconst (v := (-1)) dX11_start_40 (by decide) ?_
  obtain ⟨q1, e2, h⟩ := bnd h
  refine wp_callV (As := [.inl ((-1))]) dX11_start_41 (sh_X11_refuseAct_ok (d := d + 3) e2) okX11_refuseAct nnX11_refuseAct vvX11_refuseAct ml_RX11_307 rfl (Nat.le_of_ble_eq_true rfl) ?_
  cases h
  exact wp_iret dX11_start_44 rfl

theorem X11_start_F_ok {w : Gw} {d : Nat} {x0 : Nat} {x1 : Int32} {M : Gm} {out : Int32 × Gm} (h : X11_start_F x0 x1 M = some out) : Wp w mdX11_start (d + 4) 0 [some (.inr x0), some (.inl x1)] [] M (.inl (some (.inl out.1))) out.2 := by
  unfold X11_start_F at h
  refine wp_aload_n dX11_start_0 rfl ?_
  obtain ⟨v1, e2, h⟩ := bnd h
  refine wp_getR (c := 11) (k := 4) dX11_start_1 e2 (by decide) (by decide) rfl fl_RX11_32 ?_
  refine wp_iload_n dX11_start_4 rfl ?_
  obtain ⟨q3, e4, h⟩ := bnd h
  refine wp_callV (As := [.inl x1]) dX11_start_5 (sh_X5_hasZone_ok (d := d + 3) e4) okX5_hasZone nnX5_hasZone vvX5_hasZone ml_RX11_317 rfl (Nat.le_of_ble_eq_true rfl) ?_
  refine wp_if_eq (tgt := 39) dX11_start_8 (by decide) (fun hc_ => ?_) (fun hc_ => ?_)
  · replace h := ite_t hc_ h
    exact wp_ls (lsS (lsN lsZ)) (X11_start_J39_ok h)
  · replace h := ite_f hc_ h
    refine wp_aload_n dX11_start_11 rfl ?_
    obtain ⟨v5, e6, h⟩ := bnd h
    refine wp_getR (c := 11) (k := 6) dX11_start_12 e6 (by decide) (by decide) rfl fl_RX11_44 ?_
    obtain ⟨v7, e8, h⟩ := bnd h
    refine wp_getR (c := 4) (k := 0) dX11_start_15 e8 (by decide) (by decide) rfl fl_RX11_96 ?_
    refine wp_iload_n dX11_start_18 rfl ?_
    obtain ⟨q9, e10, h⟩ := bnd h
    refine wp_callV (As := [.inl x1]) dX11_start_19 (sh_X7_isShut_ok (d := d + 3) e10) okX7_isShut nnX7_isShut vvX7_isShut ml_RX11_186 rfl (Nat.le_of_ble_eq_true rfl) ?_
    refine wp_if_eq (tgt := 39) dX11_start_22 (by decide) (fun hc_ => ?_) (fun hc_ => ?_)
    · replace h := ite_t hc_ h
      exact wp_ls (lsS (lsN lsZ)) (X11_start_J39_ok h)
    · replace h := ite_f hc_ h
      refine wp_aload_n dX11_start_25 rfl ?_
      obtain ⟨v11, e12, h⟩ := bnd h
      refine wp_getR (c := 11) (k := 6) dX11_start_26 e12 (by decide) (by decide) rfl fl_RX11_44 ?_
      obtain ⟨v13, e14, h⟩ := bnd h
      refine wp_getR (c := 4) (k := 0) dX11_start_29 e14 (by decide) (by decide) rfl fl_RX11_96 ?_
      refine wp_iload_n dX11_start_32 rfl ?_
      obtain ⟨q15, e16, h⟩ := bnd h
      refine wp_callV (As := [.inl x1]) dX11_start_33 (sh_X7_isCriticalOn_ok (d := d + 2) e16) okX7_isCriticalOn nnX7_isCriticalOn vvX7_isCriticalOn ml_RX11_323 rfl (Nat.le_of_ble_eq_true rfl) ?_
      refine wp_if_eq (tgt := 45) dX11_start_36 (by decide) (fun hc_ => ?_) (fun hc_ => ?_)
      · replace h := ite_t hc_ h
        refine wp_aload_n dX11_start_45 rfl ?_
        obtain ⟨v17, e18, h⟩ := bnd h
        refine wp_getR (c := 11) (k := 6) dX11_start_46 e18 (by decide) (by decide) rfl fl_RX11_44 ?_
        obtain ⟨q19, e20, h⟩ := bnd h
        refine wp_callV (As := []) dX11_start_49 (sh_X4_keepAct_ok (d := d) e20) okX4_keepAct nnX4_keepAct vvX4_keepAct ml_RX11_310 rfl (Nat.le_of_ble_eq_true rfl) ?_
        refine wp_aload_n dX11_start_52 rfl ?_
        obtain ⟨v21, e22, h⟩ := bnd h
        refine wp_getR (c := 11) (k := 6) dX11_start_53 e22 (by decide) (by decide) rfl fl_RX11_44 ?_
        obtain ⟨v23, e24, h⟩ := bnd h
        refine wp_getR (c := 4) (k := 0) dX11_start_56 e24 (by decide) (by decide) rfl fl_RX11_96 ?_
        obtain ⟨v25, e26, h⟩ := bnd h
        refine wp_getR (c := 7) (k := 8) dX11_start_59 e26 (by decide) (by decide) rfl fl_RX11_190 ?_
        refine wp_iload_n dX11_start_62 rfl ?_
        refine wp_iconst (v := 0) dX11_start_63 (by decide) ?_
        obtain ⟨M27, e28, h⟩ := bnd h
        refine wp_iastore dX11_start_64 e28 ?_
        refine wp_aload_n dX11_start_65 rfl ?_
        obtain ⟨v29, e30, h⟩ := bnd h
        refine wp_getR (c := 11) (k := 6) dX11_start_66 e30 (by decide) (by decide) rfl fl_RX11_44 ?_
        obtain ⟨v31, e32, h⟩ := bnd h
        refine wp_getR (c := 4) (k := 0) dX11_start_69 e32 (by decide) (by decide) rfl fl_RX11_96 ?_
        refine wp_iconst (v := 5) dX11_start_72 (by decide) ?_
        refine wp_iload_n dX11_start_73 rfl ?_
        refine wp_iconst (v := (-1)) dX11_start_74 (by decide) ?_
        obtain ⟨q33, e34, h⟩ := bnd h
        refine wp_callV (As := [.inl 5, .inl x1, .inl ((-1))]) dX11_start_75 (sh_X7_addLogRow_ok (d := d + 2) e34) okX7_addLogRow nnX7_addLogRow vvX7_addLogRow ml_RX11_326 rfl (Nat.le_of_ble_eq_true rfl) ?_
        refine wp_aload_n dX11_start_78 rfl ?_
        obtain ⟨v35, e36, h⟩ := bnd h
        refine wp_getR (c := 11) (k := 6) dX11_start_79 e36 (by decide) (by decide) rfl fl_RX11_44 ?_
        obtain ⟨v37, e38, h⟩ := bnd h
        refine wp_getR (c := 4) (k := 0) dX11_start_82 e38 (by decide) (by decide) rfl fl_RX11_96 ?_
        obtain ⟨v39, e40, h⟩ := bnd h
        refine wp_getR (c := 7) (k := 6) dX11_start_85 e40 (by decide) (by decide) rfl fl_RX11_162 ?_
        refine wp_iload_n dX11_start_88 rfl ?_
        obtain ⟨v41, e42, h⟩ := bnd h
        refine wp_iaload dX11_start_89 e42 ?_
        cases h
        exact wp_iret dX11_start_90 rfl
      · replace h := ite_f hc_ h
        exact wp_ls (lsS (lsN lsZ)) (X11_start_J39_ok h)

theorem sh_X11_start_ok {w : Gw} {d : Nat} {x0 : Nat} {x1 : Int32} {M : Gm} {out : Int32 × Gm} (h : sh_X11_start x0 x1 M = some out) : Ev w mdX11_start (d + 4) [.inr x0, .inl x1] M (.inl (some (.inl out.1))) out.2 := by
  obtain ⟨u, e0, h⟩ := bnd h
  exact ev_of okX11_start ⟨_, _, rfl, isO_of e0 (by decide), by decide⟩ (Nat.le_of_ble_eq_true rfl) (X11_start_F_ok h)

/-! HeatGovernor.foresee(I)I -/
def X11_foresee_J24 (x0 : Nat) (M : Gm) : Option (Int32 × Gm) :=
  (sh_X11_refuseAct x0 ((-1)) M).bind fun q1 =>
  some (q1.1, q1.2)
def X11_foresee_F (x0 : Nat) (x1 : Int32) (M : Gm) : Option (Int32 × Gm) :=
  if x1 < 0 then
    X11_foresee_J24 x0 M
  else
    if 9 < x1 then
      X11_foresee_J24 x0 M
    else
      (gfR M x0 11 6).bind fun v1 =>
      (gfR M v1 4 0).bind fun v3 =>
      (gfI M v3 7 2).bind fun v5 =>
      if v5 = x1 then
        X11_foresee_J24 x0 M
      else
        (gfR M x0 11 6).bind fun v7 =>
        (sh_X4_keepAct v7 M).bind fun q9 =>
        (gfR q9 x0 11 6).bind fun v11 =>
        (gfR q9 v11 4 0).bind fun v13 =>
        (gfI q9 v13 7 2).bind fun v15 =>
        (gfR q9 x0 11 6).bind fun v17 =>
        (gfR q9 v17 4 0).bind fun v19 =>
        (pfI q9 v19 7 2 x1).bind fun M21 =>
        some (v15, M21)
def sh_X11_foresee (x0 : Nat) (x1 : Int32) (M : Gm) : Option (Int32 × Gm) := (isO M x0 11).bind fun _ => X11_foresee_F x0 x1 M
theorem X11_foresee_J24_ok {w : Gw} {d : Nat} {x0 : Nat} {M : Gm} {out : Int32 × Gm} (h : X11_foresee_J24 x0 M = some out) : Wp w mdX11_foresee (d + 4) 24 [some (.inr x0), none, none] [] M (.inl (some (.inl out.1))) out.2 := by
  unfold X11_foresee_J24 at h
  refine wp_aload_n dX11_foresee_24 rfl ?_
  refine wp_iconst (v := (-1)) dX11_foresee_25 (by decide) ?_
  obtain ⟨q1, e2, h⟩ := bnd h
  refine wp_callV (As := [.inl ((-1))]) dX11_foresee_26 (sh_X11_refuseAct_ok (d := d + 3) e2) okX11_refuseAct nnX11_refuseAct vvX11_refuseAct ml_RX11_307 rfl (Nat.le_of_ble_eq_true rfl) ?_
  cases h
  exact wp_iret dX11_foresee_29 rfl

theorem X11_foresee_F_ok {w : Gw} {d : Nat} {x0 : Nat} {x1 : Int32} {M : Gm} {out : Int32 × Gm} (h : X11_foresee_F x0 x1 M = some out) : Wp w mdX11_foresee (d + 4) 0 [some (.inr x0), some (.inl x1), none] [] M (.inl (some (.inl out.1))) out.2 := by
  unfold X11_foresee_F at h
  refine wp_iload_n dX11_foresee_0 rfl ?_
  refine wp_if_lt (tgt := 24) dX11_foresee_1 (by decide) (fun hc_ => ?_) (fun hc_ => ?_)
  · replace h := ite_t hc_ h
    exact wp_ls (lsS (lsN (lsN lsZ))) (X11_foresee_J24_ok h)
  · replace h := ite_f hc_ h
    refine wp_iload_n dX11_foresee_4 rfl ?_
    refine wp_bipush (v := 9) dX11_foresee_5 (by decide) ?_
    refine wp_icmp_gt (tgt := 24) dX11_foresee_7 (by decide) (fun hc_ => ?_) (fun hc_ => ?_)
    · replace h := ite_t hc_ h
      exact wp_ls (lsS (lsN (lsN lsZ))) (X11_foresee_J24_ok h)
    · replace h := ite_f hc_ h
      refine wp_aload_n dX11_foresee_10 rfl ?_
      obtain ⟨v1, e2, h⟩ := bnd h
      refine wp_getR (c := 11) (k := 6) dX11_foresee_11 e2 (by decide) (by decide) rfl fl_RX11_44 ?_
      obtain ⟨v3, e4, h⟩ := bnd h
      refine wp_getR (c := 4) (k := 0) dX11_foresee_14 e4 (by decide) (by decide) rfl fl_RX11_96 ?_
      obtain ⟨v5, e6, h⟩ := bnd h
      refine wp_getI (c := 7) (k := 2) dX11_foresee_17 e6 (by decide) (by decide) rfl fl_RX11_120 ?_
      refine wp_iload_n dX11_foresee_20 rfl ?_
      refine wp_icmp_ne (tgt := 30) dX11_foresee_21 (by decide) (fun hc_ => ?_) (fun hc_ => ?_)
      · replace h := ite_f hc_ h
        refine wp_aload_n dX11_foresee_30 rfl ?_
        obtain ⟨v7, e8, h⟩ := bnd h
        refine wp_getR (c := 11) (k := 6) dX11_foresee_31 e8 (by decide) (by decide) rfl fl_RX11_44 ?_
        obtain ⟨q9, e10, h⟩ := bnd h
        refine wp_callV (As := []) dX11_foresee_34 (sh_X4_keepAct_ok (d := d) e10) okX4_keepAct nnX4_keepAct vvX4_keepAct ml_RX11_310 rfl (Nat.le_of_ble_eq_true rfl) ?_
        refine wp_aload_n dX11_foresee_37 rfl ?_
        obtain ⟨v11, e12, h⟩ := bnd h
        refine wp_getR (c := 11) (k := 6) dX11_foresee_38 e12 (by decide) (by decide) rfl fl_RX11_44 ?_
        obtain ⟨v13, e14, h⟩ := bnd h
        refine wp_getR (c := 4) (k := 0) dX11_foresee_41 e14 (by decide) (by decide) rfl fl_RX11_96 ?_
        obtain ⟨v15, e16, h⟩ := bnd h
        refine wp_getI (c := 7) (k := 2) dX11_foresee_44 e16 (by decide) (by decide) rfl fl_RX11_120 ?_
        refine wp_istore_n dX11_foresee_47 (Nat.le_of_ble_eq_true rfl) ?_
        refine wp_aload_n dX11_foresee_48 rfl ?_
        obtain ⟨v17, e18, h⟩ := bnd h
        refine wp_getR (c := 11) (k := 6) dX11_foresee_49 e18 (by decide) (by decide) rfl fl_RX11_44 ?_
        obtain ⟨v19, e20, h⟩ := bnd h
        refine wp_getR (c := 4) (k := 0) dX11_foresee_52 e20 (by decide) (by decide) rfl fl_RX11_96 ?_
        refine wp_iload_n dX11_foresee_55 rfl ?_
        obtain ⟨M21, e22, h⟩ := bnd h
        refine wp_putI (c := 7) (k := 2) dX11_foresee_56 e22 (by decide) (by decide) rfl fl_RX11_120 (Or.inl rfl) ?_
        refine wp_iload_n dX11_foresee_59 rfl ?_
        cases h
        exact wp_iret dX11_foresee_60 rfl
      · replace h := ite_t hc_ h
        exact wp_ls (lsS (lsN (lsN lsZ))) (X11_foresee_J24_ok h)

theorem sh_X11_foresee_ok {w : Gw} {d : Nat} {x0 : Nat} {x1 : Int32} {M : Gm} {out : Int32 × Gm} (h : sh_X11_foresee x0 x1 M = some out) : Ev w mdX11_foresee (d + 4) [.inr x0, .inl x1] M (.inl (some (.inl out.1))) out.2 := by
  obtain ⟨u, e0, h⟩ := bnd h
  exact ev_of okX11_foresee ⟨_, _, rfl, isO_of e0 (by decide), by decide⟩ (Nat.le_of_ble_eq_true rfl) (X11_foresee_F_ok h)

/-! java/lang/Math.floorMod(II)I -/
def J9_floorMod_7cf53_J18 (x2 : Int32) (M : Gm) : Option (Int32) :=
  some x2
def J9_floorMod_7cf53_F (x0 : Int32) (x1 : Int32) (M : Gm) : Option (Int32) :=
  (rmI x0 x1).bind fun v1 =>
  if 0 ≤ (x0 ^^^ x1) then
    J9_floorMod_7cf53_J18 v1 M
  else
    if v1 = 0 then
      J9_floorMod_7cf53_J18 v1 M
    else
      some (v1 + x1)
def sh_J9_floorMod_7cf53 (x0 : Int32) (x1 : Int32) (M : Gm) : Option (Int32) := J9_floorMod_7cf53_F x0 x1 M
theorem J9_floorMod_7cf53_J18_ok {w : Gw} {d : Nat} {x2 : Int32} {M : Gm} {out : Int32} (h : J9_floorMod_7cf53_J18 x2 M = some out) : Wp w mdJ9_floorMod_7cf53 d 18 [none, none, some (.inl x2)] [] M (.inl (some (.inl out))) M := by
  unfold J9_floorMod_7cf53_J18 at h
  refine wp_iload_n dJ9_floorMod_7cf53_18 rfl ?_
  cases h
  exact wp_iret dJ9_floorMod_7cf53_19 rfl

theorem J9_floorMod_7cf53_F_ok {w : Gw} {d : Nat} {x0 : Int32} {x1 : Int32} {M : Gm} {out : Int32} (h : J9_floorMod_7cf53_F x0 x1 M = some out) : Wp w mdJ9_floorMod_7cf53 d 0 [some (.inl x0), some (.inl x1), none] [] M (.inl (some (.inl out))) M := by
  unfold J9_floorMod_7cf53_F at h
  refine wp_iload_n dJ9_floorMod_7cf53_0 rfl ?_
  refine wp_iload_n dJ9_floorMod_7cf53_1 rfl ?_
  obtain ⟨v1, e2, h⟩ := bnd h
  refine wp_irem dJ9_floorMod_7cf53_2 e2 ?_
  refine wp_istore_n dJ9_floorMod_7cf53_3 (Nat.le_of_ble_eq_true rfl) ?_
  refine wp_iload_n dJ9_floorMod_7cf53_4 rfl ?_
  refine wp_iload_n dJ9_floorMod_7cf53_5 rfl ?_
  refine wp_ixor dJ9_floorMod_7cf53_6 ?_
  refine wp_if_ge (tgt := 18) dJ9_floorMod_7cf53_7 (by decide) (fun hc_ => ?_) (fun hc_ => ?_)
  · replace h := ite_t hc_ h
    exact wp_ls (lsN (lsN (lsS lsZ))) (J9_floorMod_7cf53_J18_ok h)
  · replace h := ite_f hc_ h
    refine wp_iload_n dJ9_floorMod_7cf53_10 rfl ?_
    refine wp_if_eq (tgt := 18) dJ9_floorMod_7cf53_11 (by decide) (fun hc_ => ?_) (fun hc_ => ?_)
    · replace h := ite_t hc_ h
      exact wp_ls (lsN (lsN (lsS lsZ))) (J9_floorMod_7cf53_J18_ok h)
    · replace h := ite_f hc_ h
      refine wp_iload_n dJ9_floorMod_7cf53_14 rfl ?_
      refine wp_iload_n dJ9_floorMod_7cf53_15 rfl ?_
      refine wp_iadd dJ9_floorMod_7cf53_16 ?_
      cases h
      exact wp_iret dJ9_floorMod_7cf53_17 rfl

theorem sh_J9_floorMod_7cf53_ok {w : Gw} {d : Nat} {x0 : Int32} {x1 : Int32} {M : Gm} {out : Int32} (h : sh_J9_floorMod_7cf53 x0 x1 M = some out) : Ev w mdJ9_floorMod_7cf53 d [.inl x0, .inl x1] M (.inl (some (.inl out))) M := ev_of okJ9_floorMod_7cf53 trivial (Nat.le_of_ble_eq_true rfl) (J9_floorMod_7cf53_F_ok h)

/-! HeatGovernor$Memory.undoAct()Z -/
def X4_undoAct_F (x0 : Nat) (M : Gm) : Option (Int32 × Gm) :=
  (gfI M x0 4 3).bind fun v1 =>
  if v1 = 0 then
    (zck 0).bind fun z23 =>
    some (z23, M)
  else
    (gfI M x0 4 2).bind fun v3 =>
    (sh_J9_floorMod_7cf53 (v3 - 1) 40 M).bind fun q5 =>
    (pfI M x0 4 2 q5).bind fun M7 =>
    (gfI M7 x0 4 3).bind fun v9 =>
    (pfI M7 x0 4 3 (v9 - 1)).bind fun M11 =>
    (gfR M11 x0 4 0).bind fun v13 =>
    (gfI M11 x0 4 2).bind fun v15 =>
    (sh_X4_rowOfAct x0 v15 M11).bind fun q17 =>
    (sh_X7_copyFrom v13 q17.1 q17.2).bind fun q19 =>
    (zck 1).bind fun z21 =>
    some (z21, q19)
def sh_X4_undoAct (x0 : Nat) (M : Gm) : Option (Int32 × Gm) := (isO M x0 4).bind fun _ => X4_undoAct_F x0 M
theorem X4_undoAct_F_ok {w : Gw} {d : Nat} {x0 : Nat} {M : Gm} {out : Int32 × Gm} (h : X4_undoAct_F x0 M = some out) : Wp w mdX4_undoAct (d + 3) 0 [some (.inr x0)] [] M (.inl (some (.inl out.1))) out.2 := by
  unfold X4_undoAct_F at h
  refine wp_aload_n dX4_undoAct_0 rfl ?_
  obtain ⟨v1, e2, h⟩ := bnd h
  refine wp_getI (c := 4) (k := 3) dX4_undoAct_1 e2 (by decide) (by decide) rfl fl_RX4_21 ?_
  refine wp_if_ne (tgt := 9) dX4_undoAct_4 (by decide) (fun hc_ => ?_) (fun hc_ => ?_)
  · replace h := ite_f hc_ h
    refine wp_aload_n dX4_undoAct_9 rfl ?_
    refine wp_aload_n dX4_undoAct_10 rfl ?_
    obtain ⟨v3, e4, h⟩ := bnd h
    refine wp_getI (c := 4) (k := 2) dX4_undoAct_11 e4 (by decide) (by decide) rfl fl_RX4_17 ?_
    refine wp_iconst (v := 1) dX4_undoAct_14 (by decide) ?_
    refine wp_isub dX4_undoAct_15 ?_
    refine wp_bipush (v := 40) dX4_undoAct_16 (by decide) ?_
    obtain ⟨q5, e6, h⟩ := bnd h
    refine wp_callS (As := [.inl (v3 - 1), .inl 40]) dX4_undoAct_18 (sh_J9_floorMod_7cf53_ok (d := d + 2) e6) okJ9_floorMod_7cf53 nnJ9_floorMod_7cf53 ssJ9_floorMod_7cf53 ml_RX4_64 rfl (Nat.le_of_ble_eq_true rfl) ?_
    obtain ⟨M7, e8, h⟩ := bnd h
    refine wp_putI (c := 4) (k := 2) dX4_undoAct_21 e8 (by decide) (by decide) rfl fl_RX4_17 (Or.inl rfl) ?_
    refine wp_aload_n dX4_undoAct_24 rfl ?_
    refine wp_dup dX4_undoAct_25 ?_
    obtain ⟨v9, e10, h⟩ := bnd h
    refine wp_getI (c := 4) (k := 3) dX4_undoAct_26 e10 (by decide) (by decide) rfl fl_RX4_21 ?_
    refine wp_iconst (v := 1) dX4_undoAct_29 (by decide) ?_
    refine wp_isub dX4_undoAct_30 ?_
    obtain ⟨M11, e12, h⟩ := bnd h
    refine wp_putI (c := 4) (k := 3) dX4_undoAct_31 e12 (by decide) (by decide) rfl fl_RX4_21 (Or.inl rfl) ?_
    refine wp_aload_n dX4_undoAct_34 rfl ?_
    obtain ⟨v13, e14, h⟩ := bnd h
    refine wp_getR (c := 4) (k := 0) dX4_undoAct_35 e14 (by decide) (by decide) rfl fl_RX4_43 ?_
    refine wp_aload_n dX4_undoAct_38 rfl ?_
    refine wp_aload_n dX4_undoAct_39 rfl ?_
    obtain ⟨v15, e16, h⟩ := bnd h
    refine wp_getI (c := 4) (k := 2) dX4_undoAct_40 e16 (by decide) (by decide) rfl fl_RX4_17 ?_
    obtain ⟨q17, e18, h⟩ := bnd h
    refine wp_callV (As := [.inl v15]) dX4_undoAct_43 (sh_X4_rowOfAct_ok (d := d) e18) okX4_rowOfAct nnX4_rowOfAct vvX4_rowOfAct ml_RX4_50 rfl (Nat.le_of_ble_eq_true rfl) ?_
    obtain ⟨q19, e20, h⟩ := bnd h
    refine wp_callV (As := [.inr q17.1]) dX4_undoAct_46 (sh_X7_copyFrom_ok (d := d) e20) okX7_copyFrom nnX7_copyFrom vvX7_copyFrom ml_RX4_54 rfl (Nat.le_of_ble_eq_true rfl) ?_
    refine wp_iconst (v := 1) dX4_undoAct_49 (by decide) ?_
    obtain ⟨z21, e22, h⟩ := bnd h
    obtain ⟨hz_, rfl⟩ := zck_of e22
    cases h
    exact wp_zret dX4_undoAct_50 rfl hz_
  · replace h := ite_t hc_ h
    refine wp_iconst (v := 0) dX4_undoAct_7 (by decide) ?_
    obtain ⟨z23, e24, h⟩ := bnd h
    obtain ⟨hz_, rfl⟩ := zck_of e24
    cases h
    exact wp_zret dX4_undoAct_8 rfl hz_

theorem sh_X4_undoAct_ok {w : Gw} {d : Nat} {x0 : Nat} {M : Gm} {out : Int32 × Gm} (h : sh_X4_undoAct x0 M = some out) : Ev w mdX4_undoAct (d + 3) [.inr x0] M (.inl (some (.inl out.1))) out.2 := by
  obtain ⟨u, e0, h⟩ := bnd h
  exact ev_of okX4_undoAct ⟨_, _, rfl, isO_of e0 (by decide), by decide⟩ (Nat.le_of_ble_eq_true rfl) (X4_undoAct_F_ok h)

/-! HeatGovernor.undo()I -/
def X11_undo_J21 (s0 : Int32) (M : Gm) : Option (Int32 × Gm) :=
  some (s0, M)
def X11_undo_F (x0 : Nat) (M : Gm) : Option (Int32 × Gm) :=
  (gfR M x0 11 6).bind fun v1 =>
  (sh_X4_undoAct v1 M).bind fun q3 =>
  if q3.1 = 0 then
    X11_undo_J21 ((-1)) q3.2
  else
    (gfR q3.2 x0 11 6).bind fun v5 =>
    (gfI q3.2 v5 4 3).bind fun v7 =>
    X11_undo_J21 v7 q3.2
def sh_X11_undo (x0 : Nat) (M : Gm) : Option (Int32 × Gm) := (isO M x0 11).bind fun _ => X11_undo_F x0 M
theorem X11_undo_J21_ok {w : Gw} {d : Nat} {s0 : Int32} {M : Gm} {out : Int32 × Gm} (h : X11_undo_J21 s0 M = some out) : Wp w mdX11_undo (d + 4) 21 [none] [.inl s0] M (.inl (some (.inl out.1))) out.2 := by
  unfold X11_undo_J21 at h
  cases h
  exact wp_iret dX11_undo_21 rfl

theorem X11_undo_F_ok {w : Gw} {d : Nat} {x0 : Nat} {M : Gm} {out : Int32 × Gm} (h : X11_undo_F x0 M = some out) : Wp w mdX11_undo (d + 4) 0 [some (.inr x0)] [] M (.inl (some (.inl out.1))) out.2 := by
  unfold X11_undo_F at h
  refine wp_aload_n dX11_undo_0 rfl ?_
  obtain ⟨v1, e2, h⟩ := bnd h
  refine wp_getR (c := 11) (k := 6) dX11_undo_1 e2 (by decide) (by decide) rfl fl_RX11_44 ?_
  obtain ⟨q3, e4, h⟩ := bnd h
  refine wp_callV (As := []) dX11_undo_4 (sh_X4_undoAct_ok (d := d) e4) okX4_undoAct nnX4_undoAct vvX4_undoAct ml_RX11_329 rfl (Nat.le_of_ble_eq_true rfl) ?_
  refine wp_if_eq (tgt := 20) dX11_undo_7 (by decide) (fun hc_ => ?_) (fun hc_ => ?_)
  · replace h := ite_t hc_ h
    refine wp_iconst (v := (-1)) dX11_undo_20 (by decide) ?_
    exact wp_ls (lsN lsZ) (X11_undo_J21_ok h)
  · replace h := ite_f hc_ h
    refine wp_aload_n dX11_undo_10 rfl ?_
    obtain ⟨v5, e6, h⟩ := bnd h
    refine wp_getR (c := 11) (k := 6) dX11_undo_11 e6 (by decide) (by decide) rfl fl_RX11_44 ?_
    obtain ⟨v7, e8, h⟩ := bnd h
    refine wp_getI (c := 4) (k := 3) dX11_undo_14 e8 (by decide) (by decide) rfl fl_RX11_145 ?_
    refine wp_goto (tgt := 21) dX11_undo_17 (by decide) ?_
    exact wp_ls (lsN lsZ) (X11_undo_J21_ok h)

theorem sh_X11_undo_ok {w : Gw} {d : Nat} {x0 : Nat} {M : Gm} {out : Int32 × Gm} (h : sh_X11_undo x0 M = some out) : Ev w mdX11_undo (d + 4) [.inr x0] M (.inl (some (.inl out.1))) out.2 := by
  obtain ⟨u, e0, h⟩ := bnd h
  exact ev_of okX11_undo ⟨_, _, rfl, isO_of e0 (by decide), by decide⟩ (Nat.le_of_ble_eq_true rfl) (X11_undo_F_ok h)

/-! HeatGovernor$Memory.addNote(III)Z -/
def X4_addNote_F (x0 : Nat) (x1 : Int32) (x2 : Int32) (x3 : Int32) (M : Gm) : Option (Int32 × Gm) :=
  (gfI M x0 4 7).bind fun v1 =>
  if v1 < 8 then
    (gfR M x0 4 4).bind fun v3 =>
    (gfI M x0 4 7).bind fun v5 =>
    (stA M 0 v3 v5 x1).bind fun M7 =>
    (gfR M7 x0 4 5).bind fun v9 =>
    (gfI M7 x0 4 7).bind fun v11 =>
    (stA M7 0 v9 v11 x2).bind fun M13 =>
    (gfR M13 x0 4 6).bind fun v15 =>
    (gfI M13 x0 4 7).bind fun v17 =>
    (stA M13 0 v15 v17 x3).bind fun M19 =>
    (gfI M19 x0 4 7).bind fun v21 =>
    (pfI M19 x0 4 7 (v21 + 1)).bind fun M23 =>
    (zck 1).bind fun z25 =>
    some (z25, M23)
  else
    (zck 0).bind fun z27 =>
    some (z27, M)
def sh_X4_addNote (x0 : Nat) (x1 : Int32) (x2 : Int32) (x3 : Int32) (M : Gm) : Option (Int32 × Gm) := (isO M x0 4).bind fun _ => X4_addNote_F x0 x1 x2 x3 M
theorem X4_addNote_F_ok {w : Gw} {d : Nat} {x0 : Nat} {x1 : Int32} {x2 : Int32} {x3 : Int32} {M : Gm} {out : Int32 × Gm} (h : X4_addNote_F x0 x1 x2 x3 M = some out) : Wp w mdX4_addNote d 0 [some (.inr x0), some (.inl x1), some (.inl x2), some (.inl x3)] [] M (.inl (some (.inl out.1))) out.2 := by
  unfold X4_addNote_F at h
  refine wp_aload_n dX4_addNote_0 rfl ?_
  obtain ⟨v1, e2, h⟩ := bnd h
  refine wp_getI (c := 4) (k := 7) dX4_addNote_1 e2 (by decide) (by decide) rfl fl_RX4_34 ?_
  refine wp_bipush (v := 8) dX4_addNote_4 (by decide) ?_
  refine wp_icmp_lt (tgt := 11) dX4_addNote_6 (by decide) (fun hc_ => ?_) (fun hc_ => ?_)
  · replace h := ite_t hc_ h
    refine wp_aload_n dX4_addNote_11 rfl ?_
    obtain ⟨v3, e4, h⟩ := bnd h
    refine wp_getR (c := 4) (k := 4) dX4_addNote_12 e4 (by decide) (by decide) rfl fl_RX4_24 ?_
    refine wp_aload_n dX4_addNote_15 rfl ?_
    obtain ⟨v5, e6, h⟩ := bnd h
    refine wp_getI (c := 4) (k := 7) dX4_addNote_16 e6 (by decide) (by decide) rfl fl_RX4_34 ?_
    refine wp_iload_n dX4_addNote_19 rfl ?_
    obtain ⟨M7, e8, h⟩ := bnd h
    refine wp_iastore dX4_addNote_20 e8 ?_
    refine wp_aload_n dX4_addNote_21 rfl ?_
    obtain ⟨v9, e10, h⟩ := bnd h
    refine wp_getR (c := 4) (k := 5) dX4_addNote_22 e10 (by decide) (by decide) rfl fl_RX4_28 ?_
    refine wp_aload_n dX4_addNote_25 rfl ?_
    obtain ⟨v11, e12, h⟩ := bnd h
    refine wp_getI (c := 4) (k := 7) dX4_addNote_26 e12 (by decide) (by decide) rfl fl_RX4_34 ?_
    refine wp_iload_n dX4_addNote_29 rfl ?_
    obtain ⟨M13, e14, h⟩ := bnd h
    refine wp_iastore dX4_addNote_30 e14 ?_
    refine wp_aload_n dX4_addNote_31 rfl ?_
    obtain ⟨v15, e16, h⟩ := bnd h
    refine wp_getR (c := 4) (k := 6) dX4_addNote_32 e16 (by decide) (by decide) rfl fl_RX4_31 ?_
    refine wp_aload_n dX4_addNote_35 rfl ?_
    obtain ⟨v17, e18, h⟩ := bnd h
    refine wp_getI (c := 4) (k := 7) dX4_addNote_36 e18 (by decide) (by decide) rfl fl_RX4_34 ?_
    refine wp_iload_n dX4_addNote_39 rfl ?_
    obtain ⟨M19, e20, h⟩ := bnd h
    refine wp_iastore dX4_addNote_40 e20 ?_
    refine wp_aload_n dX4_addNote_41 rfl ?_
    refine wp_dup dX4_addNote_42 ?_
    obtain ⟨v21, e22, h⟩ := bnd h
    refine wp_getI (c := 4) (k := 7) dX4_addNote_43 e22 (by decide) (by decide) rfl fl_RX4_34 ?_
    refine wp_iconst (v := 1) dX4_addNote_46 (by decide) ?_
    refine wp_iadd dX4_addNote_47 ?_
    obtain ⟨M23, e24, h⟩ := bnd h
    refine wp_putI (c := 4) (k := 7) dX4_addNote_48 e24 (by decide) (by decide) rfl fl_RX4_34 (Or.inl rfl) ?_
    refine wp_iconst (v := 1) dX4_addNote_51 (by decide) ?_
    obtain ⟨z25, e26, h⟩ := bnd h
    obtain ⟨hz_, rfl⟩ := zck_of e26
    cases h
    exact wp_zret dX4_addNote_52 rfl hz_
  · replace h := ite_f hc_ h
    refine wp_iconst (v := 0) dX4_addNote_9 (by decide) ?_
    obtain ⟨z27, e28, h⟩ := bnd h
    obtain ⟨hz_, rfl⟩ := zck_of e28
    cases h
    exact wp_zret dX4_addNote_10 rfl hz_

theorem sh_X4_addNote_ok {w : Gw} {d : Nat} {x0 : Nat} {x1 : Int32} {x2 : Int32} {x3 : Int32} {M : Gm} {out : Int32 × Gm} (h : sh_X4_addNote x0 x1 x2 x3 M = some out) : Ev w mdX4_addNote d [.inr x0, .inl x1, .inl x2, .inl x3] M (.inl (some (.inl out.1))) out.2 := by
  obtain ⟨u, e0, h⟩ := bnd h
  exact ev_of okX4_addNote ⟨_, _, rfl, isO_of e0 (by decide), by decide⟩ (Nat.le_of_ble_eq_true rfl) (X4_addNote_F_ok h)

/-! HeatGovernor.note(III)I -/
def X11_note_J57 (x0 : Nat) (M : Gm) : Option (Int32 × Gm) :=
  (gfR M x0 11 6).bind fun v1 =>
  (gfR M v1 4 8).bind fun v3 =>
  (ldA M 0 v3 2).bind fun v5 =>
  (stA M 0 v3 2 (v5 + 1)).bind fun M7 =>
  some ((-1), M7)
def X11_note_J37 (x0 : Nat) (x1 : Int32) (x2 : Int32) (x3 : Int32) (s0 : Int32) (M : Gm) : Option (Int32 × Gm) :=
  if s0 = 0 then
    X11_note_J57 x0 M
  else
    (gfR M x0 11 6).bind fun v1 =>
    (sh_X4_addNote v1 x1 x2 x3 M).bind fun q3 =>
    if q3.1 = 0 then
      X11_note_J57 x0 q3.2
    else
      (gfR q3.2 x0 11 6).bind fun v5 =>
      (gfI q3.2 v5 4 7).bind fun v7 =>
      some (v7, q3.2)
def X11_note_J36 (x0 : Nat) (x1 : Int32) (x2 : Int32) (x3 : Int32) (M : Gm) : Option (Int32 × Gm) :=
  X11_note_J37 x0 x1 x2 x3 0 M
def X11_note_F (x0 : Nat) (x1 : Int32) (x2 : Int32) (x3 : Int32) (M : Gm) : Option (Int32 × Gm) :=
  (gfR M x0 11 4).bind fun v1 =>
  (sh_X5_hasZone v1 x1 M).bind fun q3 =>
  if q3 = 0 then
    X11_note_J36 x0 x1 x2 x3 M
  else
    if x2 < 0 then
      X11_note_J36 x0 x1 x2 x3 M
    else
      if 60 < x2 then
        X11_note_J36 x0 x1 x2 x3 M
      else
        if x3 < 0 then
          X11_note_J36 x0 x1 x2 x3 M
        else
          if 1500 < x3 then
            X11_note_J36 x0 x1 x2 x3 M
          else
            X11_note_J37 x0 x1 x2 x3 1 M
def sh_X11_note (x0 : Nat) (x1 : Int32) (x2 : Int32) (x3 : Int32) (M : Gm) : Option (Int32 × Gm) := (isO M x0 11).bind fun _ => X11_note_F x0 x1 x2 x3 M
theorem X11_note_J57_ok {w : Gw} {d : Nat} {x0 : Nat} {M : Gm} {out : Int32 × Gm} (h : X11_note_J57 x0 M = some out) : Wp w mdX11_note (d + 1) 57 [some (.inr x0), none, none, none, none] [] M (.inl (some (.inl out.1))) out.2 := by
  unfold X11_note_J57 at h
  refine wp_aload_n dX11_note_57 rfl ?_
  obtain ⟨v1, e2, h⟩ := bnd h
  refine wp_getR (c := 11) (k := 6) dX11_note_58 e2 (by decide) (by decide) rfl fl_RX11_44 ?_
  obtain ⟨v3, e4, h⟩ := bnd h
  refine wp_getR (c := 4) (k := 8) dX11_note_61 e4 (by decide) (by decide) rfl fl_RX11_89 ?_
  refine wp_iconst (v := 2) dX11_note_64 (by decide) ?_
  refine wp_dup2 dX11_note_65 ?_
  obtain ⟨v5, e6, h⟩ := bnd h
  refine wp_iaload dX11_note_66 e6 ?_
  refine wp_iconst (v := 1) dX11_note_67 (by decide) ?_
  refine wp_iadd dX11_note_68 ?_
  obtain ⟨M7, e8, h⟩ := bnd h
  refine wp_iastore dX11_note_69 e8 ?_
  refine wp_iconst (v := (-1)) dX11_note_70 (by decide) ?_
  cases h
  exact wp_iret dX11_note_71 rfl

theorem X11_note_J37_ok {w : Gw} {d : Nat} {x0 : Nat} {x1 : Int32} {x2 : Int32} {x3 : Int32} {s0 : Int32} {M : Gm} {out : Int32 × Gm} (h : X11_note_J37 x0 x1 x2 x3 s0 M = some out) : Wp w mdX11_note (d + 1) 37 [some (.inr x0), some (.inl x1), some (.inl x2), some (.inl x3), none] [.inl s0] M (.inl (some (.inl out.1))) out.2 := by
  unfold X11_note_J37 at h
  refine wp_istore dX11_note_37 (Nat.le_of_ble_eq_true rfl) ?_
  refine wp_iload dX11_note_39 rfl ?_
  refine wp_if_eq (tgt := 57) dX11_note_41 (by decide) (fun hc_ => ?_) (fun hc_ => ?_)
  · replace h := ite_t hc_ h
    exact wp_ls (lsS (lsN (lsN (lsN (lsN lsZ))))) (X11_note_J57_ok h)
  · replace h := ite_f hc_ h
    refine wp_aload_n dX11_note_44 rfl ?_
    obtain ⟨v1, e2, h⟩ := bnd h
    refine wp_getR (c := 11) (k := 6) dX11_note_45 e2 (by decide) (by decide) rfl fl_RX11_44 ?_
    refine wp_iload_n dX11_note_48 rfl ?_
    refine wp_iload_n dX11_note_49 rfl ?_
    refine wp_iload_n dX11_note_50 rfl ?_
    obtain ⟨q3, e4, h⟩ := bnd h
    refine wp_callV (As := [.inl x1, .inl x2, .inl x3]) dX11_note_51 (sh_X4_addNote_ok (d := d) e4) okX4_addNote nnX4_addNote vvX4_addNote ml_RX11_333 rfl (Nat.le_of_ble_eq_true rfl) ?_
    refine wp_if_ne (tgt := 72) dX11_note_54 (by decide) (fun hc_ => ?_) (fun hc_ => ?_)
    · replace h := ite_f hc_ h
      refine wp_aload_n dX11_note_72 rfl ?_
      obtain ⟨v5, e6, h⟩ := bnd h
      refine wp_getR (c := 11) (k := 6) dX11_note_73 e6 (by decide) (by decide) rfl fl_RX11_44 ?_
      obtain ⟨v7, e8, h⟩ := bnd h
      refine wp_getI (c := 4) (k := 7) dX11_note_76 e8 (by decide) (by decide) rfl fl_RX11_148 ?_
      cases h
      exact wp_iret dX11_note_79 rfl
    · replace h := ite_t hc_ h
      exact wp_ls (lsS (lsN (lsN (lsN (lsN lsZ))))) (X11_note_J57_ok h)

theorem X11_note_J36_ok {w : Gw} {d : Nat} {x0 : Nat} {x1 : Int32} {x2 : Int32} {x3 : Int32} {M : Gm} {out : Int32 × Gm} (h : X11_note_J36 x0 x1 x2 x3 M = some out) : Wp w mdX11_note (d + 1) 36 [some (.inr x0), some (.inl x1), some (.inl x2), some (.inl x3), none] [] M (.inl (some (.inl out.1))) out.2 := by
  unfold X11_note_J36 at h
  refine wp_iconst (v := 0) dX11_note_36 (by decide) ?_
  exact wp_ls (lsS (lsS (lsS (lsS (lsN lsZ))))) (X11_note_J37_ok h)

theorem X11_note_F_ok {w : Gw} {d : Nat} {x0 : Nat} {x1 : Int32} {x2 : Int32} {x3 : Int32} {M : Gm} {out : Int32 × Gm} (h : X11_note_F x0 x1 x2 x3 M = some out) : Wp w mdX11_note (d + 1) 0 [some (.inr x0), some (.inl x1), some (.inl x2), some (.inl x3), none] [] M (.inl (some (.inl out.1))) out.2 := by
  unfold X11_note_F at h
  refine wp_aload_n dX11_note_0 rfl ?_
  obtain ⟨v1, e2, h⟩ := bnd h
  refine wp_getR (c := 11) (k := 4) dX11_note_1 e2 (by decide) (by decide) rfl fl_RX11_32 ?_
  refine wp_iload_n dX11_note_4 rfl ?_
  obtain ⟨q3, e4, h⟩ := bnd h
  refine wp_callV (As := [.inl x1]) dX11_note_5 (sh_X5_hasZone_ok (d := d) e4) okX5_hasZone nnX5_hasZone vvX5_hasZone ml_RX11_317 rfl (Nat.le_of_ble_eq_true rfl) ?_
  refine wp_if_eq (tgt := 36) dX11_note_8 (by decide) (fun hc_ => ?_) (fun hc_ => ?_)
  · replace h := ite_t hc_ h
    exact wp_ls (lsS (lsS (lsS (lsS (lsN lsZ))))) (X11_note_J36_ok h)
  · replace h := ite_f hc_ h
    refine wp_iload_n dX11_note_11 rfl ?_
    refine wp_if_lt (tgt := 36) dX11_note_12 (by decide) (fun hc_ => ?_) (fun hc_ => ?_)
    · replace h := ite_t hc_ h
      exact wp_ls (lsS (lsS (lsS (lsS (lsN lsZ))))) (X11_note_J36_ok h)
    · replace h := ite_f hc_ h
      refine wp_iload_n dX11_note_15 rfl ?_
      refine wp_bipush (v := 60) dX11_note_16 (by decide) ?_
      refine wp_icmp_gt (tgt := 36) dX11_note_18 (by decide) (fun hc_ => ?_) (fun hc_ => ?_)
      · replace h := ite_t hc_ h
        exact wp_ls (lsS (lsS (lsS (lsS (lsN lsZ))))) (X11_note_J36_ok h)
      · replace h := ite_f hc_ h
        refine wp_iload_n dX11_note_21 rfl ?_
        refine wp_if_lt (tgt := 36) dX11_note_22 (by decide) (fun hc_ => ?_) (fun hc_ => ?_)
        · replace h := ite_t hc_ h
          exact wp_ls (lsS (lsS (lsS (lsS (lsN lsZ))))) (X11_note_J36_ok h)
        · replace h := ite_f hc_ h
          refine wp_iload_n dX11_note_25 rfl ?_
          refine wp_sipush (v := 1500) dX11_note_26 (by decide) ?_
          refine wp_icmp_gt (tgt := 36) dX11_note_29 (by decide) (fun hc_ => ?_) (fun hc_ => ?_)
          · replace h := ite_t hc_ h
            exact wp_ls (lsS (lsS (lsS (lsS (lsN lsZ))))) (X11_note_J36_ok h)
          · replace h := ite_f hc_ h
            refine wp_iconst (v := 1) dX11_note_32 (by decide) ?_
            refine wp_goto (tgt := 37) dX11_note_33 (by decide) ?_
            exact wp_ls (lsS (lsS (lsS (lsS (lsN lsZ))))) (X11_note_J37_ok h)

theorem sh_X11_note_ok {w : Gw} {d : Nat} {x0 : Nat} {x1 : Int32} {x2 : Int32} {x3 : Int32} {M : Gm} {out : Int32 × Gm} (h : sh_X11_note x0 x1 x2 x3 M = some out) : Ev w mdX11_note (d + 1) [.inr x0, .inl x1, .inl x2, .inl x3] M (.inl (some (.inl out.1))) out.2 := by
  obtain ⟨u, e0, h⟩ := bnd h
  exact ev_of okX11_note ⟨_, _, rfl, isO_of e0 (by decide), by decide⟩ (Nat.le_of_ble_eq_true rfl) (X11_note_F_ok h)

/-! HeatGovernor.forget()V -/
def X11_forget_F (x0 : Nat) (M : Gm) : Option (Gm) :=
  (gfR M x0 11 6).bind fun v1 =>
  (pfI M v1 4 7 0).bind fun M3 =>
  some M3
def sh_X11_forget (x0 : Nat) (M : Gm) : Option (Gm) := (isO M x0 11).bind fun _ => X11_forget_F x0 M
theorem X11_forget_F_ok {w : Gw} {d : Nat} {x0 : Nat} {M : Gm} {out : Gm} (h : X11_forget_F x0 M = some out) : Wp w mdX11_forget d 0 [some (.inr x0)] [] M (.inl none) out := by
  unfold X11_forget_F at h
  refine wp_aload_n dX11_forget_0 rfl ?_
  obtain ⟨v1, e2, h⟩ := bnd h
  refine wp_getR (c := 11) (k := 6) dX11_forget_1 e2 (by decide) (by decide) rfl fl_RX11_44 ?_
  refine wp_iconst (v := 0) dX11_forget_4 (by decide) ?_
  obtain ⟨M3, e4, h⟩ := bnd h
  refine wp_putI (c := 4) (k := 7) dX11_forget_5 e4 (by decide) (by decide) rfl fl_RX11_148 (Or.inl rfl) ?_
  cases h
  exact wp_ret dX11_forget_8 rfl

theorem sh_X11_forget_ok {w : Gw} {d : Nat} {x0 : Nat} {M : Gm} {out : Gm} (h : sh_X11_forget x0 M = some out) : Ev w mdX11_forget d [.inr x0] M (.inl none) out := by
  obtain ⟨u, e0, h⟩ := bnd h
  exact ev_of okX11_forget ⟨_, _, rfl, isO_of e0 (by decide), by decide⟩ (Nat.le_of_ble_eq_true rfl) (X11_forget_F_ok h)

/-! HeatGovernor$Memory.copyFrom(LHeatGovernor$Memory;)V -/
def X4_copyFrom_B29 (x0 : Nat) (x1 : Nat) (q : Int32 × Gm) : Option ((Int32 × Gm) ⊕ Gm) :=
  (gfI q.2 x0 4 3).bind fun v1 =>
  if v1 < q.1 then
    some (.inr q.2)
  else
    (gfI q.2 x0 4 2).bind fun v3 =>
    (sh_J9_floorMod_7cf53 (v3 - q.1) 40 q.2).bind fun q5 =>
    (sh_X4_rowOfAct x0 q5 q.2).bind fun q7 =>
    (sh_X4_rowOfAct x1 q5 q7.2).bind fun q9 =>
    (sh_X7_copyFrom q7.1 q9.1 q9.2).bind fun q11 =>
    some (.inl (q.1 + 1, q11))
def X4_copyFrom_F (x0 : Nat) (x1 : Nat) (M : Gm) : Option (Gm) :=
  (gfR M x0 4 0).bind fun v1 =>
  (gfR M x1 4 0).bind fun v3 =>
  (sh_X7_copyFrom v1 v3 M).bind fun q5 =>
  (gfI q5 x1 4 2).bind fun v7 =>
  (pfI q5 x0 4 2 v7).bind fun M9 =>
  (gfI M9 x1 4 3).bind fun v11 =>
  (pfI M9 x0 4 3 v11).bind fun M13 =>
  (lp (X4_copyFrom_B29 x0 x1) FU (1, M13)).bind fun r15 =>
  (gfI r15 x1 4 7).bind fun v17 =>
  (pfI r15 x0 4 7 v17).bind fun M19 =>
  (gfR M19 x1 4 4).bind fun v21 =>
  (gfR M19 x0 4 4).bind fun v23 =>
  (cpI M19 v21 0 v23 0 8).bind fun M25 =>
  (gfR M25 x1 4 5).bind fun v27 =>
  (gfR M25 x0 4 5).bind fun v29 =>
  (cpI M25 v27 0 v29 0 8).bind fun M31 =>
  (gfR M31 x1 4 6).bind fun v33 =>
  (gfR M31 x0 4 6).bind fun v35 =>
  (cpI M31 v33 0 v35 0 8).bind fun M37 =>
  (gfR M37 x1 4 8).bind fun v39 =>
  (gfR M37 x0 4 8).bind fun v41 =>
  (cpI M37 v39 0 v41 0 3).bind fun M43 =>
  some M43
def sh_X4_copyFrom (x0 : Nat) (x1 : Nat) (M : Gm) : Option (Gm) := (isO M x0 4).bind fun _ => X4_copyFrom_F x0 x1 M
theorem X4_copyFrom_B29_ok {w : Gw} {d : Nat} {x0 : Nat} {x1 : Nat} {q : Int32 × Gm} {o : Go} {M' : Gm} {out : (Int32 × Gm) ⊕ Gm} (h : X4_copyFrom_B29 x0 x1 q = some out) (hc : ∀ t : Int32 × Gm, out = .inl t → Wp w mdX4_copyFrom (d + 3) 29 [some (.inr x0), some (.inr x1), some (.inl t.1), none] [] t.2 o M') (he0 : ∀ t : Gm, out = .inr t → Wp w mdX4_copyFrom (d + 3) 68 [some (.inr x0), some (.inr x1), none, none] [] t o M') : Wp w mdX4_copyFrom (d + 3) 29 [some (.inr x0), some (.inr x1), some (.inl q.1), none] [] q.2 o M' := by
  unfold X4_copyFrom_B29 at h
  refine wp_iload_n dX4_copyFrom_29 rfl ?_
  refine wp_aload_n dX4_copyFrom_30 rfl ?_
  obtain ⟨v1, e2, h⟩ := bnd h
  refine wp_getI (c := 4) (k := 3) dX4_copyFrom_31 e2 (by decide) (by decide) rfl fl_RX4_21 ?_
  refine wp_icmp_gt (tgt := 68) dX4_copyFrom_34 (by decide) (fun hc_ => ?_) (fun hc_ => ?_)
  · replace h := ite_t hc_ h
    cases h
    exact wp_ls (lsS (lsS (lsN (lsN lsZ)))) (he0 q.2 rfl)
  · replace h := ite_f hc_ h
    refine wp_aload_n dX4_copyFrom_37 rfl ?_
    obtain ⟨v3, e4, h⟩ := bnd h
    refine wp_getI (c := 4) (k := 2) dX4_copyFrom_38 e4 (by decide) (by decide) rfl fl_RX4_17 ?_
    refine wp_iload_n dX4_copyFrom_41 rfl ?_
    refine wp_isub dX4_copyFrom_42 ?_
    refine wp_bipush (v := 40) dX4_copyFrom_43 (by decide) ?_
    obtain ⟨q5, e6, h⟩ := bnd h
    refine wp_callS (As := [.inl (v3 - q.1), .inl 40]) dX4_copyFrom_45 (sh_J9_floorMod_7cf53_ok (d := d + 2) e6) okJ9_floorMod_7cf53 nnJ9_floorMod_7cf53 ssJ9_floorMod_7cf53 ml_RX4_64 rfl (Nat.le_of_ble_eq_true rfl) ?_
    refine wp_istore_n dX4_copyFrom_48 (Nat.le_of_ble_eq_true rfl) ?_
    refine wp_aload_n dX4_copyFrom_49 rfl ?_
    refine wp_iload_n dX4_copyFrom_50 rfl ?_
    obtain ⟨q7, e8, h⟩ := bnd h
    refine wp_callV (As := [.inl q5]) dX4_copyFrom_51 (sh_X4_rowOfAct_ok (d := d) e8) okX4_rowOfAct nnX4_rowOfAct vvX4_rowOfAct ml_RX4_50 rfl (Nat.le_of_ble_eq_true rfl) ?_
    refine wp_aload_n dX4_copyFrom_54 rfl ?_
    refine wp_iload_n dX4_copyFrom_55 rfl ?_
    obtain ⟨q9, e10, h⟩ := bnd h
    refine wp_callV (As := [.inl q5]) dX4_copyFrom_56 (sh_X4_rowOfAct_ok (d := d) e10) okX4_rowOfAct nnX4_rowOfAct vvX4_rowOfAct ml_RX4_50 rfl (Nat.le_of_ble_eq_true rfl) ?_
    obtain ⟨q11, e12, h⟩ := bnd h
    refine wp_callV (As := [.inr q9.1]) dX4_copyFrom_59 (sh_X7_copyFrom_ok (d := d) e12) okX7_copyFrom nnX7_copyFrom vvX7_copyFrom ml_RX4_54 rfl (Nat.le_of_ble_eq_true rfl) ?_
    refine wp_iinc (v := q.1 + 1) dX4_copyFrom_62 rfl rfl ?_
    refine wp_goto (tgt := 29) dX4_copyFrom_65 (by decide) ?_
    cases h
    exact wp_ls (lsS (lsS (lsS (lsN lsZ)))) (hc (q.1 + 1, q11) rfl)

theorem X4_copyFrom_B29_lp {w : Gw} {d : Nat} {x0 : Nat} {x1 : Nat} {o : Go} {M' : Gm} {r : Gm} : ∀ (n : Nat) (q : Int32 × Gm), lp (X4_copyFrom_B29 x0 x1) n q = some r → (∀ t : Gm, r = t → Wp w mdX4_copyFrom (d + 3) 68 [some (.inr x0), some (.inr x1), none, none] [] t o M') → Wp w mdX4_copyFrom (d + 3) 29 [some (.inr x0), some (.inr x1), some (.inl q.1), none] [] q.2 o M' := by
  intro n
  induction n with
  | zero => intro q h; cases h
  | succ n ih =>
    intro q h he0
    cases hb : X4_copyFrom_B29 x0 x1 q with
    | none => rw [lp_succ, hb] at h; cases h
    | some out =>
      rw [lp_succ, hb] at h
      exact X4_copyFrom_B29_ok hb (fun t e => ih t (by rw [e] at h; exact h) he0) (fun t e => he0 t (by rw [e] at h; cases h; rfl))
theorem X4_copyFrom_F_ok {w : Gw} {d : Nat} {x0 : Nat} {x1 : Nat} {M : Gm} {out : Gm} (h : X4_copyFrom_F x0 x1 M = some out) : Wp w mdX4_copyFrom (d + 3) 0 [some (.inr x0), some (.inr x1), none, none] [] M (.inl none) out := by
  unfold X4_copyFrom_F at h
  refine wp_aload_n dX4_copyFrom_0 rfl ?_
  obtain ⟨v1, e2, h⟩ := bnd h
  refine wp_getR (c := 4) (k := 0) dX4_copyFrom_1 e2 (by decide) (by decide) rfl fl_RX4_43 ?_
  refine wp_aload_n dX4_copyFrom_4 rfl ?_
  obtain ⟨v3, e4, h⟩ := bnd h
  refine wp_getR (c := 4) (k := 0) dX4_copyFrom_5 e4 (by decide) (by decide) rfl fl_RX4_43 ?_
  obtain ⟨q5, e6, h⟩ := bnd h
  refine wp_callV (As := [.inr v3]) dX4_copyFrom_8 (sh_X7_copyFrom_ok (d := d) e6) okX7_copyFrom nnX7_copyFrom vvX7_copyFrom ml_RX4_54 rfl (Nat.le_of_ble_eq_true rfl) ?_
  refine wp_aload_n dX4_copyFrom_11 rfl ?_
  refine wp_aload_n dX4_copyFrom_12 rfl ?_
  obtain ⟨v7, e8, h⟩ := bnd h
  refine wp_getI (c := 4) (k := 2) dX4_copyFrom_13 e8 (by decide) (by decide) rfl fl_RX4_17 ?_
  obtain ⟨M9, e10, h⟩ := bnd h
  refine wp_putI (c := 4) (k := 2) dX4_copyFrom_16 e10 (by decide) (by decide) rfl fl_RX4_17 (Or.inl rfl) ?_
  refine wp_aload_n dX4_copyFrom_19 rfl ?_
  refine wp_aload_n dX4_copyFrom_20 rfl ?_
  obtain ⟨v11, e12, h⟩ := bnd h
  refine wp_getI (c := 4) (k := 3) dX4_copyFrom_21 e12 (by decide) (by decide) rfl fl_RX4_21 ?_
  obtain ⟨M13, e14, h⟩ := bnd h
  refine wp_putI (c := 4) (k := 3) dX4_copyFrom_24 e14 (by decide) (by decide) rfl fl_RX4_21 (Or.inl rfl) ?_
  refine wp_iconst (v := 1) dX4_copyFrom_27 (by decide) ?_
  refine wp_istore_n dX4_copyFrom_28 (Nat.le_of_ble_eq_true rfl) ?_
  obtain ⟨r15, e16, h⟩ := bnd h
  refine wp_ls (lsS (lsS (lsS (lsN lsZ)))) (X4_copyFrom_B29_lp FU _ e16 ?_)
  intro t_ ht_; cases ht_
  refine wp_aload_n dX4_copyFrom_68 rfl ?_
  refine wp_aload_n dX4_copyFrom_69 rfl ?_
  obtain ⟨v17, e18, h⟩ := bnd h
  refine wp_getI (c := 4) (k := 7) dX4_copyFrom_70 e18 (by decide) (by decide) rfl fl_RX4_34 ?_
  obtain ⟨M19, e20, h⟩ := bnd h
  refine wp_putI (c := 4) (k := 7) dX4_copyFrom_73 e20 (by decide) (by decide) rfl fl_RX4_34 (Or.inl rfl) ?_
  refine wp_aload_n dX4_copyFrom_76 rfl ?_
  obtain ⟨v21, e22, h⟩ := bnd h
  refine wp_getR (c := 4) (k := 4) dX4_copyFrom_77 e22 (by decide) (by decide) rfl fl_RX4_24 ?_
  refine wp_iconst (v := 0) dX4_copyFrom_80 (by decide) ?_
  refine wp_aload_n dX4_copyFrom_81 rfl ?_
  obtain ⟨v23, e24, h⟩ := bnd h
  refine wp_getR (c := 4) (k := 4) dX4_copyFrom_82 e24 (by decide) (by decide) rfl fl_RX4_24 ?_
  refine wp_iconst (v := 0) dX4_copyFrom_85 (by decide) ?_
  refine wp_bipush (v := 8) dX4_copyFrom_86 (by decide) ?_
  obtain ⟨M25, e26, h⟩ := bnd h
  refine wp_copy dX4_copyFrom_88 e26 ml_RX4_77 ac_1 ac_2 ac_3 (Nat.le_of_ble_eq_true rfl) ?_
  refine wp_aload_n dX4_copyFrom_91 rfl ?_
  obtain ⟨v27, e28, h⟩ := bnd h
  refine wp_getR (c := 4) (k := 5) dX4_copyFrom_92 e28 (by decide) (by decide) rfl fl_RX4_28 ?_
  refine wp_iconst (v := 0) dX4_copyFrom_95 (by decide) ?_
  refine wp_aload_n dX4_copyFrom_96 rfl ?_
  obtain ⟨v29, e30, h⟩ := bnd h
  refine wp_getR (c := 4) (k := 5) dX4_copyFrom_97 e30 (by decide) (by decide) rfl fl_RX4_28 ?_
  refine wp_iconst (v := 0) dX4_copyFrom_100 (by decide) ?_
  refine wp_bipush (v := 8) dX4_copyFrom_101 (by decide) ?_
  obtain ⟨M31, e32, h⟩ := bnd h
  refine wp_copy dX4_copyFrom_103 e32 ml_RX4_77 ac_1 ac_2 ac_3 (Nat.le_of_ble_eq_true rfl) ?_
  refine wp_aload_n dX4_copyFrom_106 rfl ?_
  obtain ⟨v33, e34, h⟩ := bnd h
  refine wp_getR (c := 4) (k := 6) dX4_copyFrom_107 e34 (by decide) (by decide) rfl fl_RX4_31 ?_
  refine wp_iconst (v := 0) dX4_copyFrom_110 (by decide) ?_
  refine wp_aload_n dX4_copyFrom_111 rfl ?_
  obtain ⟨v35, e36, h⟩ := bnd h
  refine wp_getR (c := 4) (k := 6) dX4_copyFrom_112 e36 (by decide) (by decide) rfl fl_RX4_31 ?_
  refine wp_iconst (v := 0) dX4_copyFrom_115 (by decide) ?_
  refine wp_bipush (v := 8) dX4_copyFrom_116 (by decide) ?_
  obtain ⟨M37, e38, h⟩ := bnd h
  refine wp_copy dX4_copyFrom_118 e38 ml_RX4_77 ac_1 ac_2 ac_3 (Nat.le_of_ble_eq_true rfl) ?_
  refine wp_aload_n dX4_copyFrom_121 rfl ?_
  obtain ⟨v39, e40, h⟩ := bnd h
  refine wp_getR (c := 4) (k := 8) dX4_copyFrom_122 e40 (by decide) (by decide) rfl fl_RX4_37 ?_
  refine wp_iconst (v := 0) dX4_copyFrom_125 (by decide) ?_
  refine wp_aload_n dX4_copyFrom_126 rfl ?_
  obtain ⟨v41, e42, h⟩ := bnd h
  refine wp_getR (c := 4) (k := 8) dX4_copyFrom_127 e42 (by decide) (by decide) rfl fl_RX4_37 ?_
  refine wp_iconst (v := 0) dX4_copyFrom_130 (by decide) ?_
  refine wp_iconst (v := 3) dX4_copyFrom_131 (by decide) ?_
  obtain ⟨M43, e44, h⟩ := bnd h
  refine wp_copy dX4_copyFrom_132 e44 ml_RX4_77 ac_1 ac_2 ac_3 (Nat.le_of_ble_eq_true rfl) ?_
  cases h
  exact wp_ret dX4_copyFrom_135 rfl

theorem sh_X4_copyFrom_ok {w : Gw} {d : Nat} {x0 : Nat} {x1 : Nat} {M : Gm} {out : Gm} (h : sh_X4_copyFrom x0 x1 M = some out) : Ev w mdX4_copyFrom (d + 3) [.inr x0, .inr x1] M (.inl none) out := by
  obtain ⟨u, e0, h⟩ := bnd h
  exact ev_of okX4_copyFrom ⟨_, _, rfl, isO_of e0 (by decide), by decide⟩ (Nat.le_of_ble_eq_true rfl) (X4_copyFrom_F_ok h)

/-! HeatGovernor.image()V -/
def X11_image_F (x0 : Nat) (M : Gm) : Option (Gm) :=
  (gfR M x0 11 7).bind fun v1 =>
  (gfR M x0 11 6).bind fun v3 =>
  (sh_X4_copyFrom v1 v3 M).bind fun q5 =>
  (pfZ q5 x0 11 8 1).bind fun M7 =>
  some M7
def sh_X11_image (x0 : Nat) (M : Gm) : Option (Gm) := (isO M x0 11).bind fun _ => X11_image_F x0 M
theorem X11_image_F_ok {w : Gw} {d : Nat} {x0 : Nat} {M : Gm} {out : Gm} (h : X11_image_F x0 M = some out) : Wp w mdX11_image (d + 4) 0 [some (.inr x0)] [] M (.inl none) out := by
  unfold X11_image_F at h
  refine wp_aload_n dX11_image_0 rfl ?_
  obtain ⟨v1, e2, h⟩ := bnd h
  refine wp_getR (c := 11) (k := 7) dX11_image_1 e2 (by decide) (by decide) rfl fl_RX11_48 ?_
  refine wp_aload_n dX11_image_4 rfl ?_
  obtain ⟨v3, e4, h⟩ := bnd h
  refine wp_getR (c := 11) (k := 6) dX11_image_5 e4 (by decide) (by decide) rfl fl_RX11_44 ?_
  obtain ⟨q5, e6, h⟩ := bnd h
  refine wp_callV (As := [.inr v3]) dX11_image_8 (sh_X4_copyFrom_ok (d := d) e6) okX4_copyFrom nnX4_copyFrom vvX4_copyFrom ml_RX11_365 rfl (Nat.le_of_ble_eq_true rfl) ?_
  refine wp_aload_n dX11_image_11 rfl ?_
  refine wp_iconst (v := 1) dX11_image_12 (by decide) ?_
  obtain ⟨M7, e8, h⟩ := bnd h
  refine wp_putZ (c := 11) (k := 8) dX11_image_13 e8 (by decide) (by decide) rfl fl_RX11_51 (Or.inl rfl) ?_
  cases h
  exact wp_ret dX11_image_16 rfl

theorem sh_X11_image_ok {w : Gw} {d : Nat} {x0 : Nat} {M : Gm} {out : Gm} (h : sh_X11_image x0 M = some out) : Ev w mdX11_image (d + 4) [.inr x0] M (.inl none) out := by
  obtain ⟨u, e0, h⟩ := bnd h
  exact ev_of okX11_image ⟨_, _, rfl, isO_of e0 (by decide), by decide⟩ (Nat.le_of_ble_eq_true rfl) (X11_image_F_ok h)

/-! HeatGovernor.restore()Z -/
def X11_restore_F (x0 : Nat) (M : Gm) : Option (Int32 × Gm) :=
  (gfI M x0 11 8).bind fun v1 =>
  if v1 = 0 then
    (zck 0).bind fun z11 =>
    some (z11, M)
  else
    (gfR M x0 11 6).bind fun v3 =>
    (gfR M x0 11 7).bind fun v5 =>
    (sh_X4_copyFrom v3 v5 M).bind fun q7 =>
    (zck 1).bind fun z9 =>
    some (z9, q7)
def sh_X11_restore (x0 : Nat) (M : Gm) : Option (Int32 × Gm) := (isO M x0 11).bind fun _ => X11_restore_F x0 M
theorem X11_restore_F_ok {w : Gw} {d : Nat} {x0 : Nat} {M : Gm} {out : Int32 × Gm} (h : X11_restore_F x0 M = some out) : Wp w mdX11_restore (d + 4) 0 [some (.inr x0)] [] M (.inl (some (.inl out.1))) out.2 := by
  unfold X11_restore_F at h
  refine wp_aload_n dX11_restore_0 rfl ?_
  obtain ⟨v1, e2, h⟩ := bnd h
  refine wp_getI (c := 11) (k := 8) dX11_restore_1 e2 (by decide) (by decide) rfl fl_RX11_51 ?_
  refine wp_if_ne (tgt := 9) dX11_restore_4 (by decide) (fun hc_ => ?_) (fun hc_ => ?_)
  · replace h := ite_f hc_ h
    refine wp_aload_n dX11_restore_9 rfl ?_
    obtain ⟨v3, e4, h⟩ := bnd h
    refine wp_getR (c := 11) (k := 6) dX11_restore_10 e4 (by decide) (by decide) rfl fl_RX11_44 ?_
    refine wp_aload_n dX11_restore_13 rfl ?_
    obtain ⟨v5, e6, h⟩ := bnd h
    refine wp_getR (c := 11) (k := 7) dX11_restore_14 e6 (by decide) (by decide) rfl fl_RX11_48 ?_
    obtain ⟨q7, e8, h⟩ := bnd h
    refine wp_callV (As := [.inr v5]) dX11_restore_17 (sh_X4_copyFrom_ok (d := d) e8) okX4_copyFrom nnX4_copyFrom vvX4_copyFrom ml_RX11_365 rfl (Nat.le_of_ble_eq_true rfl) ?_
    refine wp_iconst (v := 1) dX11_restore_20 (by decide) ?_
    obtain ⟨z9, e10, h⟩ := bnd h
    obtain ⟨hz_, rfl⟩ := zck_of e10
    cases h
    exact wp_zret dX11_restore_21 rfl hz_
  · replace h := ite_t hc_ h
    refine wp_iconst (v := 0) dX11_restore_7 (by decide) ?_
    obtain ⟨z11, e12, h⟩ := bnd h
    obtain ⟨hz_, rfl⟩ := zck_of e12
    cases h
    exact wp_zret dX11_restore_8 rfl hz_

theorem sh_X11_restore_ok {w : Gw} {d : Nat} {x0 : Nat} {M : Gm} {out : Int32 × Gm} (h : sh_X11_restore x0 M = some out) : Ev w mdX11_restore (d + 4) [.inr x0] M (.inl (some (.inl out.1))) out.2 := by
  obtain ⟨u, e0, h⟩ := bnd h
  exact ev_of okX11_restore ⟨_, _, rfl, isO_of e0 (by decide), by decide⟩ (Nat.le_of_ble_eq_true rfl) (X11_restore_F_ok h)

/-! java/util/Arrays.fill([II)V -/
def J7_fill_53178_B5 (x0 : Nat) (x1 : Int32) (x3 : Int32) (q : Int32 × Gm) : Option ((Int32 × Gm) ⊕ Gm) :=
  if x3 ≤ q.1 then
    some (.inr q.2)
  else
    (stA q.2 0 x0 q.1 x1).bind fun M1 =>
    some (.inl (q.1 + 1, M1))
def J7_fill_53178_F (x0 : Nat) (x1 : Int32) (M : Gm) : Option (Gm) :=
  (alen M x0).bind fun v1 =>
  (lp (J7_fill_53178_B5 x0 x1 v1) FU (0, M)).bind fun r3 =>
  some r3
def sh_J7_fill_53178 (x0 : Nat) (x1 : Int32) (M : Gm) : Option (Gm) := J7_fill_53178_F x0 x1 M
theorem J7_fill_53178_B5_ok {w : Gw} {d : Nat} {x0 : Nat} {x1 : Int32} {x3 : Int32} {q : Int32 × Gm} {o : Go} {M' : Gm} {out : (Int32 × Gm) ⊕ Gm} (h : J7_fill_53178_B5 x0 x1 x3 q = some out) (hc : ∀ t : Int32 × Gm, out = .inl t → Wp w mdJ7_fill_53178 d 5 [some (.inr x0), some (.inl x1), some (.inl t.1), some (.inl x3)] [] t.2 o M') (he0 : ∀ t : Gm, out = .inr t → Wp w mdJ7_fill_53178 d 20 [none, none, none, none] [] t o M') : Wp w mdJ7_fill_53178 d 5 [some (.inr x0), some (.inl x1), some (.inl q.1), some (.inl x3)] [] q.2 o M' := by
  unfold J7_fill_53178_B5 at h
  refine wp_iload_n dJ7_fill_53178_5 rfl ?_
  refine wp_iload_n dJ7_fill_53178_6 rfl ?_
  refine wp_icmp_ge (tgt := 20) dJ7_fill_53178_7 (by decide) (fun hc_ => ?_) (fun hc_ => ?_)
  · replace h := ite_t hc_ h
    cases h
    exact wp_ls (lsN (lsN (lsN (lsN lsZ)))) (he0 q.2 rfl)
  · replace h := ite_f hc_ h
    refine wp_aload_n dJ7_fill_53178_10 rfl ?_
    refine wp_iload_n dJ7_fill_53178_11 rfl ?_
    refine wp_iload_n dJ7_fill_53178_12 rfl ?_
    obtain ⟨M1, e2, h⟩ := bnd h
    refine wp_iastore dJ7_fill_53178_13 e2 ?_
    refine wp_iinc (v := q.1 + 1) dJ7_fill_53178_14 rfl rfl ?_
    refine wp_goto (tgt := 5) dJ7_fill_53178_17 (by decide) ?_
    cases h
    exact wp_ls (lsS (lsS (lsS (lsS lsZ)))) (hc (q.1 + 1, M1) rfl)

theorem J7_fill_53178_B5_lp {w : Gw} {d : Nat} {x0 : Nat} {x1 : Int32} {x3 : Int32} {o : Go} {M' : Gm} {r : Gm} : ∀ (n : Nat) (q : Int32 × Gm), lp (J7_fill_53178_B5 x0 x1 x3) n q = some r → (∀ t : Gm, r = t → Wp w mdJ7_fill_53178 d 20 [none, none, none, none] [] t o M') → Wp w mdJ7_fill_53178 d 5 [some (.inr x0), some (.inl x1), some (.inl q.1), some (.inl x3)] [] q.2 o M' := by
  intro n
  induction n with
  | zero => intro q h; cases h
  | succ n ih =>
    intro q h he0
    cases hb : J7_fill_53178_B5 x0 x1 x3 q with
    | none => rw [lp_succ, hb] at h; cases h
    | some out =>
      rw [lp_succ, hb] at h
      exact J7_fill_53178_B5_ok hb (fun t e => ih t (by rw [e] at h; exact h) he0) (fun t e => he0 t (by rw [e] at h; cases h; rfl))
theorem J7_fill_53178_F_ok {w : Gw} {d : Nat} {x0 : Nat} {x1 : Int32} {M : Gm} {out : Gm} (h : J7_fill_53178_F x0 x1 M = some out) : Wp w mdJ7_fill_53178 d 0 [some (.inr x0), some (.inl x1), none, none] [] M (.inl none) out := by
  unfold J7_fill_53178_F at h
  refine wp_iconst (v := 0) dJ7_fill_53178_0 (by decide) ?_
  refine wp_istore_n dJ7_fill_53178_1 (Nat.le_of_ble_eq_true rfl) ?_
  refine wp_aload_n dJ7_fill_53178_2 rfl ?_
  obtain ⟨v1, e2, h⟩ := bnd h
  refine wp_alen dJ7_fill_53178_3 e2 ?_
  refine wp_istore_n dJ7_fill_53178_4 (Nat.le_of_ble_eq_true rfl) ?_
  obtain ⟨r3, e4, h⟩ := bnd h
  refine wp_ls (lsS (lsS (lsS (lsS lsZ)))) (J7_fill_53178_B5_lp FU _ e4 ?_)
  intro t_ ht_; cases ht_
  cases h
  exact wp_ret dJ7_fill_53178_20 rfl

theorem sh_J7_fill_53178_ok {w : Gw} {d : Nat} {x0 : Nat} {x1 : Int32} {M : Gm} {out : Gm} (h : sh_J7_fill_53178 x0 x1 M = some out) : Ev w mdJ7_fill_53178 d [.inr x0, .inl x1] M (.inl none) out := ev_of okJ7_fill_53178 trivial (Nat.le_of_ble_eq_true rfl) (J7_fill_53178_F_ok h)

/-! HeatGovernor$State.begin(LHeatGovernor$Plan;)V -/
def X7_begin_B20 (x0 : Nat) (x1 : Nat) (q : Int32 × Gm) : Option ((Int32 × Gm) ⊕ Gm) :=
  (gfI q.2 x1 5 5).bind fun v1 =>
  if v1 ≤ q.1 then
    some (.inr q.2)
  else
    (gfR q.2 x0 7 3).bind fun v3 =>
    (stA q.2 0 v3 q.1 200).bind fun M5 =>
    (gfR M5 x0 7 6).bind fun v7 =>
    (stA M5 0 v7 q.1 200).bind fun M9 =>
    (gfR M9 x0 7 7).bind fun v11 =>
    (stA M9 0 v11 q.1 0).bind fun M13 =>
    (gfR M13 x0 7 8).bind fun v15 =>
    (stA M13 0 v15 q.1 0).bind fun M17 =>
    (gfR M17 x0 7 4).bind fun v19 =>
    (gfR M17 x1 5 0).bind fun v21 =>
    (ldR M17 4 v21 q.1).bind fun v23 =>
    (gfI M17 v23 10 0).bind fun v25 =>
    (stA M17 0 v19 q.1 v25).bind fun M27 =>
    (gfR M27 x0 7 5).bind fun v29 =>
    (gfR M27 x1 5 0).bind fun v31 =>
    (ldR M27 4 v31 q.1).bind fun v33 =>
    (gfI M27 v33 10 1).bind fun v35 =>
    (stA M27 0 v29 q.1 v35).bind fun M37 =>
    some (.inl (q.1 + 1, M37))
def X7_begin_B124 (x0 : Nat) (x1 : Nat) (q : Int32 × Gm) : Option ((Int32 × Gm) ⊕ Gm) :=
  (gfI q.2 x1 5 7).bind fun v1 =>
  if v1 ≤ q.1 then
    some (.inr q.2)
  else
    (gfR q.2 x0 7 12).bind fun v3 =>
    (stA q.2 0 v3 q.1 0).bind fun M5 =>
    (gfR M5 x0 7 13).bind fun v7 =>
    (stA M5 0 v7 q.1 ((-1))).bind fun M9 =>
    (gfR M9 x0 7 14).bind fun v11 =>
    (gfR M9 x1 5 2).bind fun v13 =>
    (ldR M9 6 v13 q.1).bind fun v15 =>
    (gfI M9 v15 2 3).bind fun v17 =>
    (stA M9 0 v11 q.1 v17).bind fun M19 =>
    some (.inl (q.1 + 1, M19))
def X7_begin_F (x0 : Nat) (x1 : Nat) (M : Gm) : Option (Gm) :=
  (pfR M x0 7 0 x1).bind fun M1 =>
  (pfI M1 x0 7 1 0).bind fun M3 =>
  (gfI M3 x1 5 10).bind fun v5 =>
  (pfI M3 x0 7 2 v5).bind fun M7 =>
  (lp (X7_begin_B20 x0 x1) FU (0, M7)).bind fun r9 =>
  (gfR r9 x0 7 9).bind fun v11 =>
  (sh_J7_fill_53178 v11 200 r9).bind fun q13 =>
  (gfR q13 x0 7 10).bind fun v15 =>
  (sh_J7_fill_53178 v15 0 q13).bind fun q17 =>
  (gfR q17 x0 7 11).bind fun v19 =>
  (sh_J7_fill_53178 v19 0 q17).bind fun q21 =>
  (lp (X7_begin_B124 x0 x1) FU (0, q21)).bind fun r23 =>
  (gfR r23 x0 7 15).bind fun v25 =>
  (sh_J7_fill_53178 v25 0 r23).bind fun q27 =>
  (pfI q27 x0 7 17 0).bind fun M29 =>
  (pfI M29 x0 7 18 0).bind fun M31 =>
  (pfI M31 x0 7 19 0).bind fun M33 =>
  some M33
def sh_X7_begin (x0 : Nat) (x1 : Nat) (M : Gm) : Option (Gm) := (isO M x0 7).bind fun _ => X7_begin_F x0 x1 M
theorem X7_begin_B20_ok {w : Gw} {d : Nat} {x0 : Nat} {x1 : Nat} {q : Int32 × Gm} {o : Go} {M' : Gm} {out : (Int32 × Gm) ⊕ Gm} (h : X7_begin_B20 x0 x1 q = some out) (hc : ∀ t : Int32 × Gm, out = .inl t → Wp w mdX7_begin (d + 1) 20 [some (.inr x0), some (.inr x1), some (.inl t.1)] [] t.2 o M') (he0 : ∀ t : Gm, out = .inr t → Wp w mdX7_begin (d + 1) 96 [some (.inr x0), some (.inr x1), none] [] t o M') : Wp w mdX7_begin (d + 1) 20 [some (.inr x0), some (.inr x1), some (.inl q.1)] [] q.2 o M' := by
  unfold X7_begin_B20 at h
  refine wp_iload_n dX7_begin_20 rfl ?_
  refine wp_aload_n dX7_begin_21 rfl ?_
  obtain ⟨v1, e2, h⟩ := bnd h
  refine wp_getI (c := 5) (k := 5) dX7_begin_22 e2 (by decide) (by decide) rfl fl_RX7_77 ?_
  refine wp_icmp_ge (tgt := 96) dX7_begin_25 (by decide) (fun hc_ => ?_) (fun hc_ => ?_)
  · replace h := ite_t hc_ h
    cases h
    exact wp_ls (lsS (lsS (lsN lsZ))) (he0 q.2 rfl)
  · replace h := ite_f hc_ h
    refine wp_aload_n dX7_begin_28 rfl ?_
    obtain ⟨v3, e4, h⟩ := bnd h
    refine wp_getR (c := 7) (k := 3) dX7_begin_29 e4 (by decide) (by decide) rfl fl_RX7_18 ?_
    refine wp_iload_n dX7_begin_32 rfl ?_
    refine wp_sipush (v := 200) dX7_begin_33 (by decide) ?_
    obtain ⟨M5, e6, h⟩ := bnd h
    refine wp_iastore dX7_begin_36 e6 ?_
    refine wp_aload_n dX7_begin_37 rfl ?_
    obtain ⟨v7, e8, h⟩ := bnd h
    refine wp_getR (c := 7) (k := 6) dX7_begin_38 e8 (by decide) (by decide) rfl fl_RX7_28 ?_
    refine wp_iload_n dX7_begin_41 rfl ?_
    refine wp_sipush (v := 200) dX7_begin_42 (by decide) ?_
    obtain ⟨M9, e10, h⟩ := bnd h
    refine wp_iastore dX7_begin_45 e10 ?_
    refine wp_aload_n dX7_begin_46 rfl ?_
    obtain ⟨v11, e12, h⟩ := bnd h
    refine wp_getR (c := 7) (k := 7) dX7_begin_47 e12 (by decide) (by decide) rfl fl_RX7_31 ?_
    refine wp_iload_n dX7_begin_50 rfl ?_
    refine wp_iconst (v := 0) dX7_begin_51 (by decide) ?_
    obtain ⟨M13, e14, h⟩ := bnd h
    refine wp_iastore dX7_begin_52 e14 ?_
    refine wp_aload_n dX7_begin_53 rfl ?_
    obtain ⟨v15, e16, h⟩ := bnd h
    refine wp_getR (c := 7) (k := 8) dX7_begin_54 e16 (by decide) (by decide) rfl fl_RX7_34 ?_
    refine wp_iload_n dX7_begin_57 rfl ?_
    refine wp_iconst (v := 0) dX7_begin_58 (by decide) ?_
    obtain ⟨M17, e18, h⟩ := bnd h
    refine wp_iastore dX7_begin_59 e18 ?_
    refine wp_aload_n dX7_begin_60 rfl ?_
    obtain ⟨v19, e20, h⟩ := bnd h
    refine wp_getR (c := 7) (k := 4) dX7_begin_61 e20 (by decide) (by decide) rfl fl_RX7_22 ?_
    refine wp_iload_n dX7_begin_64 rfl ?_
    refine wp_aload_n dX7_begin_65 rfl ?_
    obtain ⟨v21, e22, h⟩ := bnd h
    refine wp_getR (c := 5) (k := 0) dX7_begin_66 e22 (by decide) (by decide) rfl fl_RX7_80 ?_
    refine wp_iload_n dX7_begin_69 rfl ?_
    obtain ⟨v23, e24, h⟩ := bnd h
    refine wp_aaload (t := 4) dX7_begin_70 (by decide) rfl e24 ?_
    obtain ⟨v25, e26, h⟩ := bnd h
    refine wp_getI (c := 10) (k := 0) dX7_begin_71 e26 (by decide) (by decide) rfl fl_RX7_84 ?_
    obtain ⟨M27, e28, h⟩ := bnd h
    refine wp_iastore dX7_begin_74 e28 ?_
    refine wp_aload_n dX7_begin_75 rfl ?_
    obtain ⟨v29, e30, h⟩ := bnd h
    refine wp_getR (c := 7) (k := 5) dX7_begin_76 e30 (by decide) (by decide) rfl fl_RX7_25 ?_
    refine wp_iload_n dX7_begin_79 rfl ?_
    refine wp_aload_n dX7_begin_80 rfl ?_
    obtain ⟨v31, e32, h⟩ := bnd h
    refine wp_getR (c := 5) (k := 0) dX7_begin_81 e32 (by decide) (by decide) rfl fl_RX7_80 ?_
    refine wp_iload_n dX7_begin_84 rfl ?_
    obtain ⟨v33, e34, h⟩ := bnd h
    refine wp_aaload (t := 4) dX7_begin_85 (by decide) rfl e34 ?_
    obtain ⟨v35, e36, h⟩ := bnd h
    refine wp_getI (c := 10) (k := 1) dX7_begin_86 e36 (by decide) (by decide) rfl fl_RX7_88 ?_
    obtain ⟨M37, e38, h⟩ := bnd h
    refine wp_iastore dX7_begin_89 e38 ?_
    refine wp_iinc (v := q.1 + 1) dX7_begin_90 rfl rfl ?_
    refine wp_goto (tgt := 20) dX7_begin_93 (by decide) ?_
    cases h
    exact wp_ls (lsS (lsS (lsS lsZ))) (hc (q.1 + 1, M37) rfl)

theorem X7_begin_B20_lp {w : Gw} {d : Nat} {x0 : Nat} {x1 : Nat} {o : Go} {M' : Gm} {r : Gm} : ∀ (n : Nat) (q : Int32 × Gm), lp (X7_begin_B20 x0 x1) n q = some r → (∀ t : Gm, r = t → Wp w mdX7_begin (d + 1) 96 [some (.inr x0), some (.inr x1), none] [] t o M') → Wp w mdX7_begin (d + 1) 20 [some (.inr x0), some (.inr x1), some (.inl q.1)] [] q.2 o M' := by
  intro n
  induction n with
  | zero => intro q h; cases h
  | succ n ih =>
    intro q h he0
    cases hb : X7_begin_B20 x0 x1 q with
    | none => rw [lp_succ, hb] at h; cases h
    | some out =>
      rw [lp_succ, hb] at h
      exact X7_begin_B20_ok hb (fun t e => ih t (by rw [e] at h; exact h) he0) (fun t e => he0 t (by rw [e] at h; cases h; rfl))
theorem X7_begin_B124_ok {w : Gw} {d : Nat} {x0 : Nat} {x1 : Nat} {q : Int32 × Gm} {o : Go} {M' : Gm} {out : (Int32 × Gm) ⊕ Gm} (h : X7_begin_B124 x0 x1 q = some out) (hc : ∀ t : Int32 × Gm, out = .inl t → Wp w mdX7_begin (d + 1) 124 [some (.inr x0), some (.inr x1), some (.inl t.1)] [] t.2 o M') (he0 : ∀ t : Gm, out = .inr t → Wp w mdX7_begin (d + 1) 167 [some (.inr x0), none, none] [] t o M') : Wp w mdX7_begin (d + 1) 124 [some (.inr x0), some (.inr x1), some (.inl q.1)] [] q.2 o M' := by
  unfold X7_begin_B124 at h
  refine wp_iload_n dX7_begin_124 rfl ?_
  refine wp_aload_n dX7_begin_125 rfl ?_
  obtain ⟨v1, e2, h⟩ := bnd h
  refine wp_getI (c := 5) (k := 7) dX7_begin_126 e2 (by decide) (by decide) rfl fl_RX7_96 ?_
  refine wp_icmp_ge (tgt := 167) dX7_begin_129 (by decide) (fun hc_ => ?_) (fun hc_ => ?_)
  · replace h := ite_t hc_ h
    cases h
    exact wp_ls (lsS (lsN (lsN lsZ))) (he0 q.2 rfl)
  · replace h := ite_f hc_ h
    refine wp_aload_n dX7_begin_132 rfl ?_
    obtain ⟨v3, e4, h⟩ := bnd h
    refine wp_getR (c := 7) (k := 12) dX7_begin_133 e4 (by decide) (by decide) rfl fl_RX7_46 ?_
    refine wp_iload_n dX7_begin_136 rfl ?_
    refine wp_iconst (v := 0) dX7_begin_137 (by decide) ?_
    obtain ⟨M5, e6, h⟩ := bnd h
    refine wp_iastore dX7_begin_138 e6 ?_
    refine wp_aload_n dX7_begin_139 rfl ?_
    obtain ⟨v7, e8, h⟩ := bnd h
    refine wp_getR (c := 7) (k := 13) dX7_begin_140 e8 (by decide) (by decide) rfl fl_RX7_49 ?_
    refine wp_iload_n dX7_begin_143 rfl ?_
    refine wp_iconst (v := (-1)) dX7_begin_144 (by decide) ?_
    obtain ⟨M9, e10, h⟩ := bnd h
    refine wp_iastore dX7_begin_145 e10 ?_
    refine wp_aload_n dX7_begin_146 rfl ?_
    obtain ⟨v11, e12, h⟩ := bnd h
    refine wp_getR (c := 7) (k := 14) dX7_begin_147 e12 (by decide) (by decide) rfl fl_RX7_52 ?_
    refine wp_iload_n dX7_begin_150 rfl ?_
    refine wp_aload_n dX7_begin_151 rfl ?_
    obtain ⟨v13, e14, h⟩ := bnd h
    refine wp_getR (c := 5) (k := 2) dX7_begin_152 e14 (by decide) (by decide) rfl fl_RX7_99 ?_
    refine wp_iload_n dX7_begin_155 rfl ?_
    obtain ⟨v15, e16, h⟩ := bnd h
    refine wp_aaload (t := 6) dX7_begin_156 (by decide) rfl e16 ?_
    obtain ⟨v17, e18, h⟩ := bnd h
    refine wp_getI (c := 2) (k := 3) dX7_begin_157 e18 (by decide) (by decide) rfl fl_RX7_103 ?_
    obtain ⟨M19, e20, h⟩ := bnd h
    refine wp_iastore dX7_begin_160 e20 ?_
    refine wp_iinc (v := q.1 + 1) dX7_begin_161 rfl rfl ?_
    refine wp_goto (tgt := 124) dX7_begin_164 (by decide) ?_
    cases h
    exact wp_ls (lsS (lsS (lsS lsZ))) (hc (q.1 + 1, M19) rfl)

theorem X7_begin_B124_lp {w : Gw} {d : Nat} {x0 : Nat} {x1 : Nat} {o : Go} {M' : Gm} {r : Gm} : ∀ (n : Nat) (q : Int32 × Gm), lp (X7_begin_B124 x0 x1) n q = some r → (∀ t : Gm, r = t → Wp w mdX7_begin (d + 1) 167 [some (.inr x0), none, none] [] t o M') → Wp w mdX7_begin (d + 1) 124 [some (.inr x0), some (.inr x1), some (.inl q.1)] [] q.2 o M' := by
  intro n
  induction n with
  | zero => intro q h; cases h
  | succ n ih =>
    intro q h he0
    cases hb : X7_begin_B124 x0 x1 q with
    | none => rw [lp_succ, hb] at h; cases h
    | some out =>
      rw [lp_succ, hb] at h
      exact X7_begin_B124_ok hb (fun t e => ih t (by rw [e] at h; exact h) he0) (fun t e => he0 t (by rw [e] at h; cases h; rfl))
theorem X7_begin_F_ok {w : Gw} {d : Nat} {x0 : Nat} {x1 : Nat} {M : Gm} {out : Gm} (h : X7_begin_F x0 x1 M = some out) : Wp w mdX7_begin (d + 1) 0 [some (.inr x0), some (.inr x1), none] [] M (.inl none) out := by
  unfold X7_begin_F at h
  refine wp_aload_n dX7_begin_0 rfl ?_
  refine wp_aload_n dX7_begin_1 rfl ?_
  obtain ⟨M1, e2, h⟩ := bnd h
  refine wp_putR (c := 7) (k := 0) dX7_begin_2 e2 (by decide) (by decide) rfl fl_RX7_70 (Or.inl rfl) ?_
  refine wp_aload_n dX7_begin_5 rfl ?_
  refine wp_iconst (v := 0) dX7_begin_6 (by decide) ?_
  obtain ⟨M3, e4, h⟩ := bnd h
  refine wp_putI (c := 7) (k := 1) dX7_begin_7 e4 (by decide) (by decide) rfl fl_RX7_9 (Or.inl rfl) ?_
  refine wp_aload_n dX7_begin_10 rfl ?_
  refine wp_aload_n dX7_begin_11 rfl ?_
  obtain ⟨v5, e6, h⟩ := bnd h
  refine wp_getI (c := 5) (k := 10) dX7_begin_12 e6 (by decide) (by decide) rfl fl_RX7_74 ?_
  obtain ⟨M7, e8, h⟩ := bnd h
  refine wp_putI (c := 7) (k := 2) dX7_begin_15 e8 (by decide) (by decide) rfl fl_RX7_15 (Or.inl rfl) ?_
  refine wp_iconst (v := 0) dX7_begin_18 (by decide) ?_
  refine wp_istore_n dX7_begin_19 (Nat.le_of_ble_eq_true rfl) ?_
  obtain ⟨r9, e10, h⟩ := bnd h
  refine wp_ls (lsS (lsS (lsS lsZ))) (X7_begin_B20_lp FU _ e10 ?_)
  intro t_ ht_; cases ht_
  refine wp_aload_n dX7_begin_96 rfl ?_
  obtain ⟨v11, e12, h⟩ := bnd h
  refine wp_getR (c := 7) (k := 9) dX7_begin_97 e12 (by decide) (by decide) rfl fl_RX7_37 ?_
  refine wp_sipush (v := 200) dX7_begin_100 (by decide) ?_
  obtain ⟨q13, e14, h⟩ := bnd h
  refine wp_callS (As := [.inr v11, .inl 200]) dX7_begin_103 (sh_J7_fill_53178_ok (d := d) e14) okJ7_fill_53178 nnJ7_fill_53178 ssJ7_fill_53178 ml_RX7_90 rfl (Nat.le_of_ble_eq_true rfl) ?_
  refine wp_aload_n dX7_begin_106 rfl ?_
  obtain ⟨v15, e16, h⟩ := bnd h
  refine wp_getR (c := 7) (k := 10) dX7_begin_107 e16 (by decide) (by decide) rfl fl_RX7_40 ?_
  refine wp_iconst (v := 0) dX7_begin_110 (by decide) ?_
  obtain ⟨q17, e18, h⟩ := bnd h
  refine wp_callS (As := [.inr v15, .inl 0]) dX7_begin_111 (sh_J7_fill_53178_ok (d := d) e18) okJ7_fill_53178 nnJ7_fill_53178 ssJ7_fill_53178 ml_RX7_90 rfl (Nat.le_of_ble_eq_true rfl) ?_
  refine wp_aload_n dX7_begin_114 rfl ?_
  obtain ⟨v19, e20, h⟩ := bnd h
  refine wp_getR (c := 7) (k := 11) dX7_begin_115 e20 (by decide) (by decide) rfl fl_RX7_43 ?_
  refine wp_iconst (v := 0) dX7_begin_118 (by decide) ?_
  obtain ⟨q21, e22, h⟩ := bnd h
  refine wp_callS (As := [.inr v19, .inl 0]) dX7_begin_119 (sh_J7_fill_53178_ok (d := d) e22) okJ7_fill_53178 nnJ7_fill_53178 ssJ7_fill_53178 ml_RX7_90 rfl (Nat.le_of_ble_eq_true rfl) ?_
  refine wp_iconst (v := 0) dX7_begin_122 (by decide) ?_
  refine wp_istore_n dX7_begin_123 (Nat.le_of_ble_eq_true rfl) ?_
  obtain ⟨r23, e24, h⟩ := bnd h
  refine wp_ls (lsS (lsS (lsS lsZ))) (X7_begin_B124_lp FU _ e24 ?_)
  intro t_ ht_; cases ht_
  refine wp_aload_n dX7_begin_167 rfl ?_
  obtain ⟨v25, e26, h⟩ := bnd h
  refine wp_getR (c := 7) (k := 15) dX7_begin_168 e26 (by decide) (by decide) rfl fl_RX7_55 ?_
  refine wp_iconst (v := 0) dX7_begin_171 (by decide) ?_
  obtain ⟨q27, e28, h⟩ := bnd h
  refine wp_callS (As := [.inr v25, .inl 0]) dX7_begin_172 (sh_J7_fill_53178_ok (d := d) e28) okJ7_fill_53178 nnJ7_fill_53178 ssJ7_fill_53178 ml_RX7_90 rfl (Nat.le_of_ble_eq_true rfl) ?_
  refine wp_aload_n dX7_begin_175 rfl ?_
  refine wp_iconst (v := 0) dX7_begin_176 (by decide) ?_
  obtain ⟨M29, e30, h⟩ := bnd h
  refine wp_putI (c := 7) (k := 17) dX7_begin_177 e30 (by decide) (by decide) rfl fl_RX7_61 (Or.inl rfl) ?_
  refine wp_aload_n dX7_begin_180 rfl ?_
  refine wp_iconst (v := 0) dX7_begin_181 (by decide) ?_
  obtain ⟨M31, e32, h⟩ := bnd h
  refine wp_putI (c := 7) (k := 18) dX7_begin_182 e32 (by decide) (by decide) rfl fl_RX7_64 (Or.inl rfl) ?_
  refine wp_aload_n dX7_begin_185 rfl ?_
  refine wp_iconst (v := 0) dX7_begin_186 (by decide) ?_
  obtain ⟨M33, e34, h⟩ := bnd h
  refine wp_putI (c := 7) (k := 19) dX7_begin_187 e34 (by decide) (by decide) rfl fl_RX7_67 (Or.inl rfl) ?_
  cases h
  exact wp_ret dX7_begin_190 rfl

theorem sh_X7_begin_ok {w : Gw} {d : Nat} {x0 : Nat} {x1 : Nat} {M : Gm} {out : Gm} (h : sh_X7_begin x0 x1 M = some out) : Ev w mdX7_begin (d + 1) [.inr x0, .inr x1] M (.inl none) out := by
  obtain ⟨u, e0, h⟩ := bnd h
  exact ev_of okX7_begin ⟨_, _, rfl, isO_of e0 (by decide), by decide⟩ (Nat.le_of_ble_eq_true rfl) (X7_begin_F_ok h)

/-! HeatGovernor$Memory.begin(LHeatGovernor$Plan;)V -/
def X4_begin_F (x0 : Nat) (x1 : Nat) (M : Gm) : Option (Gm) :=
  (gfR M x0 4 0).bind fun v1 =>
  (sh_X7_begin v1 x1 M).bind fun q3 =>
  (pfI q3 x0 4 2 0).bind fun M5 =>
  (pfI M5 x0 4 3 0).bind fun M7 =>
  (pfI M7 x0 4 7 0).bind fun M9 =>
  some M9
def sh_X4_begin (x0 : Nat) (x1 : Nat) (M : Gm) : Option (Gm) := (isO M x0 4).bind fun _ => X4_begin_F x0 x1 M
theorem X4_begin_F_ok {w : Gw} {d : Nat} {x0 : Nat} {x1 : Nat} {M : Gm} {out : Gm} (h : X4_begin_F x0 x1 M = some out) : Wp w mdX4_begin (d + 2) 0 [some (.inr x0), some (.inr x1)] [] M (.inl none) out := by
  unfold X4_begin_F at h
  refine wp_aload_n dX4_begin_0 rfl ?_
  obtain ⟨v1, e2, h⟩ := bnd h
  refine wp_getR (c := 4) (k := 0) dX4_begin_1 e2 (by decide) (by decide) rfl fl_RX4_43 ?_
  refine wp_aload_n dX4_begin_4 rfl ?_
  obtain ⟨q3, e4, h⟩ := bnd h
  refine wp_callV (As := [.inr x1]) dX4_begin_5 (sh_X7_begin_ok (d := d) e4) okX7_begin nnX7_begin vvX7_begin ml_RX4_47 rfl (Nat.le_of_ble_eq_true rfl) ?_
  refine wp_aload_n dX4_begin_8 rfl ?_
  refine wp_iconst (v := 0) dX4_begin_9 (by decide) ?_
  obtain ⟨M5, e6, h⟩ := bnd h
  refine wp_putI (c := 4) (k := 2) dX4_begin_10 e6 (by decide) (by decide) rfl fl_RX4_17 (Or.inl rfl) ?_
  refine wp_aload_n dX4_begin_13 rfl ?_
  refine wp_iconst (v := 0) dX4_begin_14 (by decide) ?_
  obtain ⟨M7, e8, h⟩ := bnd h
  refine wp_putI (c := 4) (k := 3) dX4_begin_15 e8 (by decide) (by decide) rfl fl_RX4_21 (Or.inl rfl) ?_
  refine wp_aload_n dX4_begin_18 rfl ?_
  refine wp_iconst (v := 0) dX4_begin_19 (by decide) ?_
  obtain ⟨M9, e10, h⟩ := bnd h
  refine wp_putI (c := 4) (k := 7) dX4_begin_20 e10 (by decide) (by decide) rfl fl_RX4_34 (Or.inl rfl) ?_
  cases h
  exact wp_ret dX4_begin_23 rfl

theorem sh_X4_begin_ok {w : Gw} {d : Nat} {x0 : Nat} {x1 : Nat} {M : Gm} {out : Gm} (h : sh_X4_begin x0 x1 M = some out) : Ev w mdX4_begin (d + 2) [.inr x0, .inr x1] M (.inl none) out := by
  obtain ⟨u, e0, h⟩ := bnd h
  exact ev_of okX4_begin ⟨_, _, rfl, isO_of e0 (by decide), by decide⟩ (Nat.le_of_ble_eq_true rfl) (X4_begin_F_ok h)

/-! HeatGovernor$Reader.faultPlace()I -/
def X6_faultPlace_J15 (s0 : Int32) (M : Gm) : Option (Int32) :=
  some s0
def X6_faultPlace_F (x0 : Nat) (M : Gm) : Option (Int32) :=
  (gfI M x0 6 5).bind fun v1 =>
  if v1 = 0 then
    X6_faultPlace_J15 ((-1)) M
  else
    (gfI M x0 6 4).bind fun v3 =>
    X6_faultPlace_J15 v3 M
def sh_X6_faultPlace (x0 : Nat) (M : Gm) : Option (Int32) := (isO M x0 6).bind fun _ => X6_faultPlace_F x0 M
theorem X6_faultPlace_J15_ok {w : Gw} {d : Nat} {s0 : Int32} {M : Gm} {out : Int32} (h : X6_faultPlace_J15 s0 M = some out) : Wp w mdX6_faultPlace d 15 [none] [.inl s0] M (.inl (some (.inl out))) M := by
  unfold X6_faultPlace_J15 at h
  cases h
  exact wp_iret dX6_faultPlace_15 rfl

theorem X6_faultPlace_F_ok {w : Gw} {d : Nat} {x0 : Nat} {M : Gm} {out : Int32} (h : X6_faultPlace_F x0 M = some out) : Wp w mdX6_faultPlace d 0 [some (.inr x0)] [] M (.inl (some (.inl out))) M := by
  unfold X6_faultPlace_F at h
  refine wp_aload_n dX6_faultPlace_0 rfl ?_
  obtain ⟨v1, e2, h⟩ := bnd h
  refine wp_getI (c := 6) (k := 5) dX6_faultPlace_1 e2 (by decide) (by decide) rfl fl_RX6_24 ?_
  refine wp_if_ne (tgt := 11) dX6_faultPlace_4 (by decide) (fun hc_ => ?_) (fun hc_ => ?_)
  · replace h := ite_f hc_ h
    refine wp_aload_n dX6_faultPlace_11 rfl ?_
    obtain ⟨v3, e4, h⟩ := bnd h
    refine wp_getI (c := 6) (k := 4) dX6_faultPlace_12 e4 (by decide) (by decide) rfl fl_RX6_21 ?_
    exact wp_ls (lsN lsZ) (X6_faultPlace_J15_ok h)
  · replace h := ite_t hc_ h
    refine wp_iconst (v := (-1)) dX6_faultPlace_7 (by decide) ?_
    refine wp_goto (tgt := 15) dX6_faultPlace_8 (by decide) ?_
    exact wp_ls (lsN lsZ) (X6_faultPlace_J15_ok h)

theorem sh_X6_faultPlace_ok {w : Gw} {d : Nat} {x0 : Nat} {M : Gm} {out : Int32} (h : sh_X6_faultPlace x0 M = some out) : Ev w mdX6_faultPlace d [.inr x0] M (.inl (some (.inl out))) M := by
  obtain ⟨u, e0, h⟩ := bnd h
  exact ev_of okX6_faultPlace ⟨_, _, rfl, isO_of e0 (by decide), by decide⟩ (Nat.le_of_ble_eq_true rfl) (X6_faultPlace_F_ok h)

/-! HeatGovernor$Plan.clear()V -/
def X5_clear_F (x0 : Nat) (M : Gm) : Option (Gm) :=
  (pfI M x0 5 5 0).bind fun M1 =>
  (pfI M1 x0 5 6 0).bind fun M3 =>
  (pfI M3 x0 5 7 0).bind fun M5 =>
  (pfI M5 x0 5 8 0).bind fun M7 =>
  (pfI M7 x0 5 9 0).bind fun M9 =>
  (pfI M9 x0 5 10 0).bind fun M11 =>
  (pfZ M11 x0 5 11 0).bind fun M13 =>
  some M13
def sh_X5_clear (x0 : Nat) (M : Gm) : Option (Gm) := (isO M x0 5).bind fun _ => X5_clear_F x0 M
theorem X5_clear_F_ok {w : Gw} {d : Nat} {x0 : Nat} {M : Gm} {out : Gm} (h : X5_clear_F x0 M = some out) : Wp w mdX5_clear d 0 [some (.inr x0)] [] M (.inl none) out := by
  unfold X5_clear_F at h
  refine wp_aload_n dX5_clear_0 rfl ?_
  refine wp_iconst (v := 0) dX5_clear_1 (by decide) ?_
  obtain ⟨M1, e2, h⟩ := bnd h
  refine wp_putI (c := 5) (k := 5) dX5_clear_2 e2 (by decide) (by decide) rfl fl_RX5_41 (Or.inl rfl) ?_
  refine wp_aload_n dX5_clear_5 rfl ?_
  refine wp_iconst (v := 0) dX5_clear_6 (by decide) ?_
  obtain ⟨M3, e4, h⟩ := bnd h
  refine wp_putI (c := 5) (k := 6) dX5_clear_7 e4 (by decide) (by decide) rfl fl_RX5_45 (Or.inl rfl) ?_
  refine wp_aload_n dX5_clear_10 rfl ?_
  refine wp_iconst (v := 0) dX5_clear_11 (by decide) ?_
  obtain ⟨M5, e6, h⟩ := bnd h
  refine wp_putI (c := 5) (k := 7) dX5_clear_12 e6 (by decide) (by decide) rfl fl_RX5_48 (Or.inl rfl) ?_
  refine wp_aload_n dX5_clear_15 rfl ?_
  refine wp_iconst (v := 0) dX5_clear_16 (by decide) ?_
  obtain ⟨M7, e8, h⟩ := bnd h
  refine wp_putI (c := 5) (k := 8) dX5_clear_17 e8 (by decide) (by decide) rfl fl_RX5_51 (Or.inl rfl) ?_
  refine wp_aload_n dX5_clear_20 rfl ?_
  refine wp_iconst (v := 0) dX5_clear_21 (by decide) ?_
  obtain ⟨M9, e10, h⟩ := bnd h
  refine wp_putI (c := 5) (k := 9) dX5_clear_22 e10 (by decide) (by decide) rfl fl_RX5_54 (Or.inl rfl) ?_
  refine wp_aload_n dX5_clear_25 rfl ?_
  refine wp_iconst (v := 0) dX5_clear_26 (by decide) ?_
  obtain ⟨M11, e12, h⟩ := bnd h
  refine wp_putI (c := 5) (k := 10) dX5_clear_27 e12 (by decide) (by decide) rfl fl_RX5_57 (Or.inl rfl) ?_
  refine wp_aload_n dX5_clear_30 rfl ?_
  refine wp_iconst (v := 0) dX5_clear_31 (by decide) ?_
  obtain ⟨M13, e14, h⟩ := bnd h
  refine wp_putZ (c := 5) (k := 11) dX5_clear_32 e14 (by decide) (by decide) rfl fl_RX5_60 (Or.inl rfl) ?_
  cases h
  exact wp_ret dX5_clear_35 rfl

theorem sh_X5_clear_ok {w : Gw} {d : Nat} {x0 : Nat} {M : Gm} {out : Gm} (h : sh_X5_clear x0 M = some out) : Ev w mdX5_clear d [.inr x0] M (.inl none) out := by
  obtain ⟨u, e0, h⟩ := bnd h
  exact ev_of okX5_clear ⟨_, _, rfl, isO_of e0 (by decide), by decide⟩ (Nat.le_of_ble_eq_true rfl) (X5_clear_F_ok h)

/-! HeatGovernor$Plan.findBindsOfTrips()V -/
def X5_findBindsOfTrips_B22 (x0 : Nat) (x2 : Int32) (M : Gm) (q : Int32) : Option (Int32 ⊕ Int32) :=
  (gfI M x0 5 8).bind fun v1 =>
  if v1 ≤ q then
    some (.inr q)
  else
    (gfR M x0 5 3).bind fun v3 =>
    (ldR M 7 v3 q).bind fun v5 =>
    (gfI M v5 0 0).bind fun v7 =>
    if v7 = x2 then
      some (.inl (q + 1))
    else
      some (.inr q)
def X5_findBindsOfTrips_J49 (x0 : Nat) (x1 : Int32) (x2 : Int32) (M : Gm) : Option ((Int32 × Int32 × Gm) ⊕ Gm) :=
  (gfR M x0 5 1).bind fun v1 =>
  (ldR M 5 v1 x2).bind fun v3 =>
  (pfI M v3 8 5 x1).bind fun M5 =>
  some (.inl (x1, x2 + 1, M5))
def X5_findBindsOfTrips_B4 (x0 : Nat) (q : Int32 × Int32 × Gm) : Option ((Int32 × Int32 × Gm) ⊕ Gm) :=
  (gfI q.2.2 x0 5 6).bind fun v1 =>
  if v1 ≤ q.2.1 then
    some (.inr q.2.2)
  else
    (gfR q.2.2 x0 5 1).bind fun v3 =>
    (ldR q.2.2 5 v3 q.2.1).bind fun v5 =>
    (pfI q.2.2 v5 8 4 q.1).bind fun M7 =>
    (lp (X5_findBindsOfTrips_B22 x0 q.2.1 M7) FU q.1).bind fun r9 =>
    X5_findBindsOfTrips_J49 x0 r9 q.2.1 M7
def X5_findBindsOfTrips_F (x0 : Nat) (M : Gm) : Option (Gm) :=
  (lp (X5_findBindsOfTrips_B4 x0) FU (0, 0, M)).bind fun r1 =>
  some r1
def sh_X5_findBindsOfTrips (x0 : Nat) (M : Gm) : Option (Gm) := (isO M x0 5).bind fun _ => X5_findBindsOfTrips_F x0 M
theorem X5_findBindsOfTrips_B22_ok {w : Gw} {d : Nat} {x0 : Nat} {x2 : Int32} {M : Gm} {q : Int32} {o : Go} {M' : Gm} {out : Int32 ⊕ Int32} (h : X5_findBindsOfTrips_B22 x0 x2 M q = some out) (hc : ∀ t : Int32, out = .inl t → Wp w mdX5_findBindsOfTrips d 22 [some (.inr x0), some (.inl t), some (.inl x2)] [] M o M') (he0 : ∀ t : Int32, out = .inr t → Wp w mdX5_findBindsOfTrips d 49 [some (.inr x0), some (.inl t), some (.inl x2)] [] M o M') : Wp w mdX5_findBindsOfTrips d 22 [some (.inr x0), some (.inl q), some (.inl x2)] [] M o M' := by
  unfold X5_findBindsOfTrips_B22 at h
  refine wp_iload_n dX5_findBindsOfTrips_22 rfl ?_
  refine wp_aload_n dX5_findBindsOfTrips_23 rfl ?_
  obtain ⟨v1, e2, h⟩ := bnd h
  refine wp_getI (c := 5) (k := 8) dX5_findBindsOfTrips_24 e2 (by decide) (by decide) rfl fl_RX5_51 ?_
  refine wp_icmp_ge (tgt := 49) dX5_findBindsOfTrips_27 (by decide) (fun hc_ => ?_) (fun hc_ => ?_)
  · replace h := ite_t hc_ h
    cases h
    exact wp_ls (lsS (lsS (lsS lsZ))) (he0 q rfl)
  · replace h := ite_f hc_ h
    refine wp_aload_n dX5_findBindsOfTrips_30 rfl ?_
    obtain ⟨v3, e4, h⟩ := bnd h
    refine wp_getR (c := 5) (k := 3) dX5_findBindsOfTrips_31 e4 (by decide) (by decide) rfl fl_RX5_31 ?_
    refine wp_iload_n dX5_findBindsOfTrips_34 rfl ?_
    obtain ⟨v5, e6, h⟩ := bnd h
    refine wp_aaload (t := 7) dX5_findBindsOfTrips_35 (by decide) rfl e6 ?_
    obtain ⟨v7, e8, h⟩ := bnd h
    refine wp_getI (c := 0) (k := 0) dX5_findBindsOfTrips_36 e8 (by decide) (by decide) rfl fl_RX5_75 ?_
    refine wp_iload_n dX5_findBindsOfTrips_39 rfl ?_
    refine wp_icmp_ne (tgt := 49) dX5_findBindsOfTrips_40 (by decide) (fun hc_ => ?_) (fun hc_ => ?_)
    · replace h := ite_f hc_ h
      cases h
      exact wp_ls (lsS (lsS (lsS lsZ))) (he0 q rfl)
    · replace h := ite_t hc_ h
      refine wp_iinc (v := q + 1) dX5_findBindsOfTrips_43 rfl rfl ?_
      refine wp_goto (tgt := 22) dX5_findBindsOfTrips_46 (by decide) ?_
      cases h
      exact wp_ls (lsS (lsS (lsS lsZ))) (hc (q + 1) rfl)

theorem X5_findBindsOfTrips_B22_lp {w : Gw} {d : Nat} {x0 : Nat} {x2 : Int32} {M : Gm} {o : Go} {M' : Gm} {r : Int32} : ∀ (n : Nat) (q : Int32), lp (X5_findBindsOfTrips_B22 x0 x2 M) n q = some r → (∀ t : Int32, r = t → Wp w mdX5_findBindsOfTrips d 49 [some (.inr x0), some (.inl t), some (.inl x2)] [] M o M') → Wp w mdX5_findBindsOfTrips d 22 [some (.inr x0), some (.inl q), some (.inl x2)] [] M o M' := by
  intro n
  induction n with
  | zero => intro q h; cases h
  | succ n ih =>
    intro q h he0
    cases hb : X5_findBindsOfTrips_B22 x0 x2 M q with
    | none => rw [lp_succ, hb] at h; cases h
    | some out =>
      rw [lp_succ, hb] at h
      exact X5_findBindsOfTrips_B22_ok hb (fun t e => ih t (by rw [e] at h; exact h) he0) (fun t e => he0 t (by rw [e] at h; cases h; rfl))
theorem X5_findBindsOfTrips_J49_ok {w : Gw} {d : Nat} {x0 : Nat} {x1 : Int32} {x2 : Int32} {M : Gm} {o : Go} {M' : Gm} {out : (Int32 × Int32 × Gm) ⊕ Gm} (h : X5_findBindsOfTrips_J49 x0 x1 x2 M = some out) (hc : ∀ t : Int32 × Int32 × Gm, out = .inl t → Wp w mdX5_findBindsOfTrips d 4 [some (.inr x0), some (.inl t.1), some (.inl t.2.1)] [] t.2.2 o M') (he0 : ∀ t : Gm, out = .inr t → Wp w mdX5_findBindsOfTrips d 65 [none, none, none] [] t o M') : Wp w mdX5_findBindsOfTrips d 49 [some (.inr x0), some (.inl x1), some (.inl x2)] [] M o M' := by
  unfold X5_findBindsOfTrips_J49 at h
  refine wp_aload_n dX5_findBindsOfTrips_49 rfl ?_
  obtain ⟨v1, e2, h⟩ := bnd h
  refine wp_getR (c := 5) (k := 1) dX5_findBindsOfTrips_50 e2 (by decide) (by decide) rfl fl_RX5_19 ?_
  refine wp_iload_n dX5_findBindsOfTrips_53 rfl ?_
  obtain ⟨v3, e4, h⟩ := bnd h
  refine wp_aaload (t := 5) dX5_findBindsOfTrips_54 (by decide) rfl e4 ?_
  refine wp_iload_n dX5_findBindsOfTrips_55 rfl ?_
  obtain ⟨M5, e6, h⟩ := bnd h
  refine wp_putI (c := 8) (k := 5) dX5_findBindsOfTrips_56 e6 (by decide) (by decide) rfl fl_RX5_91 (Or.inl rfl) ?_
  refine wp_iinc (v := x2 + 1) dX5_findBindsOfTrips_59 rfl rfl ?_
  refine wp_goto (tgt := 4) dX5_findBindsOfTrips_62 (by decide) ?_
  cases h
  exact wp_ls (lsS (lsS (lsS lsZ))) (hc (x1, x2 + 1, M5) rfl)

theorem X5_findBindsOfTrips_B4_ok {w : Gw} {d : Nat} {x0 : Nat} {q : Int32 × Int32 × Gm} {o : Go} {M' : Gm} {out : (Int32 × Int32 × Gm) ⊕ Gm} (h : X5_findBindsOfTrips_B4 x0 q = some out) (hc : ∀ t : Int32 × Int32 × Gm, out = .inl t → Wp w mdX5_findBindsOfTrips d 4 [some (.inr x0), some (.inl t.1), some (.inl t.2.1)] [] t.2.2 o M') (he0 : ∀ t : Gm, out = .inr t → Wp w mdX5_findBindsOfTrips d 65 [none, none, none] [] t o M') : Wp w mdX5_findBindsOfTrips d 4 [some (.inr x0), some (.inl q.1), some (.inl q.2.1)] [] q.2.2 o M' := by
  unfold X5_findBindsOfTrips_B4 at h
  refine wp_iload_n dX5_findBindsOfTrips_4 rfl ?_
  refine wp_aload_n dX5_findBindsOfTrips_5 rfl ?_
  obtain ⟨v1, e2, h⟩ := bnd h
  refine wp_getI (c := 5) (k := 6) dX5_findBindsOfTrips_6 e2 (by decide) (by decide) rfl fl_RX5_45 ?_
  refine wp_icmp_ge (tgt := 65) dX5_findBindsOfTrips_9 (by decide) (fun hc_ => ?_) (fun hc_ => ?_)
  · replace h := ite_t hc_ h
    cases h
    exact wp_ls (lsN (lsN (lsN lsZ))) (he0 q.2.2 rfl)
  · replace h := ite_f hc_ h
    refine wp_aload_n dX5_findBindsOfTrips_12 rfl ?_
    obtain ⟨v3, e4, h⟩ := bnd h
    refine wp_getR (c := 5) (k := 1) dX5_findBindsOfTrips_13 e4 (by decide) (by decide) rfl fl_RX5_19 ?_
    refine wp_iload_n dX5_findBindsOfTrips_16 rfl ?_
    obtain ⟨v5, e6, h⟩ := bnd h
    refine wp_aaload (t := 5) dX5_findBindsOfTrips_17 (by decide) rfl e6 ?_
    refine wp_iload_n dX5_findBindsOfTrips_18 rfl ?_
    obtain ⟨M7, e8, h⟩ := bnd h
    refine wp_putI (c := 8) (k := 4) dX5_findBindsOfTrips_19 e8 (by decide) (by decide) rfl fl_RX5_88 (Or.inl rfl) ?_
    obtain ⟨r9, e10, h⟩ := bnd h
    refine wp_ls (lsS (lsS (lsS lsZ))) (X5_findBindsOfTrips_B22_lp FU _ e10 ?_)
    intro t_ ht_; cases ht_
    exact wp_ls (lsS (lsS (lsS lsZ))) (X5_findBindsOfTrips_J49_ok h hc he0)

theorem X5_findBindsOfTrips_B4_lp {w : Gw} {d : Nat} {x0 : Nat} {o : Go} {M' : Gm} {r : Gm} : ∀ (n : Nat) (q : Int32 × Int32 × Gm), lp (X5_findBindsOfTrips_B4 x0) n q = some r → (∀ t : Gm, r = t → Wp w mdX5_findBindsOfTrips d 65 [none, none, none] [] t o M') → Wp w mdX5_findBindsOfTrips d 4 [some (.inr x0), some (.inl q.1), some (.inl q.2.1)] [] q.2.2 o M' := by
  intro n
  induction n with
  | zero => intro q h; cases h
  | succ n ih =>
    intro q h he0
    cases hb : X5_findBindsOfTrips_B4 x0 q with
    | none => rw [lp_succ, hb] at h; cases h
    | some out =>
      rw [lp_succ, hb] at h
      exact X5_findBindsOfTrips_B4_ok hb (fun t e => ih t (by rw [e] at h; exact h) he0) (fun t e => he0 t (by rw [e] at h; cases h; rfl))
theorem X5_findBindsOfTrips_F_ok {w : Gw} {d : Nat} {x0 : Nat} {M : Gm} {out : Gm} (h : X5_findBindsOfTrips_F x0 M = some out) : Wp w mdX5_findBindsOfTrips d 0 [some (.inr x0), none, none] [] M (.inl none) out := by
  unfold X5_findBindsOfTrips_F at h
  refine wp_iconst (v := 0) dX5_findBindsOfTrips_0 (by decide) ?_
  refine wp_istore_n dX5_findBindsOfTrips_1 (Nat.le_of_ble_eq_true rfl) ?_
  refine wp_iconst (v := 0) dX5_findBindsOfTrips_2 (by decide) ?_
  refine wp_istore_n dX5_findBindsOfTrips_3 (Nat.le_of_ble_eq_true rfl) ?_
  obtain ⟨r1, e2, h⟩ := bnd h
  refine wp_ls (lsS (lsS (lsS lsZ))) (X5_findBindsOfTrips_B4_lp FU _ e2 ?_)
  intro t_ ht_; cases ht_
  cases h
  exact wp_ret dX5_findBindsOfTrips_65 rfl

theorem sh_X5_findBindsOfTrips_ok {w : Gw} {d : Nat} {x0 : Nat} {M : Gm} {out : Gm} (h : sh_X5_findBindsOfTrips x0 M = some out) : Ev w mdX5_findBindsOfTrips d [.inr x0] M (.inl none) out := by
  obtain ⟨u, e0, h⟩ := bnd h
  exact ev_of okX5_findBindsOfTrips ⟨_, _, rfl, isO_of e0 (by decide), by decide⟩ (Nat.le_of_ble_eq_true rfl) (X5_findBindsOfTrips_F_ok h)

/-! HeatGovernor$Reader.tokenAt(I)I -/
def X6_tokenAt_J74 (s0 : Int32) (M : Gm) : Option (Int32) :=
  some s0
def X6_tokenAt_J58 (x0 : Nat) (x1 : Int32) (M : Gm) : Option (Int32) :=
  (gfR M x0 6 0).bind fun v1 =>
  (ldA M 1 v1 x1).bind fun v3 =>
  if v3 = 59 then
    X6_tokenAt_J74 3 M
  else
    X6_tokenAt_J74 4 M
def X6_tokenAt_J34 (x0 : Nat) (x1 : Int32) (M : Gm) : Option (Int32) :=
  (gfR M x0 6 0).bind fun v1 =>
  (ldA M 1 v1 x1).bind fun v3 =>
  if v3 < 48 then
    X6_tokenAt_J58 x0 x1 M
  else
    (gfR M x0 6 0).bind fun v5 =>
    (ldA M 1 v5 x1).bind fun v7 =>
    if 57 < v7 then
      X6_tokenAt_J58 x0 x1 M
    else
      some 2
def X6_tokenAt_F (x0 : Nat) (x1 : Int32) (M : Gm) : Option (Int32) :=
  (gfI M x0 6 1).bind fun v1 =>
  if x1 < v1 then
    (gfR M x0 6 0).bind fun v3 =>
    (ldA M 1 v3 x1).bind fun v5 =>
    if v5 < 97 then
      X6_tokenAt_J34 x0 x1 M
    else
      (gfR M x0 6 0).bind fun v7 =>
      (ldA M 1 v7 x1).bind fun v9 =>
      if 122 < v9 then
        X6_tokenAt_J34 x0 x1 M
      else
        some 1
  else
    some 0
def sh_X6_tokenAt (x0 : Nat) (x1 : Int32) (M : Gm) : Option (Int32) := (isO M x0 6).bind fun _ => X6_tokenAt_F x0 x1 M
theorem X6_tokenAt_J74_ok {w : Gw} {d : Nat} {s0 : Int32} {M : Gm} {out : Int32} (h : X6_tokenAt_J74 s0 M = some out) : Wp w mdX6_tokenAt d 74 [none, none] [.inl s0] M (.inl (some (.inl out))) M := by
  unfold X6_tokenAt_J74 at h
  cases h
  exact wp_iret dX6_tokenAt_74 rfl

theorem X6_tokenAt_J58_ok {w : Gw} {d : Nat} {x0 : Nat} {x1 : Int32} {M : Gm} {out : Int32} (h : X6_tokenAt_J58 x0 x1 M = some out) : Wp w mdX6_tokenAt d 58 [some (.inr x0), some (.inl x1)] [] M (.inl (some (.inl out))) M := by
  unfold X6_tokenAt_J58 at h
  refine wp_aload_n dX6_tokenAt_58 rfl ?_
  obtain ⟨v1, e2, h⟩ := bnd h
  refine wp_getR (c := 6) (k := 0) dX6_tokenAt_59 e2 (by decide) (by decide) rfl fl_RX6_27 ?_
  refine wp_iload_n dX6_tokenAt_62 rfl ?_
  obtain ⟨v3, e4, h⟩ := bnd h
  refine wp_baload dX6_tokenAt_63 e4 ?_
  refine wp_bipush (v := 59) dX6_tokenAt_64 (by decide) ?_
  refine wp_icmp_ne (tgt := 73) dX6_tokenAt_66 (by decide) (fun hc_ => ?_) (fun hc_ => ?_)
  · replace h := ite_f hc_ h
    refine wp_iconst (v := 4) dX6_tokenAt_73 (by decide) ?_
    exact wp_ls (lsN (lsN lsZ)) (X6_tokenAt_J74_ok h)
  · replace h := ite_t hc_ h
    refine wp_iconst (v := 3) dX6_tokenAt_69 (by decide) ?_
    refine wp_goto (tgt := 74) dX6_tokenAt_70 (by decide) ?_
    exact wp_ls (lsN (lsN lsZ)) (X6_tokenAt_J74_ok h)

theorem X6_tokenAt_J34_ok {w : Gw} {d : Nat} {x0 : Nat} {x1 : Int32} {M : Gm} {out : Int32} (h : X6_tokenAt_J34 x0 x1 M = some out) : Wp w mdX6_tokenAt d 34 [some (.inr x0), some (.inl x1)] [] M (.inl (some (.inl out))) M := by
  unfold X6_tokenAt_J34 at h
  refine wp_aload_n dX6_tokenAt_34 rfl ?_
  obtain ⟨v1, e2, h⟩ := bnd h
  refine wp_getR (c := 6) (k := 0) dX6_tokenAt_35 e2 (by decide) (by decide) rfl fl_RX6_27 ?_
  refine wp_iload_n dX6_tokenAt_38 rfl ?_
  obtain ⟨v3, e4, h⟩ := bnd h
  refine wp_baload dX6_tokenAt_39 e4 ?_
  refine wp_bipush (v := 48) dX6_tokenAt_40 (by decide) ?_
  refine wp_icmp_lt (tgt := 58) dX6_tokenAt_42 (by decide) (fun hc_ => ?_) (fun hc_ => ?_)
  · replace h := ite_t hc_ h
    exact wp_ls (lsS (lsS lsZ)) (X6_tokenAt_J58_ok h)
  · replace h := ite_f hc_ h
    refine wp_aload_n dX6_tokenAt_45 rfl ?_
    obtain ⟨v5, e6, h⟩ := bnd h
    refine wp_getR (c := 6) (k := 0) dX6_tokenAt_46 e6 (by decide) (by decide) rfl fl_RX6_27 ?_
    refine wp_iload_n dX6_tokenAt_49 rfl ?_
    obtain ⟨v7, e8, h⟩ := bnd h
    refine wp_baload dX6_tokenAt_50 e8 ?_
    refine wp_bipush (v := 57) dX6_tokenAt_51 (by decide) ?_
    refine wp_icmp_gt (tgt := 58) dX6_tokenAt_53 (by decide) (fun hc_ => ?_) (fun hc_ => ?_)
    · replace h := ite_t hc_ h
      exact wp_ls (lsS (lsS lsZ)) (X6_tokenAt_J58_ok h)
    · replace h := ite_f hc_ h
      refine wp_iconst (v := 2) dX6_tokenAt_56 (by decide) ?_
      cases h
      exact wp_iret dX6_tokenAt_57 rfl

theorem X6_tokenAt_F_ok {w : Gw} {d : Nat} {x0 : Nat} {x1 : Int32} {M : Gm} {out : Int32} (h : X6_tokenAt_F x0 x1 M = some out) : Wp w mdX6_tokenAt d 0 [some (.inr x0), some (.inl x1)] [] M (.inl (some (.inl out))) M := by
  unfold X6_tokenAt_F at h
  refine wp_iload_n dX6_tokenAt_0 rfl ?_
  refine wp_aload_n dX6_tokenAt_1 rfl ?_
  obtain ⟨v1, e2, h⟩ := bnd h
  refine wp_getI (c := 6) (k := 1) dX6_tokenAt_2 e2 (by decide) (by decide) rfl fl_RX6_9 ?_
  refine wp_icmp_lt (tgt := 10) dX6_tokenAt_5 (by decide) (fun hc_ => ?_) (fun hc_ => ?_)
  · replace h := ite_t hc_ h
    refine wp_aload_n dX6_tokenAt_10 rfl ?_
    obtain ⟨v3, e4, h⟩ := bnd h
    refine wp_getR (c := 6) (k := 0) dX6_tokenAt_11 e4 (by decide) (by decide) rfl fl_RX6_27 ?_
    refine wp_iload_n dX6_tokenAt_14 rfl ?_
    obtain ⟨v5, e6, h⟩ := bnd h
    refine wp_baload dX6_tokenAt_15 e6 ?_
    refine wp_bipush (v := 97) dX6_tokenAt_16 (by decide) ?_
    refine wp_icmp_lt (tgt := 34) dX6_tokenAt_18 (by decide) (fun hc_ => ?_) (fun hc_ => ?_)
    · replace h := ite_t hc_ h
      exact wp_ls (lsS (lsS lsZ)) (X6_tokenAt_J34_ok h)
    · replace h := ite_f hc_ h
      refine wp_aload_n dX6_tokenAt_21 rfl ?_
      obtain ⟨v7, e8, h⟩ := bnd h
      refine wp_getR (c := 6) (k := 0) dX6_tokenAt_22 e8 (by decide) (by decide) rfl fl_RX6_27 ?_
      refine wp_iload_n dX6_tokenAt_25 rfl ?_
      obtain ⟨v9, e10, h⟩ := bnd h
      refine wp_baload dX6_tokenAt_26 e10 ?_
      refine wp_bipush (v := 122) dX6_tokenAt_27 (by decide) ?_
      refine wp_icmp_gt (tgt := 34) dX6_tokenAt_29 (by decide) (fun hc_ => ?_) (fun hc_ => ?_)
      · replace h := ite_t hc_ h
        exact wp_ls (lsS (lsS lsZ)) (X6_tokenAt_J34_ok h)
      · replace h := ite_f hc_ h
        refine wp_iconst (v := 1) dX6_tokenAt_32 (by decide) ?_
        cases h
        exact wp_iret dX6_tokenAt_33 rfl
  · replace h := ite_f hc_ h
    refine wp_iconst (v := 0) dX6_tokenAt_8 (by decide) ?_
    cases h
    exact wp_iret dX6_tokenAt_9 rfl

theorem sh_X6_tokenAt_ok {w : Gw} {d : Nat} {x0 : Nat} {x1 : Int32} {M : Gm} {out : Int32} (h : sh_X6_tokenAt x0 x1 M = some out) : Ev w mdX6_tokenAt d [.inr x0, .inl x1] M (.inl (some (.inl out))) M := by
  obtain ⟨u, e0, h⟩ := bnd h
  exact ev_of okX6_tokenAt ⟨_, _, rfl, isO_of e0 (by decide), by decide⟩ (Nat.le_of_ble_eq_true rfl) (X6_tokenAt_F_ok h)

/-! HeatGovernor$Reader.nextToken()V -/
def X6_nextToken_J47 (x0 : Nat) (M : Gm) : Option (Gm ⊕ Gm) :=
  (gfI M x0 6 2).bind fun v1 =>
  (pfI M x0 6 2 (v1 + 1)).bind fun M3 =>
  some (.inl M3)
def X6_nextToken_B8 (x0 : Nat) (q : Gm) : Option (Gm ⊕ Gm) :=
  (gfI q x0 6 2).bind fun v1 =>
  (gfI q x0 6 1).bind fun v3 =>
  if v3 ≤ v1 then
    some (.inr q)
  else
    (gfR q x0 6 0).bind fun v5 =>
    (gfI q x0 6 2).bind fun v7 =>
    (ldA q 1 v5 v7).bind fun v9 =>
    if v9 = 32 then
      X6_nextToken_J47 x0 q
    else
      (gfR q x0 6 0).bind fun v11 =>
      (gfI q x0 6 2).bind fun v13 =>
      (ldA q 1 v11 v13).bind fun v15 =>
      if v15 = 10 then
        X6_nextToken_J47 x0 q
      else
        some (.inr q)
def X6_nextToken_B119 (x0 : Nat) (x1 : Int32) (q : Gm) : Option (Gm ⊕ Gm) :=
  if x1 = 0 then
    some (.inr q)
  else
    (gfI q x0 6 2).bind fun v1 =>
    (gfI q x0 6 1).bind fun v3 =>
    if v3 ≤ v1 then
      some (.inr q)
    else
      (gfI q x0 6 2).bind fun v5 =>
      (sh_X6_tokenAt x0 v5 q).bind fun q7 =>
      (gfI q x0 6 3).bind fun v9 =>
      if q7 = v9 then
        (gfI q x0 6 2).bind fun v11 =>
        (pfI q x0 6 2 (v11 + 1)).bind fun M13 =>
        some (.inl M13)
      else
        some (.inr q)
def X6_nextToken_J162 (M : Gm) : Option (Gm) :=
  some M
def X6_nextToken_J101 (x0 : Nat) (s0 : Int32) (M : Gm) : Option (Gm) :=
  (gfI M x0 6 2).bind fun v1 =>
  (gfI M x0 6 1).bind fun v3 =>
  (sh_J9_min_7cf53 (v1 + 1) v3 M).bind fun q5 =>
  (pfI M x0 6 2 q5).bind fun M7 =>
  (lp (X6_nextToken_B119 x0 s0) FU M7).bind fun r9 =>
  X6_nextToken_J162 r9
def X6_nextToken_J96 (x0 : Nat) (M : Gm) : Option (Gm) :=
  X6_nextToken_J101 x0 1 M
def X6_nextToken_J60 (x0 : Nat) (M : Gm) : Option (Gm) :=
  (gfI M x0 6 2).bind fun v1 =>
  (pfI M x0 6 4 v1).bind fun M3 =>
  (gfI M3 x0 6 2).bind fun v5 =>
  (sh_X6_tokenAt x0 v5 M3).bind fun q7 =>
  (pfI M3 x0 6 3 q7).bind fun M9 =>
  (gfI M9 x0 6 3).bind fun v11 =>
  if v11 = 1 then
    X6_nextToken_J96 x0 M9
  else
    (gfI M9 x0 6 3).bind fun v13 =>
    if v13 = 2 then
      X6_nextToken_J96 x0 M9
    else
      X6_nextToken_J101 x0 0 M9
def X6_nextToken_F (x0 : Nat) (M : Gm) : Option (Gm) :=
  (gfI M x0 6 5).bind fun v1 =>
  if v1 = 0 then
    (lp (X6_nextToken_B8 x0) FU M).bind fun r3 =>
    X6_nextToken_J60 x0 r3
  else
    some M
def sh_X6_nextToken (x0 : Nat) (M : Gm) : Option (Gm) := (isO M x0 6).bind fun _ => X6_nextToken_F x0 M
theorem X6_nextToken_J47_ok {w : Gw} {d : Nat} {x0 : Nat} {M : Gm} {o : Go} {M' : Gm} {out : Gm ⊕ Gm} (h : X6_nextToken_J47 x0 M = some out) (hc : ∀ t : Gm, out = .inl t → Wp w mdX6_nextToken (d + 1) 8 [some (.inr x0), none] [] t o M') (he0 : ∀ t : Gm, out = .inr t → Wp w mdX6_nextToken (d + 1) 60 [some (.inr x0), none] [] t o M') : Wp w mdX6_nextToken (d + 1) 47 [some (.inr x0), none] [] M o M' := by
  unfold X6_nextToken_J47 at h
  refine wp_aload_n dX6_nextToken_47 rfl ?_
  refine wp_dup dX6_nextToken_48 ?_
  obtain ⟨v1, e2, h⟩ := bnd h
  refine wp_getI (c := 6) (k := 2) dX6_nextToken_49 e2 (by decide) (by decide) rfl fl_RX6_15 ?_
  refine wp_iconst (v := 1) dX6_nextToken_52 (by decide) ?_
  refine wp_iadd dX6_nextToken_53 ?_
  obtain ⟨M3, e4, h⟩ := bnd h
  refine wp_putI (c := 6) (k := 2) dX6_nextToken_54 e4 (by decide) (by decide) rfl fl_RX6_15 (Or.inl rfl) ?_
  refine wp_goto (tgt := 8) dX6_nextToken_57 (by decide) ?_
  cases h
  exact wp_ls (lsS (lsN lsZ)) (hc M3 rfl)

theorem X6_nextToken_B8_ok {w : Gw} {d : Nat} {x0 : Nat} {q : Gm} {o : Go} {M' : Gm} {out : Gm ⊕ Gm} (h : X6_nextToken_B8 x0 q = some out) (hc : ∀ t : Gm, out = .inl t → Wp w mdX6_nextToken (d + 1) 8 [some (.inr x0), none] [] t o M') (he0 : ∀ t : Gm, out = .inr t → Wp w mdX6_nextToken (d + 1) 60 [some (.inr x0), none] [] t o M') : Wp w mdX6_nextToken (d + 1) 8 [some (.inr x0), none] [] q o M' := by
  unfold X6_nextToken_B8 at h
  refine wp_aload_n dX6_nextToken_8 rfl ?_
  obtain ⟨v1, e2, h⟩ := bnd h
  refine wp_getI (c := 6) (k := 2) dX6_nextToken_9 e2 (by decide) (by decide) rfl fl_RX6_15 ?_
  refine wp_aload_n dX6_nextToken_12 rfl ?_
  obtain ⟨v3, e4, h⟩ := bnd h
  refine wp_getI (c := 6) (k := 1) dX6_nextToken_13 e4 (by decide) (by decide) rfl fl_RX6_9 ?_
  refine wp_icmp_ge (tgt := 60) dX6_nextToken_16 (by decide) (fun hc_ => ?_) (fun hc_ => ?_)
  · replace h := ite_t hc_ h
    cases h
    exact wp_ls (lsS (lsN lsZ)) (he0 q rfl)
  · replace h := ite_f hc_ h
    refine wp_aload_n dX6_nextToken_19 rfl ?_
    obtain ⟨v5, e6, h⟩ := bnd h
    refine wp_getR (c := 6) (k := 0) dX6_nextToken_20 e6 (by decide) (by decide) rfl fl_RX6_27 ?_
    refine wp_aload_n dX6_nextToken_23 rfl ?_
    obtain ⟨v7, e8, h⟩ := bnd h
    refine wp_getI (c := 6) (k := 2) dX6_nextToken_24 e8 (by decide) (by decide) rfl fl_RX6_15 ?_
    obtain ⟨v9, e10, h⟩ := bnd h
    refine wp_baload dX6_nextToken_27 e10 ?_
    refine wp_bipush (v := 32) dX6_nextToken_28 (by decide) ?_
    refine wp_icmp_eq (tgt := 47) dX6_nextToken_30 (by decide) (fun hc_ => ?_) (fun hc_ => ?_)
    · replace h := ite_t hc_ h
      exact wp_ls (lsS (lsN lsZ)) (X6_nextToken_J47_ok h hc he0)
    · replace h := ite_f hc_ h
      refine wp_aload_n dX6_nextToken_33 rfl ?_
      obtain ⟨v11, e12, h⟩ := bnd h
      refine wp_getR (c := 6) (k := 0) dX6_nextToken_34 e12 (by decide) (by decide) rfl fl_RX6_27 ?_
      refine wp_aload_n dX6_nextToken_37 rfl ?_
      obtain ⟨v13, e14, h⟩ := bnd h
      refine wp_getI (c := 6) (k := 2) dX6_nextToken_38 e14 (by decide) (by decide) rfl fl_RX6_15 ?_
      obtain ⟨v15, e16, h⟩ := bnd h
      refine wp_baload dX6_nextToken_41 e16 ?_
      refine wp_bipush (v := 10) dX6_nextToken_42 (by decide) ?_
      refine wp_icmp_ne (tgt := 60) dX6_nextToken_44 (by decide) (fun hc_ => ?_) (fun hc_ => ?_)
      · replace h := ite_f hc_ h
        cases h
        exact wp_ls (lsS (lsN lsZ)) (he0 q rfl)
      · replace h := ite_t hc_ h
        exact wp_ls (lsS (lsN lsZ)) (X6_nextToken_J47_ok h hc he0)

theorem X6_nextToken_B8_lp {w : Gw} {d : Nat} {x0 : Nat} {o : Go} {M' : Gm} {r : Gm} : ∀ (n : Nat) (q : Gm), lp (X6_nextToken_B8 x0) n q = some r → (∀ t : Gm, r = t → Wp w mdX6_nextToken (d + 1) 60 [some (.inr x0), none] [] t o M') → Wp w mdX6_nextToken (d + 1) 8 [some (.inr x0), none] [] q o M' := by
  intro n
  induction n with
  | zero => intro q h; cases h
  | succ n ih =>
    intro q h he0
    cases hb : X6_nextToken_B8 x0 q with
    | none => rw [lp_succ, hb] at h; cases h
    | some out =>
      rw [lp_succ, hb] at h
      exact X6_nextToken_B8_ok hb (fun t e => ih t (by rw [e] at h; exact h) he0) (fun t e => he0 t (by rw [e] at h; cases h; rfl))
theorem X6_nextToken_B119_ok {w : Gw} {d : Nat} {x0 : Nat} {x1 : Int32} {q : Gm} {o : Go} {M' : Gm} {out : Gm ⊕ Gm} (h : X6_nextToken_B119 x0 x1 q = some out) (hc : ∀ t : Gm, out = .inl t → Wp w mdX6_nextToken (d + 1) 119 [some (.inr x0), some (.inl x1)] [] t o M') (he0 : ∀ t : Gm, out = .inr t → Wp w mdX6_nextToken (d + 1) 162 [none, none] [] t o M') : Wp w mdX6_nextToken (d + 1) 119 [some (.inr x0), some (.inl x1)] [] q o M' := by
  unfold X6_nextToken_B119 at h
  refine wp_iload_n dX6_nextToken_119 rfl ?_
  refine wp_if_eq (tgt := 162) dX6_nextToken_120 (by decide) (fun hc_ => ?_) (fun hc_ => ?_)
  · replace h := ite_t hc_ h
    cases h
    exact wp_ls (lsN (lsN lsZ)) (he0 q rfl)
  · replace h := ite_f hc_ h
    refine wp_aload_n dX6_nextToken_123 rfl ?_
    obtain ⟨v1, e2, h⟩ := bnd h
    refine wp_getI (c := 6) (k := 2) dX6_nextToken_124 e2 (by decide) (by decide) rfl fl_RX6_15 ?_
    refine wp_aload_n dX6_nextToken_127 rfl ?_
    obtain ⟨v3, e4, h⟩ := bnd h
    refine wp_getI (c := 6) (k := 1) dX6_nextToken_128 e4 (by decide) (by decide) rfl fl_RX6_9 ?_
    refine wp_icmp_ge (tgt := 162) dX6_nextToken_131 (by decide) (fun hc_ => ?_) (fun hc_ => ?_)
    · replace h := ite_t hc_ h
      cases h
      exact wp_ls (lsN (lsN lsZ)) (he0 q rfl)
    · replace h := ite_f hc_ h
      refine wp_aload_n dX6_nextToken_134 rfl ?_
      refine wp_aload_n dX6_nextToken_135 rfl ?_
      obtain ⟨v5, e6, h⟩ := bnd h
      refine wp_getI (c := 6) (k := 2) dX6_nextToken_136 e6 (by decide) (by decide) rfl fl_RX6_15 ?_
      obtain ⟨q7, e8, h⟩ := bnd h
      refine wp_callV (As := [.inl v5]) dX6_nextToken_139 (sh_X6_tokenAt_ok (d := d) e8) okX6_tokenAt nnX6_tokenAt vvX6_tokenAt ml_RX6_235 rfl (Nat.le_of_ble_eq_true rfl) ?_
      refine wp_aload_n dX6_nextToken_142 rfl ?_
      obtain ⟨v9, e10, h⟩ := bnd h
      refine wp_getI (c := 6) (k := 3) dX6_nextToken_143 e10 (by decide) (by decide) rfl fl_RX6_18 ?_
      refine wp_icmp_ne (tgt := 162) dX6_nextToken_146 (by decide) (fun hc_ => ?_) (fun hc_ => ?_)
      · replace h := ite_f hc_ h
        cases h
        exact wp_ls (lsN (lsN lsZ)) (he0 q rfl)
      · replace h := ite_t hc_ h
        refine wp_aload_n dX6_nextToken_149 rfl ?_
        refine wp_dup dX6_nextToken_150 ?_
        obtain ⟨v11, e12, h⟩ := bnd h
        refine wp_getI (c := 6) (k := 2) dX6_nextToken_151 e12 (by decide) (by decide) rfl fl_RX6_15 ?_
        refine wp_iconst (v := 1) dX6_nextToken_154 (by decide) ?_
        refine wp_iadd dX6_nextToken_155 ?_
        obtain ⟨M13, e14, h⟩ := bnd h
        refine wp_putI (c := 6) (k := 2) dX6_nextToken_156 e14 (by decide) (by decide) rfl fl_RX6_15 (Or.inl rfl) ?_
        refine wp_goto (tgt := 119) dX6_nextToken_159 (by decide) ?_
        cases h
        exact wp_ls (lsS (lsS lsZ)) (hc M13 rfl)

theorem X6_nextToken_B119_lp {w : Gw} {d : Nat} {x0 : Nat} {x1 : Int32} {o : Go} {M' : Gm} {r : Gm} : ∀ (n : Nat) (q : Gm), lp (X6_nextToken_B119 x0 x1) n q = some r → (∀ t : Gm, r = t → Wp w mdX6_nextToken (d + 1) 162 [none, none] [] t o M') → Wp w mdX6_nextToken (d + 1) 119 [some (.inr x0), some (.inl x1)] [] q o M' := by
  intro n
  induction n with
  | zero => intro q h; cases h
  | succ n ih =>
    intro q h he0
    cases hb : X6_nextToken_B119 x0 x1 q with
    | none => rw [lp_succ, hb] at h; cases h
    | some out =>
      rw [lp_succ, hb] at h
      exact X6_nextToken_B119_ok hb (fun t e => ih t (by rw [e] at h; exact h) he0) (fun t e => he0 t (by rw [e] at h; cases h; rfl))
theorem X6_nextToken_J162_ok {w : Gw} {d : Nat} {M : Gm} {out : Gm} (h : X6_nextToken_J162 M = some out) : Wp w mdX6_nextToken (d + 1) 162 [none, none] [] M (.inl none) out := by
  unfold X6_nextToken_J162 at h
  cases h
  exact wp_ret dX6_nextToken_162 rfl

theorem X6_nextToken_J101_ok {w : Gw} {d : Nat} {x0 : Nat} {s0 : Int32} {M : Gm} {out : Gm} (h : X6_nextToken_J101 x0 s0 M = some out) : Wp w mdX6_nextToken (d + 1) 101 [some (.inr x0), none] [.inl s0] M (.inl none) out := by
  unfold X6_nextToken_J101 at h
  refine wp_istore_n dX6_nextToken_101 (Nat.le_of_ble_eq_true rfl) ?_
  refine wp_aload_n dX6_nextToken_102 rfl ?_
  refine wp_aload_n dX6_nextToken_103 rfl ?_
  obtain ⟨v1, e2, h⟩ := bnd h
  refine wp_getI (c := 6) (k := 2) dX6_nextToken_104 e2 (by decide) (by decide) rfl fl_RX6_15 ?_
  refine wp_iconst (v := 1) dX6_nextToken_107 (by decide) ?_
  refine wp_iadd dX6_nextToken_108 ?_
  refine wp_aload_n dX6_nextToken_109 rfl ?_
  obtain ⟨v3, e4, h⟩ := bnd h
  refine wp_getI (c := 6) (k := 1) dX6_nextToken_110 e4 (by decide) (by decide) rfl fl_RX6_9 ?_
  obtain ⟨q5, e6, h⟩ := bnd h
  refine wp_callS (As := [.inl (v1 + 1), .inl v3]) dX6_nextToken_113 (sh_J9_min_7cf53_ok (d := d) e6) okJ9_min_7cf53 nnJ9_min_7cf53 ssJ9_min_7cf53 ml_RX6_238 rfl (Nat.le_of_ble_eq_true rfl) ?_
  obtain ⟨M7, e8, h⟩ := bnd h
  refine wp_putI (c := 6) (k := 2) dX6_nextToken_116 e8 (by decide) (by decide) rfl fl_RX6_15 (Or.inl rfl) ?_
  obtain ⟨r9, e10, h⟩ := bnd h
  refine wp_ls (lsS (lsS lsZ)) (X6_nextToken_B119_lp FU _ e10 ?_)
  intro t_ ht_; cases ht_
  exact wp_ls (lsN (lsN lsZ)) (X6_nextToken_J162_ok h)

theorem X6_nextToken_J96_ok {w : Gw} {d : Nat} {x0 : Nat} {M : Gm} {out : Gm} (h : X6_nextToken_J96 x0 M = some out) : Wp w mdX6_nextToken (d + 1) 96 [some (.inr x0), none] [] M (.inl none) out := by
  unfold X6_nextToken_J96 at h
  refine wp_iconst (v := 1) dX6_nextToken_96 (by decide) ?_
  refine wp_goto (tgt := 101) dX6_nextToken_97 (by decide) ?_
  exact wp_ls (lsS (lsN lsZ)) (X6_nextToken_J101_ok h)

theorem X6_nextToken_J60_ok {w : Gw} {d : Nat} {x0 : Nat} {M : Gm} {out : Gm} (h : X6_nextToken_J60 x0 M = some out) : Wp w mdX6_nextToken (d + 1) 60 [some (.inr x0), none] [] M (.inl none) out := by
  unfold X6_nextToken_J60 at h
  refine wp_aload_n dX6_nextToken_60 rfl ?_
  refine wp_aload_n dX6_nextToken_61 rfl ?_
  obtain ⟨v1, e2, h⟩ := bnd h
  refine wp_getI (c := 6) (k := 2) dX6_nextToken_62 e2 (by decide) (by decide) rfl fl_RX6_15 ?_
  obtain ⟨M3, e4, h⟩ := bnd h
  refine wp_putI (c := 6) (k := 4) dX6_nextToken_65 e4 (by decide) (by decide) rfl fl_RX6_21 (Or.inl rfl) ?_
  refine wp_aload_n dX6_nextToken_68 rfl ?_
  refine wp_aload_n dX6_nextToken_69 rfl ?_
  refine wp_aload_n dX6_nextToken_70 rfl ?_
  obtain ⟨v5, e6, h⟩ := bnd h
  refine wp_getI (c := 6) (k := 2) dX6_nextToken_71 e6 (by decide) (by decide) rfl fl_RX6_15 ?_
  obtain ⟨q7, e8, h⟩ := bnd h
  refine wp_callV (As := [.inl v5]) dX6_nextToken_74 (sh_X6_tokenAt_ok (d := d) e8) okX6_tokenAt nnX6_tokenAt vvX6_tokenAt ml_RX6_235 rfl (Nat.le_of_ble_eq_true rfl) ?_
  obtain ⟨M9, e10, h⟩ := bnd h
  refine wp_putI (c := 6) (k := 3) dX6_nextToken_77 e10 (by decide) (by decide) rfl fl_RX6_18 (Or.inl rfl) ?_
  refine wp_aload_n dX6_nextToken_80 rfl ?_
  obtain ⟨v11, e12, h⟩ := bnd h
  refine wp_getI (c := 6) (k := 3) dX6_nextToken_81 e12 (by decide) (by decide) rfl fl_RX6_18 ?_
  refine wp_iconst (v := 1) dX6_nextToken_84 (by decide) ?_
  refine wp_icmp_eq (tgt := 96) dX6_nextToken_85 (by decide) (fun hc_ => ?_) (fun hc_ => ?_)
  · replace h := ite_t hc_ h
    exact wp_ls (lsS (lsN lsZ)) (X6_nextToken_J96_ok h)
  · replace h := ite_f hc_ h
    refine wp_aload_n dX6_nextToken_88 rfl ?_
    obtain ⟨v13, e14, h⟩ := bnd h
    refine wp_getI (c := 6) (k := 3) dX6_nextToken_89 e14 (by decide) (by decide) rfl fl_RX6_18 ?_
    refine wp_iconst (v := 2) dX6_nextToken_92 (by decide) ?_
    refine wp_icmp_ne (tgt := 100) dX6_nextToken_93 (by decide) (fun hc_ => ?_) (fun hc_ => ?_)
    · replace h := ite_f hc_ h
      refine wp_iconst (v := 0) dX6_nextToken_100 (by decide) ?_
      exact wp_ls (lsS (lsN lsZ)) (X6_nextToken_J101_ok h)
    · replace h := ite_t hc_ h
      exact wp_ls (lsS (lsN lsZ)) (X6_nextToken_J96_ok h)

theorem X6_nextToken_F_ok {w : Gw} {d : Nat} {x0 : Nat} {M : Gm} {out : Gm} (h : X6_nextToken_F x0 M = some out) : Wp w mdX6_nextToken (d + 1) 0 [some (.inr x0), none] [] M (.inl none) out := by
  unfold X6_nextToken_F at h
  refine wp_aload_n dX6_nextToken_0 rfl ?_
  obtain ⟨v1, e2, h⟩ := bnd h
  refine wp_getI (c := 6) (k := 5) dX6_nextToken_1 e2 (by decide) (by decide) rfl fl_RX6_24 ?_
  refine wp_if_eq (tgt := 8) dX6_nextToken_4 (by decide) (fun hc_ => ?_) (fun hc_ => ?_)
  · replace h := ite_t hc_ h
    obtain ⟨r3, e4, h⟩ := bnd h
    refine wp_ls (lsS (lsN lsZ)) (X6_nextToken_B8_lp FU _ e4 ?_)
    intro t_ ht_; cases ht_
    exact wp_ls (lsS (lsN lsZ)) (X6_nextToken_J60_ok h)
  · replace h := ite_f hc_ h
    cases h
    exact wp_ret dX6_nextToken_7 rfl

theorem sh_X6_nextToken_ok {w : Gw} {d : Nat} {x0 : Nat} {M : Gm} {out : Gm} (h : sh_X6_nextToken x0 M = some out) : Ev w mdX6_nextToken (d + 1) [.inr x0] M (.inl none) out := by
  obtain ⟨u, e0, h⟩ := bnd h
  exact ev_of okX6_nextToken ⟨_, _, rfl, isO_of e0 (by decide), by decide⟩ (Nat.le_of_ble_eq_true rfl) (X6_nextToken_F_ok h)

/-! HeatGovernor$Reader.fail(I)V -/
def X6_fail_J12 (M : Gm) : Option (Gm) :=
  some M
def X6_fail_F (x0 : Nat) (x1 : Int32) (M : Gm) : Option (Gm) :=
  (gfI M x0 6 5).bind fun v1 =>
  if v1 = 0 then
    (pfI M x0 6 5 x1).bind fun M3 =>
    X6_fail_J12 M3
  else
    X6_fail_J12 M
def sh_X6_fail (x0 : Nat) (x1 : Int32) (M : Gm) : Option (Gm) := (isO M x0 6).bind fun _ => X6_fail_F x0 x1 M
theorem X6_fail_J12_ok {w : Gw} {d : Nat} {M : Gm} {out : Gm} (h : X6_fail_J12 M = some out) : Wp w mdX6_fail d 12 [none, none] [] M (.inl none) out := by
  unfold X6_fail_J12 at h
  cases h
  exact wp_ret dX6_fail_12 rfl

theorem X6_fail_F_ok {w : Gw} {d : Nat} {x0 : Nat} {x1 : Int32} {M : Gm} {out : Gm} (h : X6_fail_F x0 x1 M = some out) : Wp w mdX6_fail d 0 [some (.inr x0), some (.inl x1)] [] M (.inl none) out := by
  unfold X6_fail_F at h
  refine wp_aload_n dX6_fail_0 rfl ?_
  obtain ⟨v1, e2, h⟩ := bnd h
  refine wp_getI (c := 6) (k := 5) dX6_fail_1 e2 (by decide) (by decide) rfl fl_RX6_24 ?_
  refine wp_if_ne (tgt := 12) dX6_fail_4 (by decide) (fun hc_ => ?_) (fun hc_ => ?_)
  · replace h := ite_f hc_ h
    exact wp_ls (lsN (lsN lsZ)) (X6_fail_J12_ok h)
  · replace h := ite_t hc_ h
    refine wp_aload_n dX6_fail_7 rfl ?_
    refine wp_iload_n dX6_fail_8 rfl ?_
    obtain ⟨M3, e4, h⟩ := bnd h
    refine wp_putI (c := 6) (k := 5) dX6_fail_9 e4 (by decide) (by decide) rfl fl_RX6_24 (Or.inl rfl) ?_
    exact wp_ls (lsN (lsN lsZ)) (X6_fail_J12_ok h)

theorem sh_X6_fail_ok {w : Gw} {d : Nat} {x0 : Nat} {x1 : Int32} {M : Gm} {out : Gm} (h : sh_X6_fail x0 x1 M = some out) : Ev w mdX6_fail d [.inr x0, .inl x1] M (.inl none) out := by
  obtain ⟨u, e0, h⟩ := bnd h
  exact ev_of okX6_fail ⟨_, _, rfl, isO_of e0 (by decide), by decide⟩ (Nat.le_of_ble_eq_true rfl) (X6_fail_F_ok h)

/-! HeatGovernor$Reader.isWord(Ljava/lang/String;)Z -/
def X6_isWord_J24 (M : Gm) : Option (Int32) :=
  (zck 0).bind fun z1 =>
  some z1
def X6_isWord_B28 (x0 : Nat) (x1 : Nat) (M : Gm) (q : Int32) : Option (Int32 ⊕ Unit ⊕ Unit) :=
  (strLn x1).bind fun v1 =>
  if v1 ≤ q then
    some (.inr (.inl ()))
  else
    (gfR M x0 6 0).bind fun v3 =>
    (gfI M x0 6 4).bind fun v5 =>
    (ldA M 1 v3 (v5 + q)).bind fun v7 =>
    (strCh x1 q).bind fun v9 =>
    if v7 = v9 then
      some (.inl (q + 1))
    else
      some (.inr (.inr ()))
def X6_isWord_F (x0 : Nat) (x1 : Nat) (M : Gm) : Option (Int32) :=
  (gfI M x0 6 3).bind fun v1 =>
  if v1 = 1 then
    (gfI M x0 6 2).bind fun v3 =>
    (gfI M x0 6 4).bind fun v5 =>
    (strLn x1).bind fun v7 =>
    if (v3 - v5) = v7 then
      (lp (X6_isWord_B28 x0 x1 M) FU 0).bind fun r9 =>
      Sum.elim (fun u11 =>
        (zck 1).bind fun z12 =>
        some z12) (fun u14 =>
        (zck 0).bind fun z15 =>
        some z15) r9
    else
      X6_isWord_J24 M
  else
    X6_isWord_J24 M
def sh_X6_isWord (x0 : Nat) (x1 : Nat) (M : Gm) : Option (Int32) := (isO M x0 6).bind fun _ => X6_isWord_F x0 x1 M
theorem X6_isWord_J24_ok {w : Gw} {d : Nat} {M : Gm} {out : Int32} (h : X6_isWord_J24 M = some out) : Wp w mdX6_isWord (d + 6) 24 [none, none, none] [] M (.inl (some (.inl out))) M := by
  unfold X6_isWord_J24 at h
  refine wp_iconst (v := 0) dX6_isWord_24 (by decide) ?_
  obtain ⟨z1, e2, h⟩ := bnd h
  obtain ⟨hz_, rfl⟩ := zck_of e2
  cases h
  exact wp_zret dX6_isWord_25 rfl hz_

theorem X6_isWord_B28_ok {w : Gw} {d : Nat} {x0 : Nat} {x1 : Nat} {M : Gm} {q : Int32} {o : Go} {M' : Gm} {out : Int32 ⊕ Unit ⊕ Unit} (h : X6_isWord_B28 x0 x1 M q = some out) (hc : ∀ t : Int32, out = .inl t → Wp w mdX6_isWord (d + 6) 28 [some (.inr x0), some (.inr x1), some (.inl t)] [] M o M') (he0 : ∀ t : Unit, out = .inr (.inl t) → Wp w mdX6_isWord (d + 6) 63 [none, none, none] [] M o M') (he1 : ∀ t : Unit, out = .inr (.inr t) → Wp w mdX6_isWord (d + 6) 55 [none, none, none] [] M o M') : Wp w mdX6_isWord (d + 6) 28 [some (.inr x0), some (.inr x1), some (.inl q)] [] M o M' := by
  unfold X6_isWord_B28 at h
  refine wp_iload_n dX6_isWord_28 rfl ?_
  refine wp_aload_n dX6_isWord_29 rfl ?_
  obtain ⟨v1, e2, h⟩ := bnd h
  refine wp_strLn (As := []) dX6_isWord_30 e2 ml_RX6_243 rfl rfl (Nat.le_of_ble_eq_true rfl) ?_
  refine wp_icmp_ge (tgt := 63) dX6_isWord_33 (by decide) (fun hc_ => ?_) (fun hc_ => ?_)
  · replace h := ite_t hc_ h
    cases h
    exact wp_ls (lsN (lsN (lsN lsZ))) (he0 () rfl)
  · replace h := ite_f hc_ h
    refine wp_aload_n dX6_isWord_36 rfl ?_
    obtain ⟨v3, e4, h⟩ := bnd h
    refine wp_getR (c := 6) (k := 0) dX6_isWord_37 e4 (by decide) (by decide) rfl fl_RX6_27 ?_
    refine wp_aload_n dX6_isWord_40 rfl ?_
    obtain ⟨v5, e6, h⟩ := bnd h
    refine wp_getI (c := 6) (k := 4) dX6_isWord_41 e6 (by decide) (by decide) rfl fl_RX6_21 ?_
    refine wp_iload_n dX6_isWord_44 rfl ?_
    refine wp_iadd dX6_isWord_45 ?_
    obtain ⟨v7, e8, h⟩ := bnd h
    refine wp_baload dX6_isWord_46 e8 ?_
    refine wp_aload_n dX6_isWord_47 rfl ?_
    refine wp_iload_n dX6_isWord_48 rfl ?_
    obtain ⟨v9, e10, h⟩ := bnd h
    refine wp_strCh (As := [.inl q]) dX6_isWord_49 e10 ml_RX6_247 rfl rfl (Nat.le_of_ble_eq_true rfl) ?_
    refine wp_icmp_eq (tgt := 57) dX6_isWord_52 (by decide) (fun hc_ => ?_) (fun hc_ => ?_)
    · replace h := ite_t hc_ h
      refine wp_iinc (v := q + 1) dX6_isWord_57 rfl rfl ?_
      refine wp_goto (tgt := 28) dX6_isWord_60 (by decide) ?_
      cases h
      exact wp_ls (lsS (lsS (lsS lsZ))) (hc (q + 1) rfl)
    · replace h := ite_f hc_ h
      cases h
      exact wp_ls (lsN (lsN (lsN lsZ))) (he1 () rfl)

theorem X6_isWord_B28_lp {w : Gw} {d : Nat} {x0 : Nat} {x1 : Nat} {M : Gm} {o : Go} {M' : Gm} {r : Unit ⊕ Unit} : ∀ (n : Nat) (q : Int32), lp (X6_isWord_B28 x0 x1 M) n q = some r → (∀ t : Unit, r = (.inl t) → Wp w mdX6_isWord (d + 6) 63 [none, none, none] [] M o M') → (∀ t : Unit, r = (.inr t) → Wp w mdX6_isWord (d + 6) 55 [none, none, none] [] M o M') → Wp w mdX6_isWord (d + 6) 28 [some (.inr x0), some (.inr x1), some (.inl q)] [] M o M' := by
  intro n
  induction n with
  | zero => intro q h; cases h
  | succ n ih =>
    intro q h he0 he1
    cases hb : X6_isWord_B28 x0 x1 M q with
    | none => rw [lp_succ, hb] at h; cases h
    | some out =>
      rw [lp_succ, hb] at h
      exact X6_isWord_B28_ok hb (fun t e => ih t (by rw [e] at h; exact h) he0 he1) (fun t e => he0 t (by rw [e] at h; cases h; rfl)) (fun t e => he1 t (by rw [e] at h; cases h; rfl))
theorem X6_isWord_F_ok {w : Gw} {d : Nat} {x0 : Nat} {x1 : Nat} {M : Gm} {out : Int32} (h : X6_isWord_F x0 x1 M = some out) : Wp w mdX6_isWord (d + 6) 0 [some (.inr x0), some (.inr x1), none] [] M (.inl (some (.inl out))) M := by
  unfold X6_isWord_F at h
  refine wp_aload_n dX6_isWord_0 rfl ?_
  obtain ⟨v1, e2, h⟩ := bnd h
  refine wp_getI (c := 6) (k := 3) dX6_isWord_1 e2 (by decide) (by decide) rfl fl_RX6_18 ?_
  refine wp_iconst (v := 1) dX6_isWord_4 (by decide) ?_
  refine wp_icmp_ne (tgt := 24) dX6_isWord_5 (by decide) (fun hc_ => ?_) (fun hc_ => ?_)
  · replace h := ite_f hc_ h
    exact wp_ls (lsN (lsN (lsN lsZ))) (X6_isWord_J24_ok h)
  · replace h := ite_t hc_ h
    refine wp_aload_n dX6_isWord_8 rfl ?_
    obtain ⟨v3, e4, h⟩ := bnd h
    refine wp_getI (c := 6) (k := 2) dX6_isWord_9 e4 (by decide) (by decide) rfl fl_RX6_15 ?_
    refine wp_aload_n dX6_isWord_12 rfl ?_
    obtain ⟨v5, e6, h⟩ := bnd h
    refine wp_getI (c := 6) (k := 4) dX6_isWord_13 e6 (by decide) (by decide) rfl fl_RX6_21 ?_
    refine wp_isub dX6_isWord_16 ?_
    refine wp_aload_n dX6_isWord_17 rfl ?_
    obtain ⟨v7, e8, h⟩ := bnd h
    refine wp_strLn (As := []) dX6_isWord_18 e8 ml_RX6_243 rfl rfl (Nat.le_of_ble_eq_true rfl) ?_
    refine wp_icmp_eq (tgt := 26) dX6_isWord_21 (by decide) (fun hc_ => ?_) (fun hc_ => ?_)
    · replace h := ite_t hc_ h
      refine wp_iconst (v := 0) dX6_isWord_26 (by decide) ?_
      refine wp_istore_n dX6_isWord_27 (Nat.le_of_ble_eq_true rfl) ?_
      obtain ⟨r9, e10, h⟩ := bnd h
      refine wp_ls (lsS (lsS (lsS lsZ))) (X6_isWord_B28_lp FU _ e10 ?_ ?_)
      · intro y11 ht_; subst ht_
        replace h := elim_l h
        refine wp_iconst (v := 1) dX6_isWord_63 (by decide) ?_
        obtain ⟨z12, e13, h⟩ := bnd h
        obtain ⟨hz_, rfl⟩ := zck_of e13
        cases h
        exact wp_zret dX6_isWord_64 rfl hz_
      · intro y14 ht_; subst ht_
        replace h := elim_r h
        refine wp_iconst (v := 0) dX6_isWord_55 (by decide) ?_
        obtain ⟨z15, e16, h⟩ := bnd h
        obtain ⟨hz_, rfl⟩ := zck_of e16
        cases h
        exact wp_zret dX6_isWord_56 rfl hz_
    · replace h := ite_f hc_ h
      exact wp_ls (lsN (lsN (lsN lsZ))) (X6_isWord_J24_ok h)

theorem sh_X6_isWord_ok {w : Gw} {d : Nat} {x0 : Nat} {x1 : Nat} {M : Gm} {out : Int32} (h : sh_X6_isWord x0 x1 M = some out) : Ev w mdX6_isWord (d + 6) [.inr x0, .inr x1] M (.inl (some (.inl out))) M := by
  obtain ⟨u, e0, h⟩ := bnd h
  exact ev_of okX6_isWord ⟨_, _, rfl, isO_of e0 (by decide), by decide⟩ (Nat.le_of_ble_eq_true rfl) (X6_isWord_F_ok h)

/-! HeatGovernor$Bind.comesBefore(LHeatGovernor$Bind;)Z -/
def X0_comesBefore_J74 (s0 : Int32) (M : Gm) : Option (Int32) :=
  (zck s0).bind fun z1 =>
  some z1
def X0_comesBefore_J27 (s0 : Int32) (M : Gm) : Option (Int32) :=
  (zck s0).bind fun z1 =>
  some z1
def X0_comesBefore_F (x0 : Nat) (x1 : Nat) (M : Gm) : Option (Int32) :=
  (gfI M x0 0 0).bind fun v1 =>
  (gfI M x1 0 0).bind fun v3 =>
  if v1 = v3 then
    (gfI M x0 0 2).bind fun v5 =>
    (gfI M x1 0 2).bind fun v7 =>
    if v5 = v7 then
      (gfI M x0 0 1).bind fun v9 =>
      (gfI M x1 0 1).bind fun v11 =>
      if v11 ≤ v9 then
        X0_comesBefore_J74 0 M
      else
        X0_comesBefore_J74 1 M
    else
      (gfI M x0 0 2).bind fun v13 =>
      (gfI M x1 0 2).bind fun v15 =>
      if v13 ≤ v15 then
        X0_comesBefore_J74 0 M
      else
        X0_comesBefore_J74 1 M
  else
    (gfI M x0 0 0).bind fun v17 =>
    (gfI M x1 0 0).bind fun v19 =>
    if v19 ≤ v17 then
      X0_comesBefore_J27 0 M
    else
      X0_comesBefore_J27 1 M
def sh_X0_comesBefore (x0 : Nat) (x1 : Nat) (M : Gm) : Option (Int32) := (isO M x0 0).bind fun _ => X0_comesBefore_F x0 x1 M
theorem X0_comesBefore_J74_ok {w : Gw} {d : Nat} {s0 : Int32} {M : Gm} {out : Int32} (h : X0_comesBefore_J74 s0 M = some out) : Wp w mdX0_comesBefore d 74 [none, none] [.inl s0] M (.inl (some (.inl out))) M := by
  unfold X0_comesBefore_J74 at h
  obtain ⟨z1, e2, h⟩ := bnd h
  obtain ⟨hz_, rfl⟩ := zck_of e2
  cases h
  exact wp_zret dX0_comesBefore_74 rfl hz_

theorem X0_comesBefore_J27_ok {w : Gw} {d : Nat} {s0 : Int32} {M : Gm} {out : Int32} (h : X0_comesBefore_J27 s0 M = some out) : Wp w mdX0_comesBefore d 27 [none, none] [.inl s0] M (.inl (some (.inl out))) M := by
  unfold X0_comesBefore_J27 at h
  obtain ⟨z1, e2, h⟩ := bnd h
  obtain ⟨hz_, rfl⟩ := zck_of e2
  cases h
  exact wp_zret dX0_comesBefore_27 rfl hz_

theorem X0_comesBefore_F_ok {w : Gw} {d : Nat} {x0 : Nat} {x1 : Nat} {M : Gm} {out : Int32} (h : X0_comesBefore_F x0 x1 M = some out) : Wp w mdX0_comesBefore d 0 [some (.inr x0), some (.inr x1)] [] M (.inl (some (.inl out))) M := by
  unfold X0_comesBefore_F at h
  refine wp_aload_n dX0_comesBefore_0 rfl ?_
  obtain ⟨v1, e2, h⟩ := bnd h
  refine wp_getI (c := 0) (k := 0) dX0_comesBefore_1 e2 (by decide) (by decide) rfl fl_RX0_7 ?_
  refine wp_aload_n dX0_comesBefore_4 rfl ?_
  obtain ⟨v3, e4, h⟩ := bnd h
  refine wp_getI (c := 0) (k := 0) dX0_comesBefore_5 e4 (by decide) (by decide) rfl fl_RX0_7 ?_
  refine wp_icmp_eq (tgt := 28) dX0_comesBefore_8 (by decide) (fun hc_ => ?_) (fun hc_ => ?_)
  · replace h := ite_t hc_ h
    refine wp_aload_n dX0_comesBefore_28 rfl ?_
    obtain ⟨v5, e6, h⟩ := bnd h
    refine wp_getI (c := 0) (k := 2) dX0_comesBefore_29 e6 (by decide) (by decide) rfl fl_RX0_16 ?_
    refine wp_aload_n dX0_comesBefore_32 rfl ?_
    obtain ⟨v7, e8, h⟩ := bnd h
    refine wp_getI (c := 0) (k := 2) dX0_comesBefore_33 e8 (by decide) (by decide) rfl fl_RX0_16 ?_
    refine wp_icmp_eq (tgt := 58) dX0_comesBefore_36 (by decide) (fun hc_ => ?_) (fun hc_ => ?_)
    · replace h := ite_t hc_ h
      refine wp_aload_n dX0_comesBefore_58 rfl ?_
      obtain ⟨v9, e10, h⟩ := bnd h
      refine wp_getI (c := 0) (k := 1) dX0_comesBefore_59 e10 (by decide) (by decide) rfl fl_RX0_13 ?_
      refine wp_aload_n dX0_comesBefore_62 rfl ?_
      obtain ⟨v11, e12, h⟩ := bnd h
      refine wp_getI (c := 0) (k := 1) dX0_comesBefore_63 e12 (by decide) (by decide) rfl fl_RX0_13 ?_
      refine wp_icmp_ge (tgt := 73) dX0_comesBefore_66 (by decide) (fun hc_ => ?_) (fun hc_ => ?_)
      · replace h := ite_t hc_ h
        refine wp_iconst (v := 0) dX0_comesBefore_73 (by decide) ?_
        exact wp_ls (lsN (lsN lsZ)) (X0_comesBefore_J74_ok h)
      · replace h := ite_f hc_ h
        refine wp_iconst (v := 1) dX0_comesBefore_69 (by decide) ?_
        refine wp_goto (tgt := 74) dX0_comesBefore_70 (by decide) ?_
        exact wp_ls (lsN (lsN lsZ)) (X0_comesBefore_J74_ok h)
    · replace h := ite_f hc_ h
      refine wp_aload_n dX0_comesBefore_39 rfl ?_
      obtain ⟨v13, e14, h⟩ := bnd h
      refine wp_getI (c := 0) (k := 2) dX0_comesBefore_40 e14 (by decide) (by decide) rfl fl_RX0_16 ?_
      refine wp_aload_n dX0_comesBefore_43 rfl ?_
      obtain ⟨v15, e16, h⟩ := bnd h
      refine wp_getI (c := 0) (k := 2) dX0_comesBefore_44 e16 (by decide) (by decide) rfl fl_RX0_16 ?_
      refine wp_icmp_le (tgt := 54) dX0_comesBefore_47 (by decide) (fun hc_ => ?_) (fun hc_ => ?_)
      · replace h := ite_t hc_ h
        refine wp_iconst (v := 0) dX0_comesBefore_54 (by decide) ?_
        refine wp_goto (tgt := 74) dX0_comesBefore_55 (by decide) ?_
        exact wp_ls (lsN (lsN lsZ)) (X0_comesBefore_J74_ok h)
      · replace h := ite_f hc_ h
        refine wp_iconst (v := 1) dX0_comesBefore_50 (by decide) ?_
        refine wp_goto (tgt := 74) dX0_comesBefore_51 (by decide) ?_
        exact wp_ls (lsN (lsN lsZ)) (X0_comesBefore_J74_ok h)
  · replace h := ite_f hc_ h
    refine wp_aload_n dX0_comesBefore_11 rfl ?_
    obtain ⟨v17, e18, h⟩ := bnd h
    refine wp_getI (c := 0) (k := 0) dX0_comesBefore_12 e18 (by decide) (by decide) rfl fl_RX0_7 ?_
    refine wp_aload_n dX0_comesBefore_15 rfl ?_
    obtain ⟨v19, e20, h⟩ := bnd h
    refine wp_getI (c := 0) (k := 0) dX0_comesBefore_16 e20 (by decide) (by decide) rfl fl_RX0_7 ?_
    refine wp_icmp_ge (tgt := 26) dX0_comesBefore_19 (by decide) (fun hc_ => ?_) (fun hc_ => ?_)
    · replace h := ite_t hc_ h
      refine wp_iconst (v := 0) dX0_comesBefore_26 (by decide) ?_
      exact wp_ls (lsN (lsN lsZ)) (X0_comesBefore_J27_ok h)
    · replace h := ite_f hc_ h
      refine wp_iconst (v := 1) dX0_comesBefore_22 (by decide) ?_
      refine wp_goto (tgt := 27) dX0_comesBefore_23 (by decide) ?_
      exact wp_ls (lsN (lsN lsZ)) (X0_comesBefore_J27_ok h)

theorem sh_X0_comesBefore_ok {w : Gw} {d : Nat} {x0 : Nat} {x1 : Nat} {M : Gm} {out : Int32} (h : sh_X0_comesBefore x0 x1 M = some out) : Ev w mdX0_comesBefore d [.inr x0, .inr x1] M (.inl (some (.inl out))) M := by
  obtain ⟨u, e0, h⟩ := bnd h
  exact ev_of okX0_comesBefore ⟨_, _, rfl, isO_of e0 (by decide), by decide⟩ (Nat.le_of_ble_eq_true rfl) (X0_comesBefore_F_ok h)

/-! HeatGovernor$Plan.addBind(III)V -/
def X5_addBind_B45 (x0 : Nat) (x4 : Nat) (q : Int32 × Gm) : Option ((Int32 × Gm) ⊕ (Int32 × Gm)) :=
  if q.1 ≤ 0 then
    some (.inr (q.1, q.2))
  else
    (gfR q.2 x0 5 3).bind fun v1 =>
    (ldR q.2 7 v1 (q.1 - 1)).bind fun v3 =>
    (sh_X0_comesBefore x4 v3 q.2).bind fun q5 =>
    if q5 = 0 then
      some (.inr (q.1, q.2))
    else
      (gfR q.2 x0 5 3).bind fun v7 =>
      (gfR q.2 x0 5 3).bind fun v9 =>
      (ldR q.2 7 v9 (q.1 - 1)).bind fun v11 =>
      (stR q.2 7 0 v7 q.1 v11).bind fun M13 =>
      some (.inl (q.1 + (-1), M13))
def X5_addBind_J89 (x0 : Nat) (x4 : Nat) (x5 : Int32) (M : Gm) : Option (Gm) :=
  (gfR M x0 5 3).bind fun v1 =>
  (stR M 7 0 v1 x5 x4).bind fun M3 =>
  (gfI M3 x0 5 8).bind fun v5 =>
  (pfI M3 x0 5 8 (v5 + 1)).bind fun M7 =>
  some M7
def X5_addBind_F (x0 : Nat) (x1 : Int32) (x2 : Int32) (x3 : Int32) (M : Gm) : Option (Gm) :=
  (gfI M x0 5 8).bind fun v1 =>
  if v1 < 60 then
    (gfR M x0 5 3).bind fun v3 =>
    (gfI M x0 5 8).bind fun v5 =>
    (ldR M 7 v3 v5).bind fun v7 =>
    (pfI M v7 0 0 x1).bind fun M9 =>
    (pfI M9 v7 0 1 x2).bind fun M11 =>
    (pfI M11 v7 0 2 x3).bind fun M13 =>
    (gfI M13 x0 5 8).bind fun v15 =>
    (lp (X5_addBind_B45 x0 v7) FU (v15, M13)).bind fun r17 =>
    X5_addBind_J89 x0 v7 r17.1 r17.2
  else
    some M
def sh_X5_addBind (x0 : Nat) (x1 : Int32) (x2 : Int32) (x3 : Int32) (M : Gm) : Option (Gm) := (isO M x0 5).bind fun _ => X5_addBind_F x0 x1 x2 x3 M
theorem X5_addBind_B45_ok {w : Gw} {d : Nat} {x0 : Nat} {x4 : Nat} {q : Int32 × Gm} {o : Go} {M' : Gm} {out : (Int32 × Gm) ⊕ (Int32 × Gm)} (h : X5_addBind_B45 x0 x4 q = some out) (hc : ∀ t : Int32 × Gm, out = .inl t → Wp w mdX5_addBind (d + 1) 45 [some (.inr x0), none, none, none, some (.inr x4), some (.inl t.1)] [] t.2 o M') (he0 : ∀ t : Int32 × Gm, out = .inr t → Wp w mdX5_addBind (d + 1) 89 [some (.inr x0), none, none, none, some (.inr x4), some (.inl t.1)] [] t.2 o M') : Wp w mdX5_addBind (d + 1) 45 [some (.inr x0), none, none, none, some (.inr x4), some (.inl q.1)] [] q.2 o M' := by
  unfold X5_addBind_B45 at h
  refine wp_iload dX5_addBind_45 rfl ?_
  refine wp_if_le (tgt := 89) dX5_addBind_47 (by decide) (fun hc_ => ?_) (fun hc_ => ?_)
  · replace h := ite_t hc_ h
    cases h
    exact wp_ls (lsS (lsN (lsN (lsN (lsS (lsS lsZ)))))) (he0 (q.1, q.2) rfl)
  · replace h := ite_f hc_ h
    refine wp_aload dX5_addBind_50 rfl ?_
    refine wp_aload_n dX5_addBind_52 rfl ?_
    obtain ⟨v1, e2, h⟩ := bnd h
    refine wp_getR (c := 5) (k := 3) dX5_addBind_53 e2 (by decide) (by decide) rfl fl_RX5_31 ?_
    refine wp_iload dX5_addBind_56 rfl ?_
    refine wp_iconst (v := 1) dX5_addBind_58 (by decide) ?_
    refine wp_isub dX5_addBind_59 ?_
    obtain ⟨v3, e4, h⟩ := bnd h
    refine wp_aaload (t := 7) dX5_addBind_60 (by decide) rfl e4 ?_
    obtain ⟨q5, e6, h⟩ := bnd h
    refine wp_callV (As := [.inr v3]) dX5_addBind_61 (sh_X0_comesBefore_ok (d := d) e6) okX0_comesBefore nnX0_comesBefore vvX0_comesBefore ml_RX5_84 rfl (Nat.le_of_ble_eq_true rfl) ?_
    refine wp_if_eq (tgt := 89) dX5_addBind_64 (by decide) (fun hc_ => ?_) (fun hc_ => ?_)
    · replace h := ite_t hc_ h
      cases h
      exact wp_ls (lsS (lsN (lsN (lsN (lsS (lsS lsZ)))))) (he0 (q.1, q.2) rfl)
    · replace h := ite_f hc_ h
      refine wp_aload_n dX5_addBind_67 rfl ?_
      obtain ⟨v7, e8, h⟩ := bnd h
      refine wp_getR (c := 5) (k := 3) dX5_addBind_68 e8 (by decide) (by decide) rfl fl_RX5_31 ?_
      refine wp_iload dX5_addBind_71 rfl ?_
      refine wp_aload_n dX5_addBind_73 rfl ?_
      obtain ⟨v9, e10, h⟩ := bnd h
      refine wp_getR (c := 5) (k := 3) dX5_addBind_74 e10 (by decide) (by decide) rfl fl_RX5_31 ?_
      refine wp_iload dX5_addBind_77 rfl ?_
      refine wp_iconst (v := 1) dX5_addBind_79 (by decide) ?_
      refine wp_isub dX5_addBind_80 ?_
      obtain ⟨v11, e12, h⟩ := bnd h
      refine wp_aaload (t := 7) dX5_addBind_81 (by decide) rfl e12 ?_
      obtain ⟨M13, e14, h⟩ := bnd h
      refine wp_aastore (t := 7) (c := 0) dX5_addBind_82 e14 (by decide) (by decide) rfl ?_
      refine wp_iinc (v := q.1 + (-1)) dX5_addBind_83 rfl rfl ?_
      refine wp_goto (tgt := 45) dX5_addBind_86 (by decide) ?_
      cases h
      exact wp_ls (lsS (lsN (lsN (lsN (lsS (lsS lsZ)))))) (hc (q.1 + (-1), M13) rfl)

theorem X5_addBind_B45_lp {w : Gw} {d : Nat} {x0 : Nat} {x4 : Nat} {o : Go} {M' : Gm} {r : (Int32 × Gm)} : ∀ (n : Nat) (q : Int32 × Gm), lp (X5_addBind_B45 x0 x4) n q = some r → (∀ t : Int32 × Gm, r = t → Wp w mdX5_addBind (d + 1) 89 [some (.inr x0), none, none, none, some (.inr x4), some (.inl t.1)] [] t.2 o M') → Wp w mdX5_addBind (d + 1) 45 [some (.inr x0), none, none, none, some (.inr x4), some (.inl q.1)] [] q.2 o M' := by
  intro n
  induction n with
  | zero => intro q h; cases h
  | succ n ih =>
    intro q h he0
    cases hb : X5_addBind_B45 x0 x4 q with
    | none => rw [lp_succ, hb] at h; cases h
    | some out =>
      rw [lp_succ, hb] at h
      exact X5_addBind_B45_ok hb (fun t e => ih t (by rw [e] at h; exact h) he0) (fun t e => he0 t (by rw [e] at h; cases h; rfl))
theorem X5_addBind_J89_ok {w : Gw} {d : Nat} {x0 : Nat} {x4 : Nat} {x5 : Int32} {M : Gm} {out : Gm} (h : X5_addBind_J89 x0 x4 x5 M = some out) : Wp w mdX5_addBind (d + 1) 89 [some (.inr x0), none, none, none, some (.inr x4), some (.inl x5)] [] M (.inl none) out := by
  unfold X5_addBind_J89 at h
  refine wp_aload_n dX5_addBind_89 rfl ?_
  obtain ⟨v1, e2, h⟩ := bnd h
  refine wp_getR (c := 5) (k := 3) dX5_addBind_90 e2 (by decide) (by decide) rfl fl_RX5_31 ?_
  refine wp_iload dX5_addBind_93 rfl ?_
  refine wp_aload dX5_addBind_95 rfl ?_
  obtain ⟨M3, e4, h⟩ := bnd h
  refine wp_aastore (t := 7) (c := 0) dX5_addBind_97 e4 (by decide) (by decide) rfl ?_
  refine wp_aload_n dX5_addBind_98 rfl ?_
  refine wp_dup dX5_addBind_99 ?_
  obtain ⟨v5, e6, h⟩ := bnd h
  refine wp_getI (c := 5) (k := 8) dX5_addBind_100 e6 (by decide) (by decide) rfl fl_RX5_51 ?_
  refine wp_iconst (v := 1) dX5_addBind_103 (by decide) ?_
  refine wp_iadd dX5_addBind_104 ?_
  obtain ⟨M7, e8, h⟩ := bnd h
  refine wp_putI (c := 5) (k := 8) dX5_addBind_105 e8 (by decide) (by decide) rfl fl_RX5_51 (Or.inl rfl) ?_
  cases h
  exact wp_ret dX5_addBind_108 rfl

theorem X5_addBind_F_ok {w : Gw} {d : Nat} {x0 : Nat} {x1 : Int32} {x2 : Int32} {x3 : Int32} {M : Gm} {out : Gm} (h : X5_addBind_F x0 x1 x2 x3 M = some out) : Wp w mdX5_addBind (d + 1) 0 [some (.inr x0), some (.inl x1), some (.inl x2), some (.inl x3), none, none] [] M (.inl none) out := by
  unfold X5_addBind_F at h
  refine wp_aload_n dX5_addBind_0 rfl ?_
  obtain ⟨v1, e2, h⟩ := bnd h
  refine wp_getI (c := 5) (k := 8) dX5_addBind_1 e2 (by decide) (by decide) rfl fl_RX5_51 ?_
  refine wp_bipush (v := 60) dX5_addBind_4 (by decide) ?_
  refine wp_icmp_lt (tgt := 10) dX5_addBind_6 (by decide) (fun hc_ => ?_) (fun hc_ => ?_)
  · replace h := ite_t hc_ h
    refine wp_aload_n dX5_addBind_10 rfl ?_
    obtain ⟨v3, e4, h⟩ := bnd h
    refine wp_getR (c := 5) (k := 3) dX5_addBind_11 e4 (by decide) (by decide) rfl fl_RX5_31 ?_
    refine wp_aload_n dX5_addBind_14 rfl ?_
    obtain ⟨v5, e6, h⟩ := bnd h
    refine wp_getI (c := 5) (k := 8) dX5_addBind_15 e6 (by decide) (by decide) rfl fl_RX5_51 ?_
    obtain ⟨v7, e8, h⟩ := bnd h
    refine wp_aaload (t := 7) dX5_addBind_18 (by decide) rfl e8 ?_
    refine wp_astore dX5_addBind_19 (Nat.le_of_ble_eq_true rfl) ?_
    refine wp_aload dX5_addBind_21 rfl ?_
    refine wp_iload_n dX5_addBind_23 rfl ?_
    obtain ⟨M9, e10, h⟩ := bnd h
    refine wp_putI (c := 0) (k := 0) dX5_addBind_24 e10 (by decide) (by decide) rfl fl_RX5_75 (Or.inl rfl) ?_
    refine wp_aload dX5_addBind_27 rfl ?_
    refine wp_iload_n dX5_addBind_29 rfl ?_
    obtain ⟨M11, e12, h⟩ := bnd h
    refine wp_putI (c := 0) (k := 1) dX5_addBind_30 e12 (by decide) (by decide) rfl fl_RX5_78 (Or.inl rfl) ?_
    refine wp_aload dX5_addBind_33 rfl ?_
    refine wp_iload_n dX5_addBind_35 rfl ?_
    obtain ⟨M13, e14, h⟩ := bnd h
    refine wp_putI (c := 0) (k := 2) dX5_addBind_36 e14 (by decide) (by decide) rfl fl_RX5_81 (Or.inl rfl) ?_
    refine wp_aload_n dX5_addBind_39 rfl ?_
    obtain ⟨v15, e16, h⟩ := bnd h
    refine wp_getI (c := 5) (k := 8) dX5_addBind_40 e16 (by decide) (by decide) rfl fl_RX5_51 ?_
    refine wp_istore dX5_addBind_43 (Nat.le_of_ble_eq_true rfl) ?_
    obtain ⟨r17, e18, h⟩ := bnd h
    refine wp_ls (lsS (lsN (lsN (lsN (lsS (lsS lsZ)))))) (X5_addBind_B45_lp FU _ e18 ?_)
    intro t_ ht_; cases ht_
    exact wp_ls (lsS (lsN (lsN (lsN (lsS (lsS lsZ)))))) (X5_addBind_J89_ok h)
  · replace h := ite_f hc_ h
    cases h
    exact wp_ret dX5_addBind_9 rfl

theorem sh_X5_addBind_ok {w : Gw} {d : Nat} {x0 : Nat} {x1 : Int32} {x2 : Int32} {x3 : Int32} {M : Gm} {out : Gm} (h : sh_X5_addBind x0 x1 x2 x3 M = some out) : Ev w mdX5_addBind (d + 1) [.inr x0, .inl x1, .inl x2, .inl x3] M (.inl none) out := by
  obtain ⟨u, e0, h⟩ := bnd h
  exact ev_of okX5_addBind ⟨_, _, rfl, isO_of e0 (by decide), by decide⟩ (Nat.le_of_ble_eq_true rfl) (X5_addBind_F_ok h)

/-! HeatGovernor$Plan.bindOf(II)I -/
def X5_bindOf_J38 (x0 : Nat) (x1 : Int32) (x2 : Int32) (x3 : Int32) (M : Gm) : Option (Int32 ⊕ Unit ⊕ Int32) :=
  some (.inl (x3 + 1))
def X5_bindOf_B2 (x0 : Nat) (x1 : Int32) (x2 : Int32) (M : Gm) (q : Int32) : Option (Int32 ⊕ Unit ⊕ Int32) :=
  (gfI M x0 5 8).bind fun v1 =>
  if v1 ≤ q then
    some (.inr (.inl ()))
  else
    (gfR M x0 5 3).bind fun v3 =>
    (ldR M 7 v3 q).bind fun v5 =>
    (gfI M v5 0 0).bind fun v7 =>
    if v7 = x1 then
      (gfR M x0 5 3).bind fun v9 =>
      (ldR M 7 v9 q).bind fun v11 =>
      (gfI M v11 0 1).bind fun v13 =>
      if v13 = x2 then
        some (.inr (.inr q))
      else
        X5_bindOf_J38 x0 x1 x2 q M
    else
      X5_bindOf_J38 x0 x1 x2 q M
def X5_bindOf_F (x0 : Nat) (x1 : Int32) (x2 : Int32) (M : Gm) : Option (Int32) :=
  (lp (X5_bindOf_B2 x0 x1 x2 M) FU 0).bind fun r1 =>
  Sum.elim (fun u3 =>
    some ((-1))) (fun u4 =>
    some u4) r1
def sh_X5_bindOf (x0 : Nat) (x1 : Int32) (x2 : Int32) (M : Gm) : Option (Int32) := (isO M x0 5).bind fun _ => X5_bindOf_F x0 x1 x2 M
theorem X5_bindOf_J38_ok {w : Gw} {d : Nat} {x0 : Nat} {x1 : Int32} {x2 : Int32} {x3 : Int32} {M : Gm} {o : Go} {M' : Gm} {out : Int32 ⊕ Unit ⊕ Int32} (h : X5_bindOf_J38 x0 x1 x2 x3 M = some out) (hc : ∀ t : Int32, out = .inl t → Wp w mdX5_bindOf d 2 [some (.inr x0), some (.inl x1), some (.inl x2), some (.inl t)] [] M o M') (he0 : ∀ t : Unit, out = .inr (.inl t) → Wp w mdX5_bindOf d 44 [none, none, none, none] [] M o M') (he1 : ∀ t : Int32, out = .inr (.inr t) → Wp w mdX5_bindOf d 36 [none, none, none, some (.inl t)] [] M o M') : Wp w mdX5_bindOf d 38 [some (.inr x0), some (.inl x1), some (.inl x2), some (.inl x3)] [] M o M' := by
  unfold X5_bindOf_J38 at h
  refine wp_iinc (v := x3 + 1) dX5_bindOf_38 rfl rfl ?_
  refine wp_goto (tgt := 2) dX5_bindOf_41 (by decide) ?_
  cases h
  exact wp_ls (lsS (lsS (lsS (lsS lsZ)))) (hc (x3 + 1) rfl)

theorem X5_bindOf_B2_ok {w : Gw} {d : Nat} {x0 : Nat} {x1 : Int32} {x2 : Int32} {M : Gm} {q : Int32} {o : Go} {M' : Gm} {out : Int32 ⊕ Unit ⊕ Int32} (h : X5_bindOf_B2 x0 x1 x2 M q = some out) (hc : ∀ t : Int32, out = .inl t → Wp w mdX5_bindOf d 2 [some (.inr x0), some (.inl x1), some (.inl x2), some (.inl t)] [] M o M') (he0 : ∀ t : Unit, out = .inr (.inl t) → Wp w mdX5_bindOf d 44 [none, none, none, none] [] M o M') (he1 : ∀ t : Int32, out = .inr (.inr t) → Wp w mdX5_bindOf d 36 [none, none, none, some (.inl t)] [] M o M') : Wp w mdX5_bindOf d 2 [some (.inr x0), some (.inl x1), some (.inl x2), some (.inl q)] [] M o M' := by
  unfold X5_bindOf_B2 at h
  refine wp_iload_n dX5_bindOf_2 rfl ?_
  refine wp_aload_n dX5_bindOf_3 rfl ?_
  obtain ⟨v1, e2, h⟩ := bnd h
  refine wp_getI (c := 5) (k := 8) dX5_bindOf_4 e2 (by decide) (by decide) rfl fl_RX5_51 ?_
  refine wp_icmp_ge (tgt := 44) dX5_bindOf_7 (by decide) (fun hc_ => ?_) (fun hc_ => ?_)
  · replace h := ite_t hc_ h
    cases h
    exact wp_ls (lsN (lsN (lsN (lsN lsZ)))) (he0 () rfl)
  · replace h := ite_f hc_ h
    refine wp_aload_n dX5_bindOf_10 rfl ?_
    obtain ⟨v3, e4, h⟩ := bnd h
    refine wp_getR (c := 5) (k := 3) dX5_bindOf_11 e4 (by decide) (by decide) rfl fl_RX5_31 ?_
    refine wp_iload_n dX5_bindOf_14 rfl ?_
    obtain ⟨v5, e6, h⟩ := bnd h
    refine wp_aaload (t := 7) dX5_bindOf_15 (by decide) rfl e6 ?_
    obtain ⟨v7, e8, h⟩ := bnd h
    refine wp_getI (c := 0) (k := 0) dX5_bindOf_16 e8 (by decide) (by decide) rfl fl_RX5_75 ?_
    refine wp_iload_n dX5_bindOf_19 rfl ?_
    refine wp_icmp_ne (tgt := 38) dX5_bindOf_20 (by decide) (fun hc_ => ?_) (fun hc_ => ?_)
    · replace h := ite_f hc_ h
      exact wp_ls (lsS (lsS (lsS (lsS lsZ)))) (X5_bindOf_J38_ok h hc he0 he1)
    · replace h := ite_t hc_ h
      refine wp_aload_n dX5_bindOf_23 rfl ?_
      obtain ⟨v9, e10, h⟩ := bnd h
      refine wp_getR (c := 5) (k := 3) dX5_bindOf_24 e10 (by decide) (by decide) rfl fl_RX5_31 ?_
      refine wp_iload_n dX5_bindOf_27 rfl ?_
      obtain ⟨v11, e12, h⟩ := bnd h
      refine wp_aaload (t := 7) dX5_bindOf_28 (by decide) rfl e12 ?_
      obtain ⟨v13, e14, h⟩ := bnd h
      refine wp_getI (c := 0) (k := 1) dX5_bindOf_29 e14 (by decide) (by decide) rfl fl_RX5_78 ?_
      refine wp_iload_n dX5_bindOf_32 rfl ?_
      refine wp_icmp_ne (tgt := 38) dX5_bindOf_33 (by decide) (fun hc_ => ?_) (fun hc_ => ?_)
      · replace h := ite_f hc_ h
        exact wp_ls (lsS (lsS (lsS (lsS lsZ)))) (X5_bindOf_J38_ok h hc he0 he1)
      · replace h := ite_t hc_ h
        cases h
        exact wp_ls (lsN (lsN (lsN (lsS lsZ)))) (he1 q rfl)

theorem X5_bindOf_B2_lp {w : Gw} {d : Nat} {x0 : Nat} {x1 : Int32} {x2 : Int32} {M : Gm} {o : Go} {M' : Gm} {r : Unit ⊕ Int32} : ∀ (n : Nat) (q : Int32), lp (X5_bindOf_B2 x0 x1 x2 M) n q = some r → (∀ t : Unit, r = (.inl t) → Wp w mdX5_bindOf d 44 [none, none, none, none] [] M o M') → (∀ t : Int32, r = (.inr t) → Wp w mdX5_bindOf d 36 [none, none, none, some (.inl t)] [] M o M') → Wp w mdX5_bindOf d 2 [some (.inr x0), some (.inl x1), some (.inl x2), some (.inl q)] [] M o M' := by
  intro n
  induction n with
  | zero => intro q h; cases h
  | succ n ih =>
    intro q h he0 he1
    cases hb : X5_bindOf_B2 x0 x1 x2 M q with
    | none => rw [lp_succ, hb] at h; cases h
    | some out =>
      rw [lp_succ, hb] at h
      exact X5_bindOf_B2_ok hb (fun t e => ih t (by rw [e] at h; exact h) he0 he1) (fun t e => he0 t (by rw [e] at h; cases h; rfl)) (fun t e => he1 t (by rw [e] at h; cases h; rfl))
theorem X5_bindOf_F_ok {w : Gw} {d : Nat} {x0 : Nat} {x1 : Int32} {x2 : Int32} {M : Gm} {out : Int32} (h : X5_bindOf_F x0 x1 x2 M = some out) : Wp w mdX5_bindOf d 0 [some (.inr x0), some (.inl x1), some (.inl x2), none] [] M (.inl (some (.inl out))) M := by
  unfold X5_bindOf_F at h
  refine wp_iconst (v := 0) dX5_bindOf_0 (by decide) ?_
  refine wp_istore_n dX5_bindOf_1 (Nat.le_of_ble_eq_true rfl) ?_
  obtain ⟨r1, e2, h⟩ := bnd h
  refine wp_ls (lsS (lsS (lsS (lsS lsZ)))) (X5_bindOf_B2_lp FU _ e2 ?_ ?_)
  · intro y3 ht_; subst ht_
    replace h := elim_l h
    refine wp_iconst (v := (-1)) dX5_bindOf_44 (by decide) ?_
    cases h
    exact wp_iret dX5_bindOf_45 rfl
  · intro y4 ht_; subst ht_
    replace h := elim_r h
    refine wp_iload_n dX5_bindOf_36 rfl ?_
    cases h
    exact wp_iret dX5_bindOf_37 rfl

theorem sh_X5_bindOf_ok {w : Gw} {d : Nat} {x0 : Nat} {x1 : Int32} {x2 : Int32} {M : Gm} {out : Int32} (h : sh_X5_bindOf x0 x1 x2 M = some out) : Ev w mdX5_bindOf d [.inr x0, .inl x1, .inl x2] M (.inl (some (.inl out))) M := by
  obtain ⟨u, e0, h⟩ := bnd h
  exact ev_of okX5_bindOf ⟨_, _, rfl, isO_of e0 (by decide), by decide⟩ (Nat.le_of_ble_eq_true rfl) (X5_bindOf_F_ok h)

/-! HeatGovernor$Reader.needSemicolon()V -/
def X6_needSemicolon_J13 (M : Gm) : Option (Gm) :=
  some M
def X6_needSemicolon_F (x0 : Nat) (M : Gm) : Option (Gm) :=
  (gfI M x0 6 3).bind fun v1 =>
  if v1 = 3 then
    X6_needSemicolon_J13 M
  else
    (sh_X6_fail x0 1 M).bind fun q3 =>
    X6_needSemicolon_J13 q3
def sh_X6_needSemicolon (x0 : Nat) (M : Gm) : Option (Gm) := (isO M x0 6).bind fun _ => X6_needSemicolon_F x0 M
theorem X6_needSemicolon_J13_ok {w : Gw} {d : Nat} {M : Gm} {out : Gm} (h : X6_needSemicolon_J13 M = some out) : Wp w mdX6_needSemicolon (d + 1) 13 [none] [] M (.inl none) out := by
  unfold X6_needSemicolon_J13 at h
  cases h
  exact wp_ret dX6_needSemicolon_13 rfl

theorem X6_needSemicolon_F_ok {w : Gw} {d : Nat} {x0 : Nat} {M : Gm} {out : Gm} (h : X6_needSemicolon_F x0 M = some out) : Wp w mdX6_needSemicolon (d + 1) 0 [some (.inr x0)] [] M (.inl none) out := by
  unfold X6_needSemicolon_F at h
  refine wp_aload_n dX6_needSemicolon_0 rfl ?_
  obtain ⟨v1, e2, h⟩ := bnd h
  refine wp_getI (c := 6) (k := 3) dX6_needSemicolon_1 e2 (by decide) (by decide) rfl fl_RX6_18 ?_
  refine wp_iconst (v := 3) dX6_needSemicolon_4 (by decide) ?_
  refine wp_icmp_eq (tgt := 13) dX6_needSemicolon_5 (by decide) (fun hc_ => ?_) (fun hc_ => ?_)
  · replace h := ite_t hc_ h
    exact wp_ls (lsN lsZ) (X6_needSemicolon_J13_ok h)
  · replace h := ite_f hc_ h
    refine wp_aload_n dX6_needSemicolon_8 rfl ?_
    refine wp_iconst (v := 1) dX6_needSemicolon_9 (by decide) ?_
    obtain ⟨q3, e4, h⟩ := bnd h
    refine wp_callV (As := [.inl 1]) dX6_needSemicolon_10 (sh_X6_fail_ok (d := d) e4) okX6_fail nnX6_fail vvX6_fail ml_RX6_84 rfl (Nat.le_of_ble_eq_true rfl) ?_
    exact wp_ls (lsN lsZ) (X6_needSemicolon_J13_ok h)

theorem sh_X6_needSemicolon_ok {w : Gw} {d : Nat} {x0 : Nat} {M : Gm} {out : Gm} (h : sh_X6_needSemicolon x0 M = some out) : Ev w mdX6_needSemicolon (d + 1) [.inr x0] M (.inl none) out := by
  obtain ⟨u, e0, h⟩ := bnd h
  exact ev_of okX6_needSemicolon ⟨_, _, rfl, isO_of e0 (by decide), by decide⟩ (Nat.le_of_ble_eq_true rfl) (X6_needSemicolon_F_ok h)

/-! HeatGovernor$Reader.readEnd()V -/
def X6_readEnd_F (x0 : Nat) (M : Gm) : Option (Gm) :=
  (sh_X6_nextToken x0 M).bind fun q1 =>
  (sh_X6_needSemicolon x0 q1).bind fun q3 =>
  some q3
def sh_X6_readEnd (x0 : Nat) (M : Gm) : Option (Gm) := (isO M x0 6).bind fun _ => X6_readEnd_F x0 M
theorem X6_readEnd_F_ok {w : Gw} {d : Nat} {x0 : Nat} {M : Gm} {out : Gm} (h : X6_readEnd_F x0 M = some out) : Wp w mdX6_readEnd (d + 2) 0 [some (.inr x0)] [] M (.inl none) out := by
  unfold X6_readEnd_F at h
  refine wp_aload_n dX6_readEnd_0 rfl ?_
  obtain ⟨q1, e2, h⟩ := bnd h
  refine wp_callV (As := []) dX6_readEnd_1 (sh_X6_nextToken_ok (d := d) e2) okX6_nextToken nnX6_nextToken vvX6_nextToken ml_RX6_40 rfl (Nat.le_of_ble_eq_true rfl) ?_
  refine wp_aload_n dX6_readEnd_4 rfl ?_
  obtain ⟨q3, e4, h⟩ := bnd h
  refine wp_callV (As := []) dX6_readEnd_5 (sh_X6_needSemicolon_ok (d := d) e4) okX6_needSemicolon nnX6_needSemicolon vvX6_needSemicolon ml_RX6_120 rfl (Nat.le_of_ble_eq_true rfl) ?_
  cases h
  exact wp_ret dX6_readEnd_8 rfl

theorem sh_X6_readEnd_ok {w : Gw} {d : Nat} {x0 : Nat} {M : Gm} {out : Gm} (h : sh_X6_readEnd x0 M = some out) : Ev w mdX6_readEnd (d + 2) [.inr x0] M (.inl none) out := by
  obtain ⟨u, e0, h⟩ := bnd h
  exact ev_of okX6_readEnd ⟨_, _, rfl, isO_of e0 (by decide), by decide⟩ (Nat.le_of_ble_eq_true rfl) (X6_readEnd_F_ok h)

/-! HeatGovernor$Reader.numberHere()I -/
def X6_numberHere_B22 (x0 : Nat) (M : Gm) (q : Int32 × Int32) : Option ((Int32 × Int32) ⊕ Int32) :=
  (gfI M x0 6 2).bind fun v1 =>
  if v1 ≤ q.2 then
    some (.inr q.1)
  else
    (gfR M x0 6 0).bind fun v3 =>
    (ldA M 1 v3 q.2).bind fun v5 =>
    some (.inl (((q.1 * 10) + v5) - 48, q.2 + 1))
def X6_numberHere_F (x0 : Nat) (M : Gm) : Option (Int32) :=
  (gfI M x0 6 2).bind fun v1 =>
  (gfI M x0 6 4).bind fun v3 =>
  if (v1 - v3) ≤ 3 then
    (gfI M x0 6 4).bind fun v5 =>
    (lp (X6_numberHere_B22 x0 M) FU (0, v5)).bind fun r7 =>
    some r7
  else
    some ((-1))
def sh_X6_numberHere (x0 : Nat) (M : Gm) : Option (Int32) := (isO M x0 6).bind fun _ => X6_numberHere_F x0 M
theorem X6_numberHere_B22_ok {w : Gw} {d : Nat} {x0 : Nat} {M : Gm} {q : Int32 × Int32} {o : Go} {M' : Gm} {out : (Int32 × Int32) ⊕ Int32} (h : X6_numberHere_B22 x0 M q = some out) (hc : ∀ t : Int32 × Int32, out = .inl t → Wp w mdX6_numberHere d 22 [some (.inr x0), some (.inl t.1), some (.inl t.2)] [] M o M') (he0 : ∀ t : Int32, out = .inr t → Wp w mdX6_numberHere d 51 [none, some (.inl t), none] [] M o M') : Wp w mdX6_numberHere d 22 [some (.inr x0), some (.inl q.1), some (.inl q.2)] [] M o M' := by
  unfold X6_numberHere_B22 at h
  refine wp_iload_n dX6_numberHere_22 rfl ?_
  refine wp_aload_n dX6_numberHere_23 rfl ?_
  obtain ⟨v1, e2, h⟩ := bnd h
  refine wp_getI (c := 6) (k := 2) dX6_numberHere_24 e2 (by decide) (by decide) rfl fl_RX6_15 ?_
  refine wp_icmp_ge (tgt := 51) dX6_numberHere_27 (by decide) (fun hc_ => ?_) (fun hc_ => ?_)
  · replace h := ite_t hc_ h
    cases h
    exact wp_ls (lsN (lsS (lsN lsZ))) (he0 q.1 rfl)
  · replace h := ite_f hc_ h
    refine wp_iload_n dX6_numberHere_30 rfl ?_
    refine wp_bipush (v := 10) dX6_numberHere_31 (by decide) ?_
    refine wp_imul dX6_numberHere_33 ?_
    refine wp_aload_n dX6_numberHere_34 rfl ?_
    obtain ⟨v3, e4, h⟩ := bnd h
    refine wp_getR (c := 6) (k := 0) dX6_numberHere_35 e4 (by decide) (by decide) rfl fl_RX6_27 ?_
    refine wp_iload_n dX6_numberHere_38 rfl ?_
    obtain ⟨v5, e6, h⟩ := bnd h
    refine wp_baload dX6_numberHere_39 e6 ?_
    refine wp_iadd dX6_numberHere_40 ?_
    refine wp_bipush (v := 48) dX6_numberHere_41 (by decide) ?_
    refine wp_isub dX6_numberHere_43 ?_
    refine wp_istore_n dX6_numberHere_44 (Nat.le_of_ble_eq_true rfl) ?_
    refine wp_iinc (v := q.2 + 1) dX6_numberHere_45 rfl rfl ?_
    refine wp_goto (tgt := 22) dX6_numberHere_48 (by decide) ?_
    cases h
    exact wp_ls (lsS (lsS (lsS lsZ))) (hc (((q.1 * 10) + v5) - 48, q.2 + 1) rfl)

theorem X6_numberHere_B22_lp {w : Gw} {d : Nat} {x0 : Nat} {M : Gm} {o : Go} {M' : Gm} {r : Int32} : ∀ (n : Nat) (q : Int32 × Int32), lp (X6_numberHere_B22 x0 M) n q = some r → (∀ t : Int32, r = t → Wp w mdX6_numberHere d 51 [none, some (.inl t), none] [] M o M') → Wp w mdX6_numberHere d 22 [some (.inr x0), some (.inl q.1), some (.inl q.2)] [] M o M' := by
  intro n
  induction n with
  | zero => intro q h; cases h
  | succ n ih =>
    intro q h he0
    cases hb : X6_numberHere_B22 x0 M q with
    | none => rw [lp_succ, hb] at h; cases h
    | some out =>
      rw [lp_succ, hb] at h
      exact X6_numberHere_B22_ok hb (fun t e => ih t (by rw [e] at h; exact h) he0) (fun t e => he0 t (by rw [e] at h; cases h; rfl))
theorem X6_numberHere_F_ok {w : Gw} {d : Nat} {x0 : Nat} {M : Gm} {out : Int32} (h : X6_numberHere_F x0 M = some out) : Wp w mdX6_numberHere d 0 [some (.inr x0), none, none] [] M (.inl (some (.inl out))) M := by
  unfold X6_numberHere_F at h
  refine wp_aload_n dX6_numberHere_0 rfl ?_
  obtain ⟨v1, e2, h⟩ := bnd h
  refine wp_getI (c := 6) (k := 2) dX6_numberHere_1 e2 (by decide) (by decide) rfl fl_RX6_15 ?_
  refine wp_aload_n dX6_numberHere_4 rfl ?_
  obtain ⟨v3, e4, h⟩ := bnd h
  refine wp_getI (c := 6) (k := 4) dX6_numberHere_5 e4 (by decide) (by decide) rfl fl_RX6_21 ?_
  refine wp_isub dX6_numberHere_8 ?_
  refine wp_iconst (v := 3) dX6_numberHere_9 (by decide) ?_
  refine wp_icmp_le (tgt := 15) dX6_numberHere_10 (by decide) (fun hc_ => ?_) (fun hc_ => ?_)
  · replace h := ite_t hc_ h
    refine wp_iconst (v := 0) dX6_numberHere_15 (by decide) ?_
    refine wp_istore_n dX6_numberHere_16 (Nat.le_of_ble_eq_true rfl) ?_
    refine wp_aload_n dX6_numberHere_17 rfl ?_
    obtain ⟨v5, e6, h⟩ := bnd h
    refine wp_getI (c := 6) (k := 4) dX6_numberHere_18 e6 (by decide) (by decide) rfl fl_RX6_21 ?_
    refine wp_istore_n dX6_numberHere_21 (Nat.le_of_ble_eq_true rfl) ?_
    obtain ⟨r7, e8, h⟩ := bnd h
    refine wp_ls (lsS (lsS (lsS lsZ))) (X6_numberHere_B22_lp FU _ e8 ?_)
    intro t_ ht_; cases ht_
    refine wp_iload_n dX6_numberHere_51 rfl ?_
    cases h
    exact wp_iret dX6_numberHere_52 rfl
  · replace h := ite_f hc_ h
    refine wp_iconst (v := (-1)) dX6_numberHere_13 (by decide) ?_
    cases h
    exact wp_iret dX6_numberHere_14 rfl

theorem sh_X6_numberHere_ok {w : Gw} {d : Nat} {x0 : Nat} {M : Gm} {out : Int32} (h : sh_X6_numberHere x0 M = some out) : Ev w mdX6_numberHere d [.inr x0] M (.inl (some (.inl out))) M := by
  obtain ⟨u, e0, h⟩ := bnd h
  exact ev_of okX6_numberHere ⟨_, _, rfl, isO_of e0 (by decide), by decide⟩ (Nat.le_of_ble_eq_true rfl) (X6_numberHere_F_ok h)

/-! HeatGovernor$Reader.needNumber(II)I -/
def X6_needNumber_J60 (s0 : Int32) (M : Gm) : Option (Int32 × Gm) :=
  some (s0, M)
def X6_needNumber_J48 (x0 : Nat) (x1 : Int32) (x3 : Int32) (M : Gm) : Option (Int32 × Gm) :=
  (gfI M x0 6 5).bind fun v1 =>
  if v1 = 0 then
    X6_needNumber_J60 x3 M
  else
    X6_needNumber_J60 x1 M
def X6_needNumber_J43 (x0 : Nat) (x1 : Int32) (x3 : Int32) (M : Gm) : Option (Int32 × Gm) :=
  (sh_X6_fail x0 2 M).bind fun q1 =>
  X6_needNumber_J48 x0 x1 x3 q1
def X6_needNumber_J16 (x0 : Nat) (x1 : Int32) (x2 : Int32) (s0 : Int32) (M : Gm) : Option (Int32 × Gm) :=
  (gfI M x0 6 3).bind fun v1 =>
  if v1 = 2 then
    if s0 < x1 then
      X6_needNumber_J43 x0 x1 s0 M
    else
      if s0 ≤ x2 then
        X6_needNumber_J48 x0 x1 s0 M
      else
        X6_needNumber_J43 x0 x1 s0 M
  else
    (sh_X6_fail x0 1 M).bind fun q3 =>
    X6_needNumber_J48 x0 x1 s0 q3
def X6_needNumber_F (x0 : Nat) (x1 : Int32) (x2 : Int32) (M : Gm) : Option (Int32 × Gm) :=
  (gfI M x0 6 3).bind fun v1 =>
  if v1 = 2 then
    (sh_X6_numberHere x0 M).bind fun q3 =>
    X6_needNumber_J16 x0 x1 x2 q3 M
  else
    X6_needNumber_J16 x0 x1 x2 ((-1)) M
def sh_X6_needNumber (x0 : Nat) (x1 : Int32) (x2 : Int32) (M : Gm) : Option (Int32 × Gm) := (isO M x0 6).bind fun _ => X6_needNumber_F x0 x1 x2 M
theorem X6_needNumber_J60_ok {w : Gw} {d : Nat} {s0 : Int32} {M : Gm} {out : Int32 × Gm} (h : X6_needNumber_J60 s0 M = some out) : Wp w mdX6_needNumber (d + 1) 60 [none, none, none, none] [.inl s0] M (.inl (some (.inl out.1))) out.2 := by
  unfold X6_needNumber_J60 at h
  cases h
  exact wp_iret dX6_needNumber_60 rfl

theorem X6_needNumber_J48_ok {w : Gw} {d : Nat} {x0 : Nat} {x1 : Int32} {x3 : Int32} {M : Gm} {out : Int32 × Gm} (h : X6_needNumber_J48 x0 x1 x3 M = some out) : Wp w mdX6_needNumber (d + 1) 48 [some (.inr x0), some (.inl x1), none, some (.inl x3)] [] M (.inl (some (.inl out.1))) out.2 := by
  unfold X6_needNumber_J48 at h
  refine wp_aload_n dX6_needNumber_48 rfl ?_
  obtain ⟨v1, e2, h⟩ := bnd h
  refine wp_getI (c := 6) (k := 5) dX6_needNumber_49 e2 (by decide) (by decide) rfl fl_RX6_24 ?_
  refine wp_if_ne (tgt := 59) dX6_needNumber_52 (by decide) (fun hc_ => ?_) (fun hc_ => ?_)
  · replace h := ite_f hc_ h
    refine wp_iload_n dX6_needNumber_59 rfl ?_
    exact wp_ls (lsN (lsN (lsN (lsN lsZ)))) (X6_needNumber_J60_ok h)
  · replace h := ite_t hc_ h
    refine wp_iload_n dX6_needNumber_55 rfl ?_
    refine wp_goto (tgt := 60) dX6_needNumber_56 (by decide) ?_
    exact wp_ls (lsN (lsN (lsN (lsN lsZ)))) (X6_needNumber_J60_ok h)

theorem X6_needNumber_J43_ok {w : Gw} {d : Nat} {x0 : Nat} {x1 : Int32} {x3 : Int32} {M : Gm} {out : Int32 × Gm} (h : X6_needNumber_J43 x0 x1 x3 M = some out) : Wp w mdX6_needNumber (d + 1) 43 [some (.inr x0), some (.inl x1), none, some (.inl x3)] [] M (.inl (some (.inl out.1))) out.2 := by
  unfold X6_needNumber_J43 at h
  refine wp_aload_n dX6_needNumber_43 rfl ?_
  refine wp_iconst (v := 2) dX6_needNumber_44 (by decide) ?_
  obtain ⟨q1, e2, h⟩ := bnd h
  refine wp_callV (As := [.inl 2]) dX6_needNumber_45 (sh_X6_fail_ok (d := d) e2) okX6_fail nnX6_fail vvX6_fail ml_RX6_84 rfl (Nat.le_of_ble_eq_true rfl) ?_
  exact wp_ls (lsS (lsS (lsN (lsS lsZ)))) (X6_needNumber_J48_ok h)

theorem X6_needNumber_J16_ok {w : Gw} {d : Nat} {x0 : Nat} {x1 : Int32} {x2 : Int32} {s0 : Int32} {M : Gm} {out : Int32 × Gm} (h : X6_needNumber_J16 x0 x1 x2 s0 M = some out) : Wp w mdX6_needNumber (d + 1) 16 [some (.inr x0), some (.inl x1), some (.inl x2), none] [.inl s0] M (.inl (some (.inl out.1))) out.2 := by
  unfold X6_needNumber_J16 at h
  refine wp_istore_n dX6_needNumber_16 (Nat.le_of_ble_eq_true rfl) ?_
  refine wp_aload_n dX6_needNumber_17 rfl ?_
  obtain ⟨v1, e2, h⟩ := bnd h
  refine wp_getI (c := 6) (k := 3) dX6_needNumber_18 e2 (by decide) (by decide) rfl fl_RX6_18 ?_
  refine wp_iconst (v := 2) dX6_needNumber_21 (by decide) ?_
  refine wp_icmp_eq (tgt := 33) dX6_needNumber_22 (by decide) (fun hc_ => ?_) (fun hc_ => ?_)
  · replace h := ite_t hc_ h
    refine wp_iload_n dX6_needNumber_33 rfl ?_
    refine wp_iload_n dX6_needNumber_34 rfl ?_
    refine wp_icmp_lt (tgt := 43) dX6_needNumber_35 (by decide) (fun hc_ => ?_) (fun hc_ => ?_)
    · replace h := ite_t hc_ h
      exact wp_ls (lsS (lsS (lsN (lsS lsZ)))) (X6_needNumber_J43_ok h)
    · replace h := ite_f hc_ h
      refine wp_iload_n dX6_needNumber_38 rfl ?_
      refine wp_iload_n dX6_needNumber_39 rfl ?_
      refine wp_icmp_le (tgt := 48) dX6_needNumber_40 (by decide) (fun hc_ => ?_) (fun hc_ => ?_)
      · replace h := ite_t hc_ h
        exact wp_ls (lsS (lsS (lsN (lsS lsZ)))) (X6_needNumber_J48_ok h)
      · replace h := ite_f hc_ h
        exact wp_ls (lsS (lsS (lsN (lsS lsZ)))) (X6_needNumber_J43_ok h)
  · replace h := ite_f hc_ h
    refine wp_aload_n dX6_needNumber_25 rfl ?_
    refine wp_iconst (v := 1) dX6_needNumber_26 (by decide) ?_
    obtain ⟨q3, e4, h⟩ := bnd h
    refine wp_callV (As := [.inl 1]) dX6_needNumber_27 (sh_X6_fail_ok (d := d) e4) okX6_fail nnX6_fail vvX6_fail ml_RX6_84 rfl (Nat.le_of_ble_eq_true rfl) ?_
    refine wp_goto (tgt := 48) dX6_needNumber_30 (by decide) ?_
    exact wp_ls (lsS (lsS (lsN (lsS lsZ)))) (X6_needNumber_J48_ok h)

theorem X6_needNumber_F_ok {w : Gw} {d : Nat} {x0 : Nat} {x1 : Int32} {x2 : Int32} {M : Gm} {out : Int32 × Gm} (h : X6_needNumber_F x0 x1 x2 M = some out) : Wp w mdX6_needNumber (d + 1) 0 [some (.inr x0), some (.inl x1), some (.inl x2), none] [] M (.inl (some (.inl out.1))) out.2 := by
  unfold X6_needNumber_F at h
  refine wp_aload_n dX6_needNumber_0 rfl ?_
  obtain ⟨v1, e2, h⟩ := bnd h
  refine wp_getI (c := 6) (k := 3) dX6_needNumber_1 e2 (by decide) (by decide) rfl fl_RX6_18 ?_
  refine wp_iconst (v := 2) dX6_needNumber_4 (by decide) ?_
  refine wp_icmp_ne (tgt := 15) dX6_needNumber_5 (by decide) (fun hc_ => ?_) (fun hc_ => ?_)
  · replace h := ite_f hc_ h
    refine wp_iconst (v := (-1)) dX6_needNumber_15 (by decide) ?_
    exact wp_ls (lsS (lsS (lsS (lsN lsZ)))) (X6_needNumber_J16_ok h)
  · replace h := ite_t hc_ h
    refine wp_aload_n dX6_needNumber_8 rfl ?_
    obtain ⟨q3, e4, h⟩ := bnd h
    refine wp_callV (As := []) dX6_needNumber_9 (sh_X6_numberHere_ok (d := d) e4) okX6_numberHere nnX6_numberHere vvX6_numberHere ml_RX6_232 rfl (Nat.le_of_ble_eq_true rfl) ?_
    refine wp_goto (tgt := 16) dX6_needNumber_12 (by decide) ?_
    exact wp_ls (lsS (lsS (lsS (lsN lsZ)))) (X6_needNumber_J16_ok h)

theorem sh_X6_needNumber_ok {w : Gw} {d : Nat} {x0 : Nat} {x1 : Int32} {x2 : Int32} {M : Gm} {out : Int32 × Gm} (h : sh_X6_needNumber x0 x1 x2 M = some out) : Ev w mdX6_needNumber (d + 1) [.inr x0, .inl x1, .inl x2] M (.inl (some (.inl out.1))) out.2 := by
  obtain ⟨u, e0, h⟩ := bnd h
  exact ev_of okX6_needNumber ⟨_, _, rfl, isO_of e0 (by decide), by decide⟩ (Nat.le_of_ble_eq_true rfl) (X6_needNumber_F_ok h)

/-! HeatGovernor$Reader.readNumber(II)I -/
def X6_readNumber_F (x0 : Nat) (x1 : Int32) (x2 : Int32) (M : Gm) : Option (Int32 × Gm) :=
  (sh_X6_nextToken x0 M).bind fun q1 =>
  (sh_X6_needNumber x0 x1 x2 q1).bind fun q3 =>
  some (q3.1, q3.2)
def sh_X6_readNumber (x0 : Nat) (x1 : Int32) (x2 : Int32) (M : Gm) : Option (Int32 × Gm) := (isO M x0 6).bind fun _ => X6_readNumber_F x0 x1 x2 M
theorem X6_readNumber_F_ok {w : Gw} {d : Nat} {x0 : Nat} {x1 : Int32} {x2 : Int32} {M : Gm} {out : Int32 × Gm} (h : X6_readNumber_F x0 x1 x2 M = some out) : Wp w mdX6_readNumber (d + 2) 0 [some (.inr x0), some (.inl x1), some (.inl x2)] [] M (.inl (some (.inl out.1))) out.2 := by
  unfold X6_readNumber_F at h
  refine wp_aload_n dX6_readNumber_0 rfl ?_
  obtain ⟨q1, e2, h⟩ := bnd h
  refine wp_callV (As := []) dX6_readNumber_1 (sh_X6_nextToken_ok (d := d) e2) okX6_nextToken nnX6_nextToken vvX6_nextToken ml_RX6_40 rfl (Nat.le_of_ble_eq_true rfl) ?_
  refine wp_aload_n dX6_readNumber_4 rfl ?_
  refine wp_iload_n dX6_readNumber_5 rfl ?_
  refine wp_iload_n dX6_readNumber_6 rfl ?_
  obtain ⟨q3, e4, h⟩ := bnd h
  refine wp_callV (As := [.inl x1, .inl x2]) dX6_readNumber_7 (sh_X6_needNumber_ok (d := d) e4) okX6_needNumber nnX6_needNumber vvX6_needNumber ml_RX6_129 rfl (Nat.le_of_ble_eq_true rfl) ?_
  cases h
  exact wp_iret dX6_readNumber_10 rfl

theorem sh_X6_readNumber_ok {w : Gw} {d : Nat} {x0 : Nat} {x1 : Int32} {x2 : Int32} {M : Gm} {out : Int32 × Gm} (h : sh_X6_readNumber x0 x1 x2 M = some out) : Ev w mdX6_readNumber (d + 2) [.inr x0, .inl x1, .inl x2] M (.inl (some (.inl out.1))) out.2 := by
  obtain ⟨u, e0, h⟩ := bnd h
  exact ev_of okX6_readNumber ⟨_, _, rfl, isO_of e0 (by decide), by decide⟩ (Nat.le_of_ble_eq_true rfl) (X6_readNumber_F_ok h)
