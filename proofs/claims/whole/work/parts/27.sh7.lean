/-! HeatGovernorModel.ahead(III)I -/
def X12_ahead_J22 (x0 : Nat) (M : Gm) : Option (Int32 × Gm) :=
  (sh_X12_fail x0 1 M).bind fun q1 =>
  some (q1.1, q1.2)
def X12_ahead_B52 (x0 : Nat) (x1 : Int32) (x2 : Int32) (x3 : Int32) (q : Int32 × Gm) : Option ((Int32 × Gm) ⊕ Gm) :=
  if x2 ≤ q.1 then
    some (.inr q.2)
  else
    (sh_X12_minute x0 q.2).bind fun q1 =>
    some (.inl (q.1 + 1, q1))
def X12_ahead_J92 (x0 : Nat) (x1 : Int32) (s0 : Nat) (s1 : Int32) (M : Gm) : Option (Int32 × Gm) :=
  (ldA M 0 s0 (s1 + x1)).bind fun v1 =>
  (sh_X12_laysBack x0 M).bind fun q3 =>
  some (v1, q3)
def X12_ahead_F (x0 : Nat) (x1 : Int32) (x2 : Int32) (x3 : Int32) (M : Gm) : Option (Int32 × Gm) :=
  (pfI M x0 12 4 0).bind fun M1 =>
  (sh_X12_isZone x0 x1 M1).bind fun q3 =>
  if q3 = 0 then
    X12_ahead_J22 x0 M1
  else
    (sh_X12_isIn x3 0 2 M1).bind fun q5 =>
    if q5 = 0 then
      X12_ahead_J22 x0 M1
    else
      (sh_X12_isIn x2 0 200 M1).bind fun q7 =>
      if q7 = 0 then
        (sh_X12_fail x0 2 M1).bind fun q15 =>
        some (q15.1, q15.2)
      else
        (sh_X12_tries x0 M1).bind fun q9 =>
        (lp (X12_ahead_B52 x0 x1 x2 x3) FU (0, q9)).bind fun r11 =>
        (gfR r11 x0 12 5).bind fun v13 =>
        if x3 = 0 then
          X12_ahead_J92 x0 x1 v13 0 r11
        else
          if x3 = 1 then
            X12_ahead_J92 x0 x1 v13 20 r11
          else
            X12_ahead_J92 x0 x1 v13 10 r11
def sh_X12_ahead (x0 : Nat) (x1 : Int32) (x2 : Int32) (x3 : Int32) (M : Gm) : Option (Int32 × Gm) := (isO M x0 12).bind fun _ => X12_ahead_F x0 x1 x2 x3 M
theorem X12_ahead_J22_ok {w : Gw} {d : Nat} {x0 : Nat} {M : Gm} {out : Int32 × Gm} (h : X12_ahead_J22 x0 M = some out) : Wp w mdX12_ahead (d + 5) 22 [some (.inr x0), none, none, none, none] [] M (.inl (some (.inl out.1))) out.2 := by
  unfold X12_ahead_J22 at h
  refine wp_aload_n dX12_ahead_22 rfl ?_
  refine wp_iconst (v := 1) dX12_ahead_23 (by decide) ?_
  obtain ⟨q1, e2, h⟩ := bnd h
  refine wp_callV (As := [.inl 1]) dX12_ahead_24 (sh_X12_fail_ok (d := d + 4) e2) okX12_fail nnX12_fail vvX12_fail ml_RX12_245 rfl (Nat.le_of_ble_eq_true rfl) ?_
  cases h
  exact wp_iret dX12_ahead_27 rfl

theorem X12_ahead_B52_ok {w : Gw} {d : Nat} {x0 : Nat} {x1 : Int32} {x2 : Int32} {x3 : Int32} {q : Int32 × Gm} {o : Go} {M' : Gm} {out : (Int32 × Gm) ⊕ Gm} (h : X12_ahead_B52 x0 x1 x2 x3 q = some out) (hc : ∀ t : Int32 × Gm, out = .inl t → Wp w mdX12_ahead (d + 5) 52 [some (.inr x0), some (.inl x1), some (.inl x2), some (.inl x3), some (.inl t.1)] [] t.2 o M') (he0 : ∀ t : Gm, out = .inr t → Wp w mdX12_ahead (d + 5) 68 [some (.inr x0), some (.inl x1), none, some (.inl x3), none] [] t o M') : Wp w mdX12_ahead (d + 5) 52 [some (.inr x0), some (.inl x1), some (.inl x2), some (.inl x3), some (.inl q.1)] [] q.2 o M' := by
  unfold X12_ahead_B52 at h
  refine wp_iload dX12_ahead_52 rfl ?_
  refine wp_iload_n dX12_ahead_54 rfl ?_
  refine wp_icmp_ge (tgt := 68) dX12_ahead_55 (by decide) (fun hc_ => ?_) (fun hc_ => ?_)
  · replace h := ite_t hc_ h
    cases h
    exact wp_ls (lsS (lsS (lsN (lsS (lsN lsZ))))) (he0 q.2 rfl)
  · replace h := ite_f hc_ h
    refine wp_aload_n dX12_ahead_58 rfl ?_
    obtain ⟨q1, e2, h⟩ := bnd h
    refine wp_callV (As := []) dX12_ahead_59 (sh_X12_minute_ok (d := d) e2) okX12_minute nnX12_minute vvX12_minute ml_RX12_351 rfl (Nat.le_of_ble_eq_true rfl) ?_
    refine wp_iinc (v := q.1 + 1) dX12_ahead_62 rfl rfl ?_
    refine wp_goto (tgt := 52) dX12_ahead_65 (by decide) ?_
    cases h
    exact wp_ls (lsS (lsS (lsS (lsS (lsS lsZ))))) (hc (q.1 + 1, q1) rfl)

theorem X12_ahead_B52_lp {w : Gw} {d : Nat} {x0 : Nat} {x1 : Int32} {x2 : Int32} {x3 : Int32} {o : Go} {M' : Gm} {r : Gm} : ∀ (n : Nat) (q : Int32 × Gm), lp (X12_ahead_B52 x0 x1 x2 x3) n q = some r → (∀ t : Gm, r = t → Wp w mdX12_ahead (d + 5) 68 [some (.inr x0), some (.inl x1), none, some (.inl x3), none] [] t o M') → Wp w mdX12_ahead (d + 5) 52 [some (.inr x0), some (.inl x1), some (.inl x2), some (.inl x3), some (.inl q.1)] [] q.2 o M' := by
  intro n
  induction n with
  | zero => intro q h; cases h
  | succ n ih =>
    intro q h he0
    cases hb : X12_ahead_B52 x0 x1 x2 x3 q with
    | none => rw [lp_succ, hb] at h; cases h
    | some out =>
      rw [lp_succ, hb] at h
      exact X12_ahead_B52_ok hb (fun t e => ih t (by rw [e] at h; exact h) he0) (fun t e => he0 t (by rw [e] at h; cases h; rfl))
theorem X12_ahead_J92_ok {w : Gw} {d : Nat} {x0 : Nat} {x1 : Int32} {s0 : Nat} {s1 : Int32} {M : Gm} {out : Int32 × Gm} (h : X12_ahead_J92 x0 x1 s0 s1 M = some out) : Wp w mdX12_ahead (d + 5) 92 [some (.inr x0), some (.inl x1), none, none, none] [.inl s1, .inr s0] M (.inl (some (.inl out.1))) out.2 := by
  unfold X12_ahead_J92 at h
  refine wp_iload_n dX12_ahead_92 rfl ?_
  refine wp_iadd dX12_ahead_93 ?_
  obtain ⟨v1, e2, h⟩ := bnd h
  refine wp_iaload dX12_ahead_94 e2 ?_
  refine wp_istore dX12_ahead_95 (Nat.le_of_ble_eq_true rfl) ?_
  refine wp_aload_n dX12_ahead_97 rfl ?_
  obtain ⟨q3, e4, h⟩ := bnd h
  refine wp_callV (As := []) dX12_ahead_98 (sh_X12_laysBack_ok (d := d + 3) e4) okX12_laysBack nnX12_laysBack vvX12_laysBack ml_RX12_359 rfl (Nat.le_of_ble_eq_true rfl) ?_
  refine wp_iload dX12_ahead_101 rfl ?_
  cases h
  exact wp_iret dX12_ahead_103 rfl

theorem X12_ahead_F_ok {w : Gw} {d : Nat} {x0 : Nat} {x1 : Int32} {x2 : Int32} {x3 : Int32} {M : Gm} {out : Int32 × Gm} (h : X12_ahead_F x0 x1 x2 x3 M = some out) : Wp w mdX12_ahead (d + 5) 0 [some (.inr x0), some (.inl x1), some (.inl x2), some (.inl x3), none] [] M (.inl (some (.inl out.1))) out.2 := by
  unfold X12_ahead_F at h
  refine wp_aload_n dX12_ahead_0 rfl ?_
  refine wp_iconst (v := 0) dX12_ahead_1 (by decide) ?_
  obtain ⟨M1, e2, h⟩ := bnd h
  refine wp_putI (c := 12) (k := 4) dX12_ahead_2 e2 (by decide) (by decide) rfl fl_RX12_131 (Or.inl rfl) ?_
  refine wp_aload_n dX12_ahead_5 rfl ?_
  refine wp_iload_n dX12_ahead_6 rfl ?_
  obtain ⟨q3, e4, h⟩ := bnd h
  refine wp_callV (As := [.inl x1]) dX12_ahead_7 (sh_X12_isZone_ok (d := d + 3) e4) okX12_isZone nnX12_isZone vvX12_isZone ml_RX12_382 rfl (Nat.le_of_ble_eq_true rfl) ?_
  refine wp_if_eq (tgt := 22) dX12_ahead_10 (by decide) (fun hc_ => ?_) (fun hc_ => ?_)
  · replace h := ite_t hc_ h
    exact wp_ls (lsS (lsN (lsN (lsN (lsN lsZ))))) (X12_ahead_J22_ok h)
  · replace h := ite_f hc_ h
    refine wp_iload_n dX12_ahead_13 rfl ?_
    refine wp_iconst (v := 0) dX12_ahead_14 (by decide) ?_
    refine wp_iconst (v := 2) dX12_ahead_15 (by decide) ?_
    obtain ⟨q5, e6, h⟩ := bnd h
    refine wp_callS (As := [.inl x3, .inl 0, .inl 2]) dX12_ahead_16 (sh_X12_isIn_ok (d := d + 4) e6) okX12_isIn nnX12_isIn ssX12_isIn ml_RX12_378 rfl (Nat.le_of_ble_eq_true rfl) ?_
    refine wp_if_ne (tgt := 28) dX12_ahead_19 (by decide) (fun hc_ => ?_) (fun hc_ => ?_)
    · replace h := ite_f hc_ h
      refine wp_iload_n dX12_ahead_28 rfl ?_
      refine wp_iconst (v := 0) dX12_ahead_29 (by decide) ?_
      refine wp_sipush (v := 200) dX12_ahead_30 (by decide) ?_
      obtain ⟨q7, e8, h⟩ := bnd h
      refine wp_callS (As := [.inl x2, .inl 0, .inl 200]) dX12_ahead_33 (sh_X12_isIn_ok (d := d + 4) e8) okX12_isIn nnX12_isIn ssX12_isIn ml_RX12_378 rfl (Nat.le_of_ble_eq_true rfl) ?_
      refine wp_if_ne (tgt := 45) dX12_ahead_36 (by decide) (fun hc_ => ?_) (fun hc_ => ?_)
      · replace h := ite_f hc_ h
        refine wp_aload_n dX12_ahead_45 rfl ?_
        obtain ⟨q9, e10, h⟩ := bnd h
        refine wp_callV (As := []) dX12_ahead_46 (sh_X12_tries_ok (d := d + 3) e10) okX12_tries nnX12_tries vvX12_tries ml_RX12_342 rfl (Nat.le_of_ble_eq_true rfl) ?_
        refine wp_iconst (v := 0) dX12_ahead_49 (by decide) ?_
        refine wp_istore dX12_ahead_50 (Nat.le_of_ble_eq_true rfl) ?_
        obtain ⟨r11, e12, h⟩ := bnd h
        refine wp_ls (lsS (lsS (lsS (lsS (lsS lsZ))))) (X12_ahead_B52_lp FU _ e12 ?_)
        intro t_ ht_; cases ht_
        refine wp_aload_n dX12_ahead_68 rfl ?_
        obtain ⟨v13, e14, h⟩ := bnd h
        refine wp_getR (c := 12) (k := 5) dX12_ahead_69 e14 (by decide) (by decide) rfl fl_RX12_58 ?_
        refine wp_iload_n dX12_ahead_72 rfl ?_
        refine wp_if_ne (tgt := 80) dX12_ahead_73 (by decide) (fun hc_ => ?_) (fun hc_ => ?_)
        · replace h := ite_f hc_ h
          refine wp_iload_n dX12_ahead_80 rfl ?_
          refine wp_iconst (v := 1) dX12_ahead_81 (by decide) ?_
          refine wp_icmp_ne (tgt := 90) dX12_ahead_82 (by decide) (fun hc_ => ?_) (fun hc_ => ?_)
          · replace h := ite_f hc_ h
            refine wp_bipush (v := 10) dX12_ahead_90 (by decide) ?_
            exact wp_ls (lsS (lsS (lsN (lsN (lsN lsZ))))) (X12_ahead_J92_ok h)
          · replace h := ite_t hc_ h
            refine wp_bipush (v := 20) dX12_ahead_85 (by decide) ?_
            refine wp_goto (tgt := 92) dX12_ahead_87 (by decide) ?_
            exact wp_ls (lsS (lsS (lsN (lsN (lsN lsZ))))) (X12_ahead_J92_ok h)
        · replace h := ite_t hc_ h
          refine wp_iconst (v := 0) dX12_ahead_76 (by decide) ?_
          refine wp_goto (tgt := 92) dX12_ahead_77 (by decide) ?_
          exact wp_ls (lsS (lsS (lsN (lsN (lsN lsZ))))) (X12_ahead_J92_ok h)
      · replace h := ite_t hc_ h
        refine wp_aload_n dX12_ahead_39 rfl ?_
        refine wp_iconst (v := 2) dX12_ahead_40 (by decide) ?_
        obtain ⟨q15, e16, h⟩ := bnd h
        refine wp_callV (As := [.inl 2]) dX12_ahead_41 (sh_X12_fail_ok (d := d + 4) e16) okX12_fail nnX12_fail vvX12_fail ml_RX12_245 rfl (Nat.le_of_ble_eq_true rfl) ?_
        cases h
        exact wp_iret dX12_ahead_44 rfl
    · replace h := ite_t hc_ h
      exact wp_ls (lsS (lsN (lsN (lsN (lsN lsZ))))) (X12_ahead_J22_ok h)

theorem sh_X12_ahead_ok {w : Gw} {d : Nat} {x0 : Nat} {x1 : Int32} {x2 : Int32} {x3 : Int32} {M : Gm} {out : Int32 × Gm} (h : sh_X12_ahead x0 x1 x2 x3 M = some out) : Ev w mdX12_ahead (d + 5) [.inr x0, .inl x1, .inl x2, .inl x3] M (.inl (some (.inl out.1))) out.2 := by
  obtain ⟨u, e0, h⟩ := bnd h
  exact ev_of okX12_ahead ⟨_, _, rfl, isO_of e0 (by decide), by decide⟩ (Nat.le_of_ble_eq_true rfl) (X12_ahead_F_ok h)

/-! HeatGovernorModel.borne(II)I -/
def X12_borne_B38 (x0 : Nat) (x1 : Int32) (x2 : Int32) (x3 : Int32) (q : Int32 × Gm) : Option ((Int32 × Gm) ⊕ Gm) :=
  if x2 ≤ q.1 then
    some (.inr q.2)
  else
    (gfR q.2 x0 12 5).bind fun v1 =>
    (ldA q.2 0 v1 (10 + x1)).bind fun v3 =>
    if v3 = 0 then
      (sh_X12_minute x0 q.2).bind fun q5 =>
      some (.inl (q.1 + 1, q5))
    else
      some (.inr q.2)
def X12_borne_J83 (x0 : Nat) (x1 : Int32) (x2 : Int32) (x3 : Int32) (s0 : Int32) (M : Gm) : Option ((Int32 × Gm) ⊕ Gm ⊕ (Int32 × Gm)) :=
  (sh_X12_laysBack x0 M).bind fun q1 =>
  if s0 = 0 then
    some (.inl (x3 + (-1), q1))
  else
    some (.inr (.inr ((x3, q1))))
def X12_borne_J66 (x0 : Nat) (x1 : Int32) (x2 : Int32) (x3 : Int32) (M : Gm) : Option ((Int32 × Gm) ⊕ Gm ⊕ (Int32 × Gm)) :=
  (gfR M x0 12 5).bind fun v1 =>
  (ldA M 0 v1 (10 + x1)).bind fun v3 =>
  if v3 = 0 then
    X12_borne_J83 x0 x1 x2 x3 1 M
  else
    X12_borne_J83 x0 x1 x2 x3 0 M
def X12_borne_B18 (x0 : Nat) (x1 : Int32) (x2 : Int32) (q : Int32 × Gm) : Option ((Int32 × Gm) ⊕ Gm ⊕ (Int32 × Gm)) :=
  if q.1 < 0 then
    some (.inr (.inl q.2))
  else
    (sh_X12_tries x0 q.2).bind fun q1 =>
    (gfR q1 x0 12 5).bind fun v3 =>
    (stA q1 0 v3 (5 + x1) q.1).bind fun M5 =>
    (lp (X12_borne_B38 x0 x1 x2 q.1) FU (0, M5)).bind fun r7 =>
    X12_borne_J66 x0 x1 x2 q.1 r7
def X12_borne_F (x0 : Nat) (x1 : Int32) (x2 : Int32) (M : Gm) : Option (Int32 × Gm) :=
  (gfR M x0 12 5).bind fun v1 =>
  (ldA M 0 v1 (10 + x1)).bind fun v3 =>
  if v3 = 1 then
    some ((-1), M)
  else
    (lp (X12_borne_B18 x0 x1 x2) FU (99, M)).bind fun r5 =>
    Sum.elim (fun u7 =>
      some ((-1), u7)) (fun u8 =>
      some (u8.1, u8.2)) r5
def sh_X12_borne (x0 : Nat) (x1 : Int32) (x2 : Int32) (M : Gm) : Option (Int32 × Gm) := (isO M x0 12).bind fun _ => X12_borne_F x0 x1 x2 M
theorem X12_borne_B38_ok {w : Gw} {d : Nat} {x0 : Nat} {x1 : Int32} {x2 : Int32} {x3 : Int32} {q : Int32 × Gm} {o : Go} {M' : Gm} {out : (Int32 × Gm) ⊕ Gm} (h : X12_borne_B38 x0 x1 x2 x3 q = some out) (hc : ∀ t : Int32 × Gm, out = .inl t → Wp w mdX12_borne (d + 5) 38 [some (.inr x0), some (.inl x1), some (.inl x2), some (.inl x3), some (.inl t.1)] [] t.2 o M') (he0 : ∀ t : Gm, out = .inr t → Wp w mdX12_borne (d + 5) 66 [some (.inr x0), some (.inl x1), some (.inl x2), some (.inl x3), none] [] t o M') : Wp w mdX12_borne (d + 5) 38 [some (.inr x0), some (.inl x1), some (.inl x2), some (.inl x3), some (.inl q.1)] [] q.2 o M' := by
  unfold X12_borne_B38 at h
  refine wp_iload dX12_borne_38 rfl ?_
  refine wp_iload_n dX12_borne_40 rfl ?_
  refine wp_icmp_ge (tgt := 66) dX12_borne_41 (by decide) (fun hc_ => ?_) (fun hc_ => ?_)
  · replace h := ite_t hc_ h
    cases h
    exact wp_ls (lsS (lsS (lsS (lsS (lsN lsZ))))) (he0 q.2 rfl)
  · replace h := ite_f hc_ h
    refine wp_aload_n dX12_borne_44 rfl ?_
    obtain ⟨v1, e2, h⟩ := bnd h
    refine wp_getR (c := 12) (k := 5) dX12_borne_45 e2 (by decide) (by decide) rfl fl_RX12_58 ?_
    refine wp_bipush (v := 10) dX12_borne_48 (by decide) ?_
    refine wp_iload_n dX12_borne_50 rfl ?_
    refine wp_iadd dX12_borne_51 ?_
    obtain ⟨v3, e4, h⟩ := bnd h
    refine wp_iaload dX12_borne_52 e4 ?_
    refine wp_if_ne (tgt := 66) dX12_borne_53 (by decide) (fun hc_ => ?_) (fun hc_ => ?_)
    · replace h := ite_f hc_ h
      cases h
      exact wp_ls (lsS (lsS (lsS (lsS (lsN lsZ))))) (he0 q.2 rfl)
    · replace h := ite_t hc_ h
      refine wp_aload_n dX12_borne_56 rfl ?_
      obtain ⟨q5, e6, h⟩ := bnd h
      refine wp_callV (As := []) dX12_borne_57 (sh_X12_minute_ok (d := d) e6) okX12_minute nnX12_minute vvX12_minute ml_RX12_351 rfl (Nat.le_of_ble_eq_true rfl) ?_
      refine wp_iinc (v := q.1 + 1) dX12_borne_60 rfl rfl ?_
      refine wp_goto (tgt := 38) dX12_borne_63 (by decide) ?_
      cases h
      exact wp_ls (lsS (lsS (lsS (lsS (lsS lsZ))))) (hc (q.1 + 1, q5) rfl)

theorem X12_borne_B38_lp {w : Gw} {d : Nat} {x0 : Nat} {x1 : Int32} {x2 : Int32} {x3 : Int32} {o : Go} {M' : Gm} {r : Gm} : ∀ (n : Nat) (q : Int32 × Gm), lp (X12_borne_B38 x0 x1 x2 x3) n q = some r → (∀ t : Gm, r = t → Wp w mdX12_borne (d + 5) 66 [some (.inr x0), some (.inl x1), some (.inl x2), some (.inl x3), none] [] t o M') → Wp w mdX12_borne (d + 5) 38 [some (.inr x0), some (.inl x1), some (.inl x2), some (.inl x3), some (.inl q.1)] [] q.2 o M' := by
  intro n
  induction n with
  | zero => intro q h; cases h
  | succ n ih =>
    intro q h he0
    cases hb : X12_borne_B38 x0 x1 x2 x3 q with
    | none => rw [lp_succ, hb] at h; cases h
    | some out =>
      rw [lp_succ, hb] at h
      exact X12_borne_B38_ok hb (fun t e => ih t (by rw [e] at h; exact h) he0) (fun t e => he0 t (by rw [e] at h; cases h; rfl))
theorem X12_borne_J83_ok {w : Gw} {d : Nat} {x0 : Nat} {x1 : Int32} {x2 : Int32} {x3 : Int32} {s0 : Int32} {M : Gm} {o : Go} {M' : Gm} {out : (Int32 × Gm) ⊕ Gm ⊕ (Int32 × Gm)} (h : X12_borne_J83 x0 x1 x2 x3 s0 M = some out) (hc : ∀ t : Int32 × Gm, out = .inl t → Wp w mdX12_borne (d + 5) 18 [some (.inr x0), some (.inl x1), some (.inl x2), some (.inl t.1), none] [] t.2 o M') (he0 : ∀ t : Gm, out = .inr (.inl t) → Wp w mdX12_borne (d + 5) 102 [none, none, none, none, none] [] t o M') (he1 : ∀ t : Int32 × Gm, out = .inr (.inr t) → Wp w mdX12_borne (d + 5) 94 [none, none, none, some (.inl t.1), none] [] t.2 o M') : Wp w mdX12_borne (d + 5) 83 [some (.inr x0), some (.inl x1), some (.inl x2), some (.inl x3), none] [.inl s0] M o M' := by
  unfold X12_borne_J83 at h
  refine wp_istore dX12_borne_83 (Nat.le_of_ble_eq_true rfl) ?_
  refine wp_aload_n dX12_borne_85 rfl ?_
  obtain ⟨q1, e2, h⟩ := bnd h
  refine wp_callV (As := []) dX12_borne_86 (sh_X12_laysBack_ok (d := d + 3) e2) okX12_laysBack nnX12_laysBack vvX12_laysBack ml_RX12_359 rfl (Nat.le_of_ble_eq_true rfl) ?_
  refine wp_iload dX12_borne_89 rfl ?_
  refine wp_if_eq (tgt := 96) dX12_borne_91 (by decide) (fun hc_ => ?_) (fun hc_ => ?_)
  · replace h := ite_t hc_ h
    refine wp_iinc (v := x3 + (-1)) dX12_borne_96 rfl rfl ?_
    refine wp_goto (tgt := 18) dX12_borne_99 (by decide) ?_
    cases h
    exact wp_ls (lsS (lsS (lsS (lsS (lsN lsZ))))) (hc (x3 + (-1), q1) rfl)
  · replace h := ite_f hc_ h
    cases h
    exact wp_ls (lsN (lsN (lsN (lsS (lsN lsZ))))) (he1 (x3, q1) rfl)

theorem X12_borne_J66_ok {w : Gw} {d : Nat} {x0 : Nat} {x1 : Int32} {x2 : Int32} {x3 : Int32} {M : Gm} {o : Go} {M' : Gm} {out : (Int32 × Gm) ⊕ Gm ⊕ (Int32 × Gm)} (h : X12_borne_J66 x0 x1 x2 x3 M = some out) (hc : ∀ t : Int32 × Gm, out = .inl t → Wp w mdX12_borne (d + 5) 18 [some (.inr x0), some (.inl x1), some (.inl x2), some (.inl t.1), none] [] t.2 o M') (he0 : ∀ t : Gm, out = .inr (.inl t) → Wp w mdX12_borne (d + 5) 102 [none, none, none, none, none] [] t o M') (he1 : ∀ t : Int32 × Gm, out = .inr (.inr t) → Wp w mdX12_borne (d + 5) 94 [none, none, none, some (.inl t.1), none] [] t.2 o M') : Wp w mdX12_borne (d + 5) 66 [some (.inr x0), some (.inl x1), some (.inl x2), some (.inl x3), none] [] M o M' := by
  unfold X12_borne_J66 at h
  refine wp_aload_n dX12_borne_66 rfl ?_
  obtain ⟨v1, e2, h⟩ := bnd h
  refine wp_getR (c := 12) (k := 5) dX12_borne_67 e2 (by decide) (by decide) rfl fl_RX12_58 ?_
  refine wp_bipush (v := 10) dX12_borne_70 (by decide) ?_
  refine wp_iload_n dX12_borne_72 rfl ?_
  refine wp_iadd dX12_borne_73 ?_
  obtain ⟨v3, e4, h⟩ := bnd h
  refine wp_iaload dX12_borne_74 e4 ?_
  refine wp_if_ne (tgt := 82) dX12_borne_75 (by decide) (fun hc_ => ?_) (fun hc_ => ?_)
  · replace h := ite_f hc_ h
    refine wp_iconst (v := 0) dX12_borne_82 (by decide) ?_
    exact wp_ls (lsS (lsS (lsS (lsS (lsN lsZ))))) (X12_borne_J83_ok h hc he0 he1)
  · replace h := ite_t hc_ h
    refine wp_iconst (v := 1) dX12_borne_78 (by decide) ?_
    refine wp_goto (tgt := 83) dX12_borne_79 (by decide) ?_
    exact wp_ls (lsS (lsS (lsS (lsS (lsN lsZ))))) (X12_borne_J83_ok h hc he0 he1)

theorem X12_borne_B18_ok {w : Gw} {d : Nat} {x0 : Nat} {x1 : Int32} {x2 : Int32} {q : Int32 × Gm} {o : Go} {M' : Gm} {out : (Int32 × Gm) ⊕ Gm ⊕ (Int32 × Gm)} (h : X12_borne_B18 x0 x1 x2 q = some out) (hc : ∀ t : Int32 × Gm, out = .inl t → Wp w mdX12_borne (d + 5) 18 [some (.inr x0), some (.inl x1), some (.inl x2), some (.inl t.1), none] [] t.2 o M') (he0 : ∀ t : Gm, out = .inr (.inl t) → Wp w mdX12_borne (d + 5) 102 [none, none, none, none, none] [] t o M') (he1 : ∀ t : Int32 × Gm, out = .inr (.inr t) → Wp w mdX12_borne (d + 5) 94 [none, none, none, some (.inl t.1), none] [] t.2 o M') : Wp w mdX12_borne (d + 5) 18 [some (.inr x0), some (.inl x1), some (.inl x2), some (.inl q.1), none] [] q.2 o M' := by
  unfold X12_borne_B18 at h
  refine wp_iload_n dX12_borne_18 rfl ?_
  refine wp_if_lt (tgt := 102) dX12_borne_19 (by decide) (fun hc_ => ?_) (fun hc_ => ?_)
  · replace h := ite_t hc_ h
    cases h
    exact wp_ls (lsN (lsN (lsN (lsN (lsN lsZ))))) (he0 q.2 rfl)
  · replace h := ite_f hc_ h
    refine wp_aload_n dX12_borne_22 rfl ?_
    obtain ⟨q1, e2, h⟩ := bnd h
    refine wp_callV (As := []) dX12_borne_23 (sh_X12_tries_ok (d := d + 3) e2) okX12_tries nnX12_tries vvX12_tries ml_RX12_342 rfl (Nat.le_of_ble_eq_true rfl) ?_
    refine wp_aload_n dX12_borne_26 rfl ?_
    obtain ⟨v3, e4, h⟩ := bnd h
    refine wp_getR (c := 12) (k := 5) dX12_borne_27 e4 (by decide) (by decide) rfl fl_RX12_58 ?_
    refine wp_iconst (v := 5) dX12_borne_30 (by decide) ?_
    refine wp_iload_n dX12_borne_31 rfl ?_
    refine wp_iadd dX12_borne_32 ?_
    refine wp_iload_n dX12_borne_33 rfl ?_
    obtain ⟨M5, e6, h⟩ := bnd h
    refine wp_iastore dX12_borne_34 e6 ?_
    refine wp_iconst (v := 0) dX12_borne_35 (by decide) ?_
    refine wp_istore dX12_borne_36 (Nat.le_of_ble_eq_true rfl) ?_
    obtain ⟨r7, e8, h⟩ := bnd h
    refine wp_ls (lsS (lsS (lsS (lsS (lsS lsZ))))) (X12_borne_B38_lp FU _ e8 ?_)
    intro t_ ht_; cases ht_
    exact wp_ls (lsS (lsS (lsS (lsS (lsN lsZ))))) (X12_borne_J66_ok h hc he0 he1)

theorem X12_borne_B18_lp {w : Gw} {d : Nat} {x0 : Nat} {x1 : Int32} {x2 : Int32} {o : Go} {M' : Gm} {r : Gm ⊕ (Int32 × Gm)} : ∀ (n : Nat) (q : Int32 × Gm), lp (X12_borne_B18 x0 x1 x2) n q = some r → (∀ t : Gm, r = (.inl t) → Wp w mdX12_borne (d + 5) 102 [none, none, none, none, none] [] t o M') → (∀ t : Int32 × Gm, r = (.inr t) → Wp w mdX12_borne (d + 5) 94 [none, none, none, some (.inl t.1), none] [] t.2 o M') → Wp w mdX12_borne (d + 5) 18 [some (.inr x0), some (.inl x1), some (.inl x2), some (.inl q.1), none] [] q.2 o M' := by
  intro n
  induction n with
  | zero => intro q h; cases h
  | succ n ih =>
    intro q h he0 he1
    cases hb : X12_borne_B18 x0 x1 x2 q with
    | none => rw [lp_succ, hb] at h; cases h
    | some out =>
      rw [lp_succ, hb] at h
      exact X12_borne_B18_ok hb (fun t e => ih t (by rw [e] at h; exact h) he0 he1) (fun t e => he0 t (by rw [e] at h; cases h; rfl)) (fun t e => he1 t (by rw [e] at h; cases h; rfl))
theorem X12_borne_F_ok {w : Gw} {d : Nat} {x0 : Nat} {x1 : Int32} {x2 : Int32} {M : Gm} {out : Int32 × Gm} (h : X12_borne_F x0 x1 x2 M = some out) : Wp w mdX12_borne (d + 5) 0 [some (.inr x0), some (.inl x1), some (.inl x2), none, none] [] M (.inl (some (.inl out.1))) out.2 := by
  unfold X12_borne_F at h
  refine wp_aload_n dX12_borne_0 rfl ?_
  obtain ⟨v1, e2, h⟩ := bnd h
  refine wp_getR (c := 12) (k := 5) dX12_borne_1 e2 (by decide) (by decide) rfl fl_RX12_58 ?_
  refine wp_bipush (v := 10) dX12_borne_4 (by decide) ?_
  refine wp_iload_n dX12_borne_6 rfl ?_
  refine wp_iadd dX12_borne_7 ?_
  obtain ⟨v3, e4, h⟩ := bnd h
  refine wp_iaload dX12_borne_8 e4 ?_
  refine wp_iconst (v := 1) dX12_borne_9 (by decide) ?_
  refine wp_icmp_ne (tgt := 15) dX12_borne_10 (by decide) (fun hc_ => ?_) (fun hc_ => ?_)
  · replace h := ite_f hc_ h
    refine wp_bipush (v := 99) dX12_borne_15 (by decide) ?_
    refine wp_istore_n dX12_borne_17 (Nat.le_of_ble_eq_true rfl) ?_
    obtain ⟨r5, e6, h⟩ := bnd h
    refine wp_ls (lsS (lsS (lsS (lsS (lsN lsZ))))) (X12_borne_B18_lp FU _ e6 ?_ ?_)
    · intro y7 ht_; subst ht_
      replace h := elim_l h
      refine wp_iconst (v := (-1)) dX12_borne_102 (by decide) ?_
      cases h
      exact wp_iret dX12_borne_103 rfl
    · intro y8 ht_; subst ht_
      replace h := elim_r h
      refine wp_iload_n dX12_borne_94 rfl ?_
      cases h
      exact wp_iret dX12_borne_95 rfl
  · replace h := ite_t hc_ h
    refine wp_iconst (v := (-1)) dX12_borne_13 (by decide) ?_
    cases h
    exact wp_iret dX12_borne_14 rfl

theorem sh_X12_borne_ok {w : Gw} {d : Nat} {x0 : Nat} {x1 : Int32} {x2 : Int32} {M : Gm} {out : Int32 × Gm} (h : sh_X12_borne x0 x1 x2 M = some out) : Ev w mdX12_borne (d + 5) [.inr x0, .inl x1, .inl x2] M (.inl (some (.inl out.1))) out.2 := by
  obtain ⟨u, e0, h⟩ := bnd h
  exact ev_of okX12_borne ⟨_, _, rfl, isO_of e0 (by decide), by decide⟩ (Nat.le_of_ble_eq_true rfl) (X12_borne_F_ok h)

/-! HeatGovernorModel.peak(II)I -/
def X12_peak_B9 (x0 : Nat) (x1 : Int32) (x2 : Int32) (q : Int32 × Int32 × Gm) : Option ((Int32 × Int32 × Gm) ⊕ (Int32 × Gm)) :=
  if x2 ≤ q.2.1 then
    some (.inr (q.1, q.2.2))
  else
    (sh_X12_minute x0 q.2.2).bind fun q1 =>
    (gfR q1 x0 12 5).bind fun v3 =>
    (ldA q1 0 v3 (0 + x1)).bind fun v5 =>
    (sh_J9_max_7cf53 q.1 v5 q1).bind fun q7 =>
    some (.inl (q7, q.2.1 + 1, q1))
def X12_peak_F (x0 : Nat) (x1 : Int32) (x2 : Int32) (M : Gm) : Option (Int32 × Gm) :=
  (sh_X12_tries x0 M).bind fun q1 =>
  (lp (X12_peak_B9 x0 x1 x2) FU (0, 0, q1)).bind fun r3 =>
  (sh_X12_laysBack x0 r3.2).bind fun q5 =>
  some (r3.1, q5)
def sh_X12_peak (x0 : Nat) (x1 : Int32) (x2 : Int32) (M : Gm) : Option (Int32 × Gm) := (isO M x0 12).bind fun _ => X12_peak_F x0 x1 x2 M
theorem X12_peak_B9_ok {w : Gw} {d : Nat} {x0 : Nat} {x1 : Int32} {x2 : Int32} {q : Int32 × Int32 × Gm} {o : Go} {M' : Gm} {out : (Int32 × Int32 × Gm) ⊕ (Int32 × Gm)} (h : X12_peak_B9 x0 x1 x2 q = some out) (hc : ∀ t : Int32 × Int32 × Gm, out = .inl t → Wp w mdX12_peak (d + 5) 9 [some (.inr x0), some (.inl x1), some (.inl x2), some (.inl t.1), some (.inl t.2.1)] [] t.2.2 o M') (he0 : ∀ t : Int32 × Gm, out = .inr t → Wp w mdX12_peak (d + 5) 38 [some (.inr x0), none, none, some (.inl t.1), none] [] t.2 o M') : Wp w mdX12_peak (d + 5) 9 [some (.inr x0), some (.inl x1), some (.inl x2), some (.inl q.1), some (.inl q.2.1)] [] q.2.2 o M' := by
  unfold X12_peak_B9 at h
  refine wp_iload dX12_peak_9 rfl ?_
  refine wp_iload_n dX12_peak_11 rfl ?_
  refine wp_icmp_ge (tgt := 38) dX12_peak_12 (by decide) (fun hc_ => ?_) (fun hc_ => ?_)
  · replace h := ite_t hc_ h
    cases h
    exact wp_ls (lsS (lsN (lsN (lsS (lsN lsZ))))) (he0 (q.1, q.2.2) rfl)
  · replace h := ite_f hc_ h
    refine wp_aload_n dX12_peak_15 rfl ?_
    obtain ⟨q1, e2, h⟩ := bnd h
    refine wp_callV (As := []) dX12_peak_16 (sh_X12_minute_ok (d := d) e2) okX12_minute nnX12_minute vvX12_minute ml_RX12_351 rfl (Nat.le_of_ble_eq_true rfl) ?_
    refine wp_iload_n dX12_peak_19 rfl ?_
    refine wp_aload_n dX12_peak_20 rfl ?_
    obtain ⟨v3, e4, h⟩ := bnd h
    refine wp_getR (c := 12) (k := 5) dX12_peak_21 e4 (by decide) (by decide) rfl fl_RX12_58 ?_
    refine wp_iconst (v := 0) dX12_peak_24 (by decide) ?_
    refine wp_iload_n dX12_peak_25 rfl ?_
    refine wp_iadd dX12_peak_26 ?_
    obtain ⟨v5, e6, h⟩ := bnd h
    refine wp_iaload dX12_peak_27 e6 ?_
    obtain ⟨q7, e8, h⟩ := bnd h
    refine wp_callS (As := [.inl q.1, .inl v5]) dX12_peak_28 (sh_J9_max_7cf53_ok (d := d + 4) e8) okJ9_max_7cf53 nnJ9_max_7cf53 ssJ9_max_7cf53 ml_RX12_297 rfl (Nat.le_of_ble_eq_true rfl) ?_
    refine wp_istore_n dX12_peak_31 (Nat.le_of_ble_eq_true rfl) ?_
    refine wp_iinc (v := q.2.1 + 1) dX12_peak_32 rfl rfl ?_
    refine wp_goto (tgt := 9) dX12_peak_35 (by decide) ?_
    cases h
    exact wp_ls (lsS (lsS (lsS (lsS (lsS lsZ))))) (hc (q7, q.2.1 + 1, q1) rfl)

theorem X12_peak_B9_lp {w : Gw} {d : Nat} {x0 : Nat} {x1 : Int32} {x2 : Int32} {o : Go} {M' : Gm} {r : (Int32 × Gm)} : ∀ (n : Nat) (q : Int32 × Int32 × Gm), lp (X12_peak_B9 x0 x1 x2) n q = some r → (∀ t : Int32 × Gm, r = t → Wp w mdX12_peak (d + 5) 38 [some (.inr x0), none, none, some (.inl t.1), none] [] t.2 o M') → Wp w mdX12_peak (d + 5) 9 [some (.inr x0), some (.inl x1), some (.inl x2), some (.inl q.1), some (.inl q.2.1)] [] q.2.2 o M' := by
  intro n
  induction n with
  | zero => intro q h; cases h
  | succ n ih =>
    intro q h he0
    cases hb : X12_peak_B9 x0 x1 x2 q with
    | none => rw [lp_succ, hb] at h; cases h
    | some out =>
      rw [lp_succ, hb] at h
      exact X12_peak_B9_ok hb (fun t e => ih t (by rw [e] at h; exact h) he0) (fun t e => he0 t (by rw [e] at h; cases h; rfl))
theorem X12_peak_F_ok {w : Gw} {d : Nat} {x0 : Nat} {x1 : Int32} {x2 : Int32} {M : Gm} {out : Int32 × Gm} (h : X12_peak_F x0 x1 x2 M = some out) : Wp w mdX12_peak (d + 5) 0 [some (.inr x0), some (.inl x1), some (.inl x2), none, none] [] M (.inl (some (.inl out.1))) out.2 := by
  unfold X12_peak_F at h
  refine wp_aload_n dX12_peak_0 rfl ?_
  obtain ⟨q1, e2, h⟩ := bnd h
  refine wp_callV (As := []) dX12_peak_1 (sh_X12_tries_ok (d := d + 3) e2) okX12_tries nnX12_tries vvX12_tries ml_RX12_342 rfl (Nat.le_of_ble_eq_true rfl) ?_
  refine wp_iconst (v := 0) dX12_peak_4 (by decide) ?_
  refine wp_istore_n dX12_peak_5 (Nat.le_of_ble_eq_true rfl) ?_
  refine wp_iconst (v := 0) dX12_peak_6 (by decide) ?_
  refine wp_istore dX12_peak_7 (Nat.le_of_ble_eq_true rfl) ?_
  obtain ⟨r3, e4, h⟩ := bnd h
  refine wp_ls (lsS (lsS (lsS (lsS (lsS lsZ))))) (X12_peak_B9_lp FU _ e4 ?_)
  intro t_ ht_; cases ht_
  refine wp_aload_n dX12_peak_38 rfl ?_
  obtain ⟨q5, e6, h⟩ := bnd h
  refine wp_callV (As := []) dX12_peak_39 (sh_X12_laysBack_ok (d := d + 3) e6) okX12_laysBack nnX12_laysBack vvX12_laysBack ml_RX12_359 rfl (Nat.le_of_ble_eq_true rfl) ?_
  refine wp_iload_n dX12_peak_42 rfl ?_
  cases h
  exact wp_iret dX12_peak_43 rfl

theorem sh_X12_peak_ok {w : Gw} {d : Nat} {x0 : Nat} {x1 : Int32} {x2 : Int32} {M : Gm} {out : Int32 × Gm} (h : sh_X12_peak x0 x1 x2 M = some out) : Ev w mdX12_peak (d + 5) [.inr x0, .inl x1, .inl x2] M (.inl (some (.inl out.1))) out.2 := by
  obtain ⟨u, e0, h⟩ := bnd h
  exact ev_of okX12_peak ⟨_, _, rfl, isO_of e0 (by decide), by decide⟩ (Nat.le_of_ble_eq_true rfl) (X12_peak_F_ok h)

/-! HeatGovernorModel.bears(III)I -/
def X12_bears_J22 (x0 : Nat) (M : Gm) : Option (Int32 × Gm) :=
  (sh_X12_fail x0 1 M).bind fun q1 =>
  some (q1.1, q1.2)
def X12_bears_J73 (s0 : Int32) (M : Gm) : Option (Int32 × Gm) :=
  some (s0, M)
def X12_bears_J42 (x0 : Nat) (x1 : Int32) (x2 : Int32) (x3 : Int32) (s0 : Int32) (s1 : Int32) (s2 : Int32) (M : Gm) : Option (Int32 × Gm) :=
  (sh_X12_isIn s0 s1 s2 M).bind fun q1 =>
  if q1 = 0 then
    (sh_X12_fail x0 2 M).bind fun q7 =>
    some (q7.1, q7.2)
  else
    if x3 = 0 then
      (sh_X12_peak x0 x1 x2 M).bind fun q5 =>
      X12_bears_J73 q5.1 q5.2
    else
      (sh_X12_borne x0 x1 x2 M).bind fun q3 =>
      X12_bears_J73 q3.1 q3.2
def X12_bears_F (x0 : Nat) (x1 : Int32) (x2 : Int32) (x3 : Int32) (M : Gm) : Option (Int32 × Gm) :=
  (pfI M x0 12 4 0).bind fun M1 =>
  (sh_X12_isZone x0 x1 M1).bind fun q3 =>
  if q3 = 0 then
    X12_bears_J22 x0 M1
  else
    (sh_X12_isIn x3 0 1 M1).bind fun q5 =>
    if q5 = 0 then
      X12_bears_J22 x0 M1
    else
      if x3 = 0 then
        X12_bears_J42 x0 x1 x2 x3 x2 1 200 M1
      else
        X12_bears_J42 x0 x1 x2 x3 x2 1 60 M1
def sh_X12_bears (x0 : Nat) (x1 : Int32) (x2 : Int32) (x3 : Int32) (M : Gm) : Option (Int32 × Gm) := (isO M x0 12).bind fun _ => X12_bears_F x0 x1 x2 x3 M
theorem X12_bears_J22_ok {w : Gw} {d : Nat} {x0 : Nat} {M : Gm} {out : Int32 × Gm} (h : X12_bears_J22 x0 M = some out) : Wp w mdX12_bears (d + 6) 22 [some (.inr x0), none, none, none] [] M (.inl (some (.inl out.1))) out.2 := by
  unfold X12_bears_J22 at h
  refine wp_aload_n dX12_bears_22 rfl ?_
  refine wp_iconst (v := 1) dX12_bears_23 (by decide) ?_
  obtain ⟨q1, e2, h⟩ := bnd h
  refine wp_callV (As := [.inl 1]) dX12_bears_24 (sh_X12_fail_ok (d := d + 5) e2) okX12_fail nnX12_fail vvX12_fail ml_RX12_245 rfl (Nat.le_of_ble_eq_true rfl) ?_
  cases h
  exact wp_iret dX12_bears_27 rfl

theorem X12_bears_J73_ok {w : Gw} {d : Nat} {s0 : Int32} {M : Gm} {out : Int32 × Gm} (h : X12_bears_J73 s0 M = some out) : Wp w mdX12_bears (d + 6) 73 [none, none, none, none] [.inl s0] M (.inl (some (.inl out.1))) out.2 := by
  unfold X12_bears_J73 at h
  cases h
  exact wp_iret dX12_bears_73 rfl

theorem X12_bears_J42_ok {w : Gw} {d : Nat} {x0 : Nat} {x1 : Int32} {x2 : Int32} {x3 : Int32} {s0 : Int32} {s1 : Int32} {s2 : Int32} {M : Gm} {out : Int32 × Gm} (h : X12_bears_J42 x0 x1 x2 x3 s0 s1 s2 M = some out) : Wp w mdX12_bears (d + 6) 42 [some (.inr x0), some (.inl x1), some (.inl x2), some (.inl x3)] [.inl s2, .inl s1, .inl s0] M (.inl (some (.inl out.1))) out.2 := by
  unfold X12_bears_J42 at h
  obtain ⟨q1, e2, h⟩ := bnd h
  refine wp_callS (As := [.inl s0, .inl s1, .inl s2]) dX12_bears_42 (sh_X12_isIn_ok (d := d + 5) e2) okX12_isIn nnX12_isIn ssX12_isIn ml_RX12_378 rfl (Nat.le_of_ble_eq_true rfl) ?_
  refine wp_if_ne (tgt := 54) dX12_bears_45 (by decide) (fun hc_ => ?_) (fun hc_ => ?_)
  · replace h := ite_f hc_ h
    refine wp_iload_n dX12_bears_54 rfl ?_
    refine wp_if_ne (tgt := 67) dX12_bears_55 (by decide) (fun hc_ => ?_) (fun hc_ => ?_)
    · replace h := ite_f hc_ h
      refine wp_aload_n dX12_bears_67 rfl ?_
      refine wp_iload_n dX12_bears_68 rfl ?_
      refine wp_iload_n dX12_bears_69 rfl ?_
      obtain ⟨q3, e4, h⟩ := bnd h
      refine wp_callV (As := [.inl x1, .inl x2]) dX12_bears_70 (sh_X12_borne_ok (d := d) e4) okX12_borne nnX12_borne vvX12_borne ml_RX12_400 rfl (Nat.le_of_ble_eq_true rfl) ?_
      exact wp_ls (lsN (lsN (lsN (lsN lsZ)))) (X12_bears_J73_ok h)
    · replace h := ite_t hc_ h
      refine wp_aload_n dX12_bears_58 rfl ?_
      refine wp_iload_n dX12_bears_59 rfl ?_
      refine wp_iload_n dX12_bears_60 rfl ?_
      obtain ⟨q5, e6, h⟩ := bnd h
      refine wp_callV (As := [.inl x1, .inl x2]) dX12_bears_61 (sh_X12_peak_ok (d := d) e6) okX12_peak nnX12_peak vvX12_peak ml_RX12_397 rfl (Nat.le_of_ble_eq_true rfl) ?_
      refine wp_goto (tgt := 73) dX12_bears_64 (by decide) ?_
      exact wp_ls (lsN (lsN (lsN (lsN lsZ)))) (X12_bears_J73_ok h)
  · replace h := ite_t hc_ h
    refine wp_aload_n dX12_bears_48 rfl ?_
    refine wp_iconst (v := 2) dX12_bears_49 (by decide) ?_
    obtain ⟨q7, e8, h⟩ := bnd h
    refine wp_callV (As := [.inl 2]) dX12_bears_50 (sh_X12_fail_ok (d := d + 5) e8) okX12_fail nnX12_fail vvX12_fail ml_RX12_245 rfl (Nat.le_of_ble_eq_true rfl) ?_
    cases h
    exact wp_iret dX12_bears_53 rfl

theorem X12_bears_F_ok {w : Gw} {d : Nat} {x0 : Nat} {x1 : Int32} {x2 : Int32} {x3 : Int32} {M : Gm} {out : Int32 × Gm} (h : X12_bears_F x0 x1 x2 x3 M = some out) : Wp w mdX12_bears (d + 6) 0 [some (.inr x0), some (.inl x1), some (.inl x2), some (.inl x3)] [] M (.inl (some (.inl out.1))) out.2 := by
  unfold X12_bears_F at h
  refine wp_aload_n dX12_bears_0 rfl ?_
  refine wp_iconst (v := 0) dX12_bears_1 (by decide) ?_
  obtain ⟨M1, e2, h⟩ := bnd h
  refine wp_putI (c := 12) (k := 4) dX12_bears_2 e2 (by decide) (by decide) rfl fl_RX12_131 (Or.inl rfl) ?_
  refine wp_aload_n dX12_bears_5 rfl ?_
  refine wp_iload_n dX12_bears_6 rfl ?_
  obtain ⟨q3, e4, h⟩ := bnd h
  refine wp_callV (As := [.inl x1]) dX12_bears_7 (sh_X12_isZone_ok (d := d + 4) e4) okX12_isZone nnX12_isZone vvX12_isZone ml_RX12_382 rfl (Nat.le_of_ble_eq_true rfl) ?_
  refine wp_if_eq (tgt := 22) dX12_bears_10 (by decide) (fun hc_ => ?_) (fun hc_ => ?_)
  · replace h := ite_t hc_ h
    exact wp_ls (lsS (lsN (lsN (lsN lsZ)))) (X12_bears_J22_ok h)
  · replace h := ite_f hc_ h
    refine wp_iload_n dX12_bears_13 rfl ?_
    refine wp_iconst (v := 0) dX12_bears_14 (by decide) ?_
    refine wp_iconst (v := 1) dX12_bears_15 (by decide) ?_
    obtain ⟨q5, e6, h⟩ := bnd h
    refine wp_callS (As := [.inl x3, .inl 0, .inl 1]) dX12_bears_16 (sh_X12_isIn_ok (d := d + 5) e6) okX12_isIn nnX12_isIn ssX12_isIn ml_RX12_378 rfl (Nat.le_of_ble_eq_true rfl) ?_
    refine wp_if_ne (tgt := 28) dX12_bears_19 (by decide) (fun hc_ => ?_) (fun hc_ => ?_)
    · replace h := ite_f hc_ h
      refine wp_iload_n dX12_bears_28 rfl ?_
      refine wp_iconst (v := 1) dX12_bears_29 (by decide) ?_
      refine wp_iload_n dX12_bears_30 rfl ?_
      refine wp_if_ne (tgt := 40) dX12_bears_31 (by decide) (fun hc_ => ?_) (fun hc_ => ?_)
      · replace h := ite_f hc_ h
        refine wp_bipush (v := 60) dX12_bears_40 (by decide) ?_
        exact wp_ls (lsS (lsS (lsS (lsS lsZ)))) (X12_bears_J42_ok h)
      · replace h := ite_t hc_ h
        refine wp_sipush (v := 200) dX12_bears_34 (by decide) ?_
        refine wp_goto (tgt := 42) dX12_bears_37 (by decide) ?_
        exact wp_ls (lsS (lsS (lsS (lsS lsZ)))) (X12_bears_J42_ok h)
    · replace h := ite_t hc_ h
      exact wp_ls (lsS (lsN (lsN (lsN lsZ)))) (X12_bears_J22_ok h)

theorem sh_X12_bears_ok {w : Gw} {d : Nat} {x0 : Nat} {x1 : Int32} {x2 : Int32} {x3 : Int32} {M : Gm} {out : Int32 × Gm} (h : sh_X12_bears x0 x1 x2 x3 M = some out) : Ev w mdX12_bears (d + 6) [.inr x0, .inl x1, .inl x2, .inl x3] M (.inl (some (.inl out.1))) out.2 := by
  obtain ⟨u, e0, h⟩ := bnd h
  exact ev_of okX12_bears ⟨_, _, rfl, isO_of e0 (by decide), by decide⟩ (Nat.le_of_ble_eq_true rfl) (X12_bears_F_ok h)

/-! HeatGovernorModel.flips(II)I -/
def X12_flips_J86 (x0 : Nat) (x1 : Int32) (x2 : Int32) (x4 : Int32) (s0 : Int32) (s1 : Int32) (M : Gm) : Option ((Int32 × Int32 × Gm) ⊕ (Int32 × Gm)) :=
  some (.inl (s0 + s1, x4 + 1, M))
def X12_flips_B45 (x0 : Nat) (x1 : Int32) (x2 : Int32) (q : Int32 × Int32 × Gm) : Option ((Int32 × Int32 × Gm) ⊕ (Int32 × Gm)) :=
  if x2 ≤ q.2.1 then
    some (.inr (q.1, q.2.2))
  else
    (gfR q.2.2 x0 12 5).bind fun v1 =>
    (ldA q.2.2 0 v1 (50 + x1)).bind fun v3 =>
    (sh_X12_minute x0 q.2.2).bind fun q5 =>
    (gfR q5 x0 12 5).bind fun v7 =>
    (ldA q5 0 v7 (50 + x1)).bind fun v9 =>
    if v3 = v9 then
      X12_flips_J86 x0 x1 x2 q.2.1 q.1 0 q5
    else
      X12_flips_J86 x0 x1 x2 q.2.1 q.1 1 q5
def X12_flips_F (x0 : Nat) (x1 : Int32) (x2 : Int32) (M : Gm) : Option (Int32 × Gm) :=
  (pfI M x0 12 4 0).bind fun M1 =>
  (sh_X12_isTrip x0 x1 M1).bind fun q3 =>
  if q3 = 0 then
    (sh_X12_fail x0 1 M1).bind fun q15 =>
    some (q15.1, q15.2)
  else
    (sh_X12_isIn x2 1 200 M1).bind fun q5 =>
    if q5 = 0 then
      (sh_X12_fail x0 2 M1).bind fun q13 =>
      some (q13.1, q13.2)
    else
      (sh_X12_tries x0 M1).bind fun q7 =>
      (lp (X12_flips_B45 x0 x1 x2) FU (0, 0, q7)).bind fun r9 =>
      (sh_X12_laysBack x0 r9.2).bind fun q11 =>
      some (r9.1, q11)
def sh_X12_flips (x0 : Nat) (x1 : Int32) (x2 : Int32) (M : Gm) : Option (Int32 × Gm) := (isO M x0 12).bind fun _ => X12_flips_F x0 x1 x2 M
theorem X12_flips_J86_ok {w : Gw} {d : Nat} {x0 : Nat} {x1 : Int32} {x2 : Int32} {x4 : Int32} {s0 : Int32} {s1 : Int32} {M : Gm} {o : Go} {M' : Gm} {out : (Int32 × Int32 × Gm) ⊕ (Int32 × Gm)} (h : X12_flips_J86 x0 x1 x2 x4 s0 s1 M = some out) (hc : ∀ t : Int32 × Int32 × Gm, out = .inl t → Wp w mdX12_flips (d + 5) 45 [some (.inr x0), some (.inl x1), some (.inl x2), some (.inl t.1), some (.inl t.2.1), none] [] t.2.2 o M') (he0 : ∀ t : Int32 × Gm, out = .inr t → Wp w mdX12_flips (d + 5) 94 [some (.inr x0), none, none, some (.inl t.1), none, none] [] t.2 o M') : Wp w mdX12_flips (d + 5) 86 [some (.inr x0), some (.inl x1), some (.inl x2), none, some (.inl x4), none] [.inl s1, .inl s0] M o M' := by
  unfold X12_flips_J86 at h
  refine wp_iadd dX12_flips_86 ?_
  refine wp_istore_n dX12_flips_87 (Nat.le_of_ble_eq_true rfl) ?_
  refine wp_iinc (v := x4 + 1) dX12_flips_88 rfl rfl ?_
  refine wp_goto (tgt := 45) dX12_flips_91 (by decide) ?_
  cases h
  exact wp_ls (lsS (lsS (lsS (lsS (lsS (lsN lsZ)))))) (hc (s0 + s1, x4 + 1, M) rfl)

theorem X12_flips_B45_ok {w : Gw} {d : Nat} {x0 : Nat} {x1 : Int32} {x2 : Int32} {q : Int32 × Int32 × Gm} {o : Go} {M' : Gm} {out : (Int32 × Int32 × Gm) ⊕ (Int32 × Gm)} (h : X12_flips_B45 x0 x1 x2 q = some out) (hc : ∀ t : Int32 × Int32 × Gm, out = .inl t → Wp w mdX12_flips (d + 5) 45 [some (.inr x0), some (.inl x1), some (.inl x2), some (.inl t.1), some (.inl t.2.1), none] [] t.2.2 o M') (he0 : ∀ t : Int32 × Gm, out = .inr t → Wp w mdX12_flips (d + 5) 94 [some (.inr x0), none, none, some (.inl t.1), none, none] [] t.2 o M') : Wp w mdX12_flips (d + 5) 45 [some (.inr x0), some (.inl x1), some (.inl x2), some (.inl q.1), some (.inl q.2.1), none] [] q.2.2 o M' := by
  unfold X12_flips_B45 at h
  refine wp_iload dX12_flips_45 rfl ?_
  refine wp_iload_n dX12_flips_47 rfl ?_
  refine wp_icmp_ge (tgt := 94) dX12_flips_48 (by decide) (fun hc_ => ?_) (fun hc_ => ?_)
  · replace h := ite_t hc_ h
    cases h
    exact wp_ls (lsS (lsN (lsN (lsS (lsN (lsN lsZ)))))) (he0 (q.1, q.2.2) rfl)
  · replace h := ite_f hc_ h
    refine wp_aload_n dX12_flips_51 rfl ?_
    obtain ⟨v1, e2, h⟩ := bnd h
    refine wp_getR (c := 12) (k := 5) dX12_flips_52 e2 (by decide) (by decide) rfl fl_RX12_58 ?_
    refine wp_bipush (v := 50) dX12_flips_55 (by decide) ?_
    refine wp_iload_n dX12_flips_57 rfl ?_
    refine wp_iadd dX12_flips_58 ?_
    obtain ⟨v3, e4, h⟩ := bnd h
    refine wp_iaload dX12_flips_59 e4 ?_
    refine wp_istore dX12_flips_60 (Nat.le_of_ble_eq_true rfl) ?_
    refine wp_aload_n dX12_flips_62 rfl ?_
    obtain ⟨q5, e6, h⟩ := bnd h
    refine wp_callV (As := []) dX12_flips_63 (sh_X12_minute_ok (d := d) e6) okX12_minute nnX12_minute vvX12_minute ml_RX12_351 rfl (Nat.le_of_ble_eq_true rfl) ?_
    refine wp_iload_n dX12_flips_66 rfl ?_
    refine wp_iload dX12_flips_67 rfl ?_
    refine wp_aload_n dX12_flips_69 rfl ?_
    obtain ⟨v7, e8, h⟩ := bnd h
    refine wp_getR (c := 12) (k := 5) dX12_flips_70 e8 (by decide) (by decide) rfl fl_RX12_58 ?_
    refine wp_bipush (v := 50) dX12_flips_73 (by decide) ?_
    refine wp_iload_n dX12_flips_75 rfl ?_
    refine wp_iadd dX12_flips_76 ?_
    obtain ⟨v9, e10, h⟩ := bnd h
    refine wp_iaload dX12_flips_77 e10 ?_
    refine wp_icmp_eq (tgt := 85) dX12_flips_78 (by decide) (fun hc_ => ?_) (fun hc_ => ?_)
    · replace h := ite_t hc_ h
      refine wp_iconst (v := 0) dX12_flips_85 (by decide) ?_
      exact wp_ls (lsS (lsS (lsS (lsN (lsS (lsN lsZ)))))) (X12_flips_J86_ok h hc he0)
    · replace h := ite_f hc_ h
      refine wp_iconst (v := 1) dX12_flips_81 (by decide) ?_
      refine wp_goto (tgt := 86) dX12_flips_82 (by decide) ?_
      exact wp_ls (lsS (lsS (lsS (lsN (lsS (lsN lsZ)))))) (X12_flips_J86_ok h hc he0)

theorem X12_flips_B45_lp {w : Gw} {d : Nat} {x0 : Nat} {x1 : Int32} {x2 : Int32} {o : Go} {M' : Gm} {r : (Int32 × Gm)} : ∀ (n : Nat) (q : Int32 × Int32 × Gm), lp (X12_flips_B45 x0 x1 x2) n q = some r → (∀ t : Int32 × Gm, r = t → Wp w mdX12_flips (d + 5) 94 [some (.inr x0), none, none, some (.inl t.1), none, none] [] t.2 o M') → Wp w mdX12_flips (d + 5) 45 [some (.inr x0), some (.inl x1), some (.inl x2), some (.inl q.1), some (.inl q.2.1), none] [] q.2.2 o M' := by
  intro n
  induction n with
  | zero => intro q h; cases h
  | succ n ih =>
    intro q h he0
    cases hb : X12_flips_B45 x0 x1 x2 q with
    | none => rw [lp_succ, hb] at h; cases h
    | some out =>
      rw [lp_succ, hb] at h
      exact X12_flips_B45_ok hb (fun t e => ih t (by rw [e] at h; exact h) he0) (fun t e => he0 t (by rw [e] at h; cases h; rfl))
theorem X12_flips_F_ok {w : Gw} {d : Nat} {x0 : Nat} {x1 : Int32} {x2 : Int32} {M : Gm} {out : Int32 × Gm} (h : X12_flips_F x0 x1 x2 M = some out) : Wp w mdX12_flips (d + 5) 0 [some (.inr x0), some (.inl x1), some (.inl x2), none, none, none] [] M (.inl (some (.inl out.1))) out.2 := by
  unfold X12_flips_F at h
  refine wp_aload_n dX12_flips_0 rfl ?_
  refine wp_iconst (v := 0) dX12_flips_1 (by decide) ?_
  obtain ⟨M1, e2, h⟩ := bnd h
  refine wp_putI (c := 12) (k := 4) dX12_flips_2 e2 (by decide) (by decide) rfl fl_RX12_131 (Or.inl rfl) ?_
  refine wp_aload_n dX12_flips_5 rfl ?_
  refine wp_iload_n dX12_flips_6 rfl ?_
  obtain ⟨q3, e4, h⟩ := bnd h
  refine wp_callV (As := [.inl x1]) dX12_flips_7 (sh_X12_isTrip_ok (d := d + 3) e4) okX12_isTrip nnX12_isTrip vvX12_isTrip ml_RX12_388 rfl (Nat.le_of_ble_eq_true rfl) ?_
  refine wp_if_ne (tgt := 19) dX12_flips_10 (by decide) (fun hc_ => ?_) (fun hc_ => ?_)
  · replace h := ite_f hc_ h
    refine wp_iload_n dX12_flips_19 rfl ?_
    refine wp_iconst (v := 1) dX12_flips_20 (by decide) ?_
    refine wp_sipush (v := 200) dX12_flips_21 (by decide) ?_
    obtain ⟨q5, e6, h⟩ := bnd h
    refine wp_callS (As := [.inl x2, .inl 1, .inl 200]) dX12_flips_24 (sh_X12_isIn_ok (d := d + 4) e6) okX12_isIn nnX12_isIn ssX12_isIn ml_RX12_378 rfl (Nat.le_of_ble_eq_true rfl) ?_
    refine wp_if_ne (tgt := 36) dX12_flips_27 (by decide) (fun hc_ => ?_) (fun hc_ => ?_)
    · replace h := ite_f hc_ h
      refine wp_aload_n dX12_flips_36 rfl ?_
      obtain ⟨q7, e8, h⟩ := bnd h
      refine wp_callV (As := []) dX12_flips_37 (sh_X12_tries_ok (d := d + 3) e8) okX12_tries nnX12_tries vvX12_tries ml_RX12_342 rfl (Nat.le_of_ble_eq_true rfl) ?_
      refine wp_iconst (v := 0) dX12_flips_40 (by decide) ?_
      refine wp_istore_n dX12_flips_41 (Nat.le_of_ble_eq_true rfl) ?_
      refine wp_iconst (v := 0) dX12_flips_42 (by decide) ?_
      refine wp_istore dX12_flips_43 (Nat.le_of_ble_eq_true rfl) ?_
      obtain ⟨r9, e10, h⟩ := bnd h
      refine wp_ls (lsS (lsS (lsS (lsS (lsS (lsN lsZ)))))) (X12_flips_B45_lp FU _ e10 ?_)
      intro t_ ht_; cases ht_
      refine wp_aload_n dX12_flips_94 rfl ?_
      obtain ⟨q11, e12, h⟩ := bnd h
      refine wp_callV (As := []) dX12_flips_95 (sh_X12_laysBack_ok (d := d + 3) e12) okX12_laysBack nnX12_laysBack vvX12_laysBack ml_RX12_359 rfl (Nat.le_of_ble_eq_true rfl) ?_
      refine wp_iload_n dX12_flips_98 rfl ?_
      cases h
      exact wp_iret dX12_flips_99 rfl
    · replace h := ite_t hc_ h
      refine wp_aload_n dX12_flips_30 rfl ?_
      refine wp_iconst (v := 2) dX12_flips_31 (by decide) ?_
      obtain ⟨q13, e14, h⟩ := bnd h
      refine wp_callV (As := [.inl 2]) dX12_flips_32 (sh_X12_fail_ok (d := d + 4) e14) okX12_fail nnX12_fail vvX12_fail ml_RX12_245 rfl (Nat.le_of_ble_eq_true rfl) ?_
      cases h
      exact wp_iret dX12_flips_35 rfl
  · replace h := ite_t hc_ h
    refine wp_aload_n dX12_flips_13 rfl ?_
    refine wp_iconst (v := 1) dX12_flips_14 (by decide) ?_
    obtain ⟨q15, e16, h⟩ := bnd h
    refine wp_callV (As := [.inl 1]) dX12_flips_15 (sh_X12_fail_ok (d := d + 4) e16) okX12_fail nnX12_fail vvX12_fail ml_RX12_245 rfl (Nat.le_of_ble_eq_true rfl) ?_
    cases h
    exact wp_iret dX12_flips_18 rfl

theorem sh_X12_flips_ok {w : Gw} {d : Nat} {x0 : Nat} {x1 : Int32} {x2 : Int32} {M : Gm} {out : Int32 × Gm} (h : sh_X12_flips x0 x1 x2 M = some out) : Ev w mdX12_flips (d + 5) [.inr x0, .inl x1, .inl x2] M (.inl (some (.inl out.1))) out.2 := by
  obtain ⟨u, e0, h⟩ := bnd h
  exact ev_of okX12_flips ⟨_, _, rfl, isO_of e0 (by decide), by decide⟩ (Nat.le_of_ble_eq_true rfl) (X12_flips_F_ok h)

/-! HeatGovernorModel.keep()V -/
def X12_keep_B56 (x0 : Nat) (q : Int32 × Gm) : Option ((Int32 × Gm) ⊕ Gm) :=
  if 305 ≤ q.1 then
    some (.inr q.2)
  else
    (gfR q.2 x0 12 27).bind fun v1 =>
    (gfI q.2 x0 12 26).bind fun v3 =>
    (gfR q.2 x0 12 5).bind fun v5 =>
    (ldA q.2 0 v5 q.1).bind fun v7 =>
    (stA q.2 0 v1 ((305 * v3) + q.1) v7).bind fun M9 =>
    some (.inl (q.1 + 1, M9))
def X12_keep_J54 (x0 : Nat) (M : Gm) : Option (Gm) :=
  (lp (X12_keep_B56 x0) FU (0, M)).bind fun r1 =>
  (gfI r1 x0 12 26).bind fun v3 =>
  (pfI r1 x0 12 26 (v3 + 1)).bind fun M5 =>
  some M5
def X12_keep_B13 (x0 : Nat) (q : Int32 × Gm) : Option ((Int32 × Gm) ⊕ Gm) :=
  (gfR q.2 x0 12 27).bind fun v1 =>
  (alen q.2 v1).bind fun v3 =>
  if v3 ≤ q.1 then
    some (.inr q.2)
  else
    (gfR q.2 x0 12 27).bind fun v5 =>
    (gfR q.2 x0 12 27).bind fun v7 =>
    (ldA q.2 0 v7 q.1).bind fun v9 =>
    (stA q.2 0 v5 (q.1 - 305) v9).bind fun M11 =>
    some (.inl (q.1 + 1, M11))
def X12_keep_F (x0 : Nat) (M : Gm) : Option (Gm) :=
  (gfI M x0 12 26).bind fun v1 =>
  if v1 = 40 then
    (lp (X12_keep_B13 x0) FU (305, M)).bind fun r3 =>
    (gfI r3 x0 12 26).bind fun v5 =>
    (pfI r3 x0 12 26 (v5 - 1)).bind fun M7 =>
    X12_keep_J54 x0 M7
  else
    X12_keep_J54 x0 M
def sh_X12_keep (x0 : Nat) (M : Gm) : Option (Gm) := (isO M x0 12).bind fun _ => X12_keep_F x0 M
theorem X12_keep_B56_ok {w : Gw} {d : Nat} {x0 : Nat} {q : Int32 × Gm} {o : Go} {M' : Gm} {out : (Int32 × Gm) ⊕ Gm} (h : X12_keep_B56 x0 q = some out) (hc : ∀ t : Int32 × Gm, out = .inl t → Wp w mdX12_keep d 56 [some (.inr x0), some (.inl t.1)] [] t.2 o M') (he0 : ∀ t : Gm, out = .inr t → Wp w mdX12_keep d 90 [some (.inr x0), none] [] t o M') : Wp w mdX12_keep d 56 [some (.inr x0), some (.inl q.1)] [] q.2 o M' := by
  unfold X12_keep_B56 at h
  refine wp_iload_n dX12_keep_56 rfl ?_
  refine wp_sipush (v := 305) dX12_keep_57 (by decide) ?_
  refine wp_icmp_ge (tgt := 90) dX12_keep_60 (by decide) (fun hc_ => ?_) (fun hc_ => ?_)
  · replace h := ite_t hc_ h
    cases h
    exact wp_ls (lsS (lsN lsZ)) (he0 q.2 rfl)
  · replace h := ite_f hc_ h
    refine wp_aload_n dX12_keep_63 rfl ?_
    obtain ⟨v1, e2, h⟩ := bnd h
    refine wp_getR (c := 12) (k := 27) dX12_keep_64 e2 (by decide) (by decide) rfl fl_RX12_91 ?_
    refine wp_sipush (v := 305) dX12_keep_67 (by decide) ?_
    refine wp_aload_n dX12_keep_70 rfl ?_
    obtain ⟨v3, e4, h⟩ := bnd h
    refine wp_getI (c := 12) (k := 26) dX12_keep_71 e4 (by decide) (by decide) rfl fl_RX12_254 ?_
    refine wp_imul dX12_keep_74 ?_
    refine wp_iload_n dX12_keep_75 rfl ?_
    refine wp_iadd dX12_keep_76 ?_
    refine wp_aload_n dX12_keep_77 rfl ?_
    obtain ⟨v5, e6, h⟩ := bnd h
    refine wp_getR (c := 12) (k := 5) dX12_keep_78 e6 (by decide) (by decide) rfl fl_RX12_58 ?_
    refine wp_iload_n dX12_keep_81 rfl ?_
    obtain ⟨v7, e8, h⟩ := bnd h
    refine wp_iaload dX12_keep_82 e8 ?_
    obtain ⟨M9, e10, h⟩ := bnd h
    refine wp_iastore dX12_keep_83 e10 ?_
    refine wp_iinc (v := q.1 + 1) dX12_keep_84 rfl rfl ?_
    refine wp_goto (tgt := 56) dX12_keep_87 (by decide) ?_
    cases h
    exact wp_ls (lsS (lsS lsZ)) (hc (q.1 + 1, M9) rfl)

theorem X12_keep_B56_lp {w : Gw} {d : Nat} {x0 : Nat} {o : Go} {M' : Gm} {r : Gm} : ∀ (n : Nat) (q : Int32 × Gm), lp (X12_keep_B56 x0) n q = some r → (∀ t : Gm, r = t → Wp w mdX12_keep d 90 [some (.inr x0), none] [] t o M') → Wp w mdX12_keep d 56 [some (.inr x0), some (.inl q.1)] [] q.2 o M' := by
  intro n
  induction n with
  | zero => intro q h; cases h
  | succ n ih =>
    intro q h he0
    cases hb : X12_keep_B56 x0 q with
    | none => rw [lp_succ, hb] at h; cases h
    | some out =>
      rw [lp_succ, hb] at h
      exact X12_keep_B56_ok hb (fun t e => ih t (by rw [e] at h; exact h) he0) (fun t e => he0 t (by rw [e] at h; cases h; rfl))
theorem X12_keep_J54_ok {w : Gw} {d : Nat} {x0 : Nat} {M : Gm} {out : Gm} (h : X12_keep_J54 x0 M = some out) : Wp w mdX12_keep d 54 [some (.inr x0), none] [] M (.inl none) out := by
  unfold X12_keep_J54 at h
  refine wp_iconst (v := 0) dX12_keep_54 (by decide) ?_
  refine wp_istore_n dX12_keep_55 (Nat.le_of_ble_eq_true rfl) ?_
  obtain ⟨r1, e2, h⟩ := bnd h
  refine wp_ls (lsS (lsS lsZ)) (X12_keep_B56_lp FU _ e2 ?_)
  intro t_ ht_; cases ht_
  refine wp_aload_n dX12_keep_90 rfl ?_
  refine wp_dup dX12_keep_91 ?_
  obtain ⟨v3, e4, h⟩ := bnd h
  refine wp_getI (c := 12) (k := 26) dX12_keep_92 e4 (by decide) (by decide) rfl fl_RX12_254 ?_
  refine wp_iconst (v := 1) dX12_keep_95 (by decide) ?_
  refine wp_iadd dX12_keep_96 ?_
  obtain ⟨M5, e6, h⟩ := bnd h
  refine wp_putI (c := 12) (k := 26) dX12_keep_97 e6 (by decide) (by decide) rfl fl_RX12_254 (Or.inl rfl) ?_
  cases h
  exact wp_ret dX12_keep_100 rfl

theorem X12_keep_B13_ok {w : Gw} {d : Nat} {x0 : Nat} {q : Int32 × Gm} {o : Go} {M' : Gm} {out : (Int32 × Gm) ⊕ Gm} (h : X12_keep_B13 x0 q = some out) (hc : ∀ t : Int32 × Gm, out = .inl t → Wp w mdX12_keep d 13 [some (.inr x0), some (.inl t.1)] [] t.2 o M') (he0 : ∀ t : Gm, out = .inr t → Wp w mdX12_keep d 44 [some (.inr x0), none] [] t o M') : Wp w mdX12_keep d 13 [some (.inr x0), some (.inl q.1)] [] q.2 o M' := by
  unfold X12_keep_B13 at h
  refine wp_iload_n dX12_keep_13 rfl ?_
  refine wp_aload_n dX12_keep_14 rfl ?_
  obtain ⟨v1, e2, h⟩ := bnd h
  refine wp_getR (c := 12) (k := 27) dX12_keep_15 e2 (by decide) (by decide) rfl fl_RX12_91 ?_
  obtain ⟨v3, e4, h⟩ := bnd h
  refine wp_alen dX12_keep_18 e4 ?_
  refine wp_icmp_ge (tgt := 44) dX12_keep_19 (by decide) (fun hc_ => ?_) (fun hc_ => ?_)
  · replace h := ite_t hc_ h
    cases h
    exact wp_ls (lsS (lsN lsZ)) (he0 q.2 rfl)
  · replace h := ite_f hc_ h
    refine wp_aload_n dX12_keep_22 rfl ?_
    obtain ⟨v5, e6, h⟩ := bnd h
    refine wp_getR (c := 12) (k := 27) dX12_keep_23 e6 (by decide) (by decide) rfl fl_RX12_91 ?_
    refine wp_iload_n dX12_keep_26 rfl ?_
    refine wp_sipush (v := 305) dX12_keep_27 (by decide) ?_
    refine wp_isub dX12_keep_30 ?_
    refine wp_aload_n dX12_keep_31 rfl ?_
    obtain ⟨v7, e8, h⟩ := bnd h
    refine wp_getR (c := 12) (k := 27) dX12_keep_32 e8 (by decide) (by decide) rfl fl_RX12_91 ?_
    refine wp_iload_n dX12_keep_35 rfl ?_
    obtain ⟨v9, e10, h⟩ := bnd h
    refine wp_iaload dX12_keep_36 e10 ?_
    obtain ⟨M11, e12, h⟩ := bnd h
    refine wp_iastore dX12_keep_37 e12 ?_
    refine wp_iinc (v := q.1 + 1) dX12_keep_38 rfl rfl ?_
    refine wp_goto (tgt := 13) dX12_keep_41 (by decide) ?_
    cases h
    exact wp_ls (lsS (lsS lsZ)) (hc (q.1 + 1, M11) rfl)

theorem X12_keep_B13_lp {w : Gw} {d : Nat} {x0 : Nat} {o : Go} {M' : Gm} {r : Gm} : ∀ (n : Nat) (q : Int32 × Gm), lp (X12_keep_B13 x0) n q = some r → (∀ t : Gm, r = t → Wp w mdX12_keep d 44 [some (.inr x0), none] [] t o M') → Wp w mdX12_keep d 13 [some (.inr x0), some (.inl q.1)] [] q.2 o M' := by
  intro n
  induction n with
  | zero => intro q h; cases h
  | succ n ih =>
    intro q h he0
    cases hb : X12_keep_B13 x0 q with
    | none => rw [lp_succ, hb] at h; cases h
    | some out =>
      rw [lp_succ, hb] at h
      exact X12_keep_B13_ok hb (fun t e => ih t (by rw [e] at h; exact h) he0) (fun t e => he0 t (by rw [e] at h; cases h; rfl))
theorem X12_keep_F_ok {w : Gw} {d : Nat} {x0 : Nat} {M : Gm} {out : Gm} (h : X12_keep_F x0 M = some out) : Wp w mdX12_keep d 0 [some (.inr x0), none] [] M (.inl none) out := by
  unfold X12_keep_F at h
  refine wp_aload_n dX12_keep_0 rfl ?_
  obtain ⟨v1, e2, h⟩ := bnd h
  refine wp_getI (c := 12) (k := 26) dX12_keep_1 e2 (by decide) (by decide) rfl fl_RX12_254 ?_
  refine wp_bipush (v := 40) dX12_keep_4 (by decide) ?_
  refine wp_icmp_ne (tgt := 54) dX12_keep_6 (by decide) (fun hc_ => ?_) (fun hc_ => ?_)
  · replace h := ite_f hc_ h
    exact wp_ls (lsS (lsN lsZ)) (X12_keep_J54_ok h)
  · replace h := ite_t hc_ h
    refine wp_sipush (v := 305) dX12_keep_9 (by decide) ?_
    refine wp_istore_n dX12_keep_12 (Nat.le_of_ble_eq_true rfl) ?_
    obtain ⟨r3, e4, h⟩ := bnd h
    refine wp_ls (lsS (lsS lsZ)) (X12_keep_B13_lp FU _ e4 ?_)
    intro t_ ht_; cases ht_
    refine wp_aload_n dX12_keep_44 rfl ?_
    refine wp_dup dX12_keep_45 ?_
    obtain ⟨v5, e6, h⟩ := bnd h
    refine wp_getI (c := 12) (k := 26) dX12_keep_46 e6 (by decide) (by decide) rfl fl_RX12_254 ?_
    refine wp_iconst (v := 1) dX12_keep_49 (by decide) ?_
    refine wp_isub dX12_keep_50 ?_
    obtain ⟨M7, e8, h⟩ := bnd h
    refine wp_putI (c := 12) (k := 26) dX12_keep_51 e8 (by decide) (by decide) rfl fl_RX12_254 (Or.inl rfl) ?_
    exact wp_ls (lsS (lsN lsZ)) (X12_keep_J54_ok h)

theorem sh_X12_keep_ok {w : Gw} {d : Nat} {x0 : Nat} {M : Gm} {out : Gm} (h : sh_X12_keep x0 M = some out) : Ev w mdX12_keep d [.inr x0] M (.inl none) out := by
  obtain ⟨u, e0, h⟩ := bnd h
  exact ev_of okX12_keep ⟨_, _, rfl, isO_of e0 (by decide), by decide⟩ (Nat.le_of_ble_eq_true rfl) (X12_keep_F_ok h)

/-! HeatGovernorModel.refuse(I)I -/
def X12_refuse_F (x0 : Nat) (x1 : Int32) (M : Gm) : Option (Int32 × Gm) :=
  (gfR M x0 12 9).bind fun v1 =>
  (ldA M 0 v1 x1).bind fun v3 =>
  (stA M 0 v1 x1 (v3 + 1)).bind fun M5 =>
  some ((-1), M5)
def sh_X12_refuse (x0 : Nat) (x1 : Int32) (M : Gm) : Option (Int32 × Gm) := (isO M x0 12).bind fun _ => X12_refuse_F x0 x1 M
theorem X12_refuse_F_ok {w : Gw} {d : Nat} {x0 : Nat} {x1 : Int32} {M : Gm} {out : Int32 × Gm} (h : X12_refuse_F x0 x1 M = some out) : Wp w mdX12_refuse d 0 [some (.inr x0), some (.inl x1)] [] M (.inl (some (.inl out.1))) out.2 := by
  unfold X12_refuse_F at h
  refine wp_aload_n dX12_refuse_0 rfl ?_
  obtain ⟨v1, e2, h⟩ := bnd h
  refine wp_getR (c := 12) (k := 9) dX12_refuse_1 e2 (by decide) (by decide) rfl fl_RX12_71 ?_
  refine wp_iload_n dX12_refuse_4 rfl ?_
  refine wp_dup2 dX12_refuse_5 ?_
  obtain ⟨v3, e4, h⟩ := bnd h
  refine wp_iaload dX12_refuse_6 e4 ?_
  refine wp_iconst (v := 1) dX12_refuse_7 (by decide) ?_
  refine wp_iadd dX12_refuse_8 ?_
  obtain ⟨M5, e6, h⟩ := bnd h
  refine wp_iastore dX12_refuse_9 e6 ?_
  refine wp_iconst (v := (-1)) dX12_refuse_10 (by decide) ?_
  cases h
  exact wp_iret dX12_refuse_11 rfl

theorem sh_X12_refuse_ok {w : Gw} {d : Nat} {x0 : Nat} {x1 : Int32} {M : Gm} {out : Int32 × Gm} (h : sh_X12_refuse x0 x1 M = some out) : Ev w mdX12_refuse d [.inr x0, .inl x1] M (.inl (some (.inl out.1))) out.2 := by
  obtain ⟨u, e0, h⟩ := bnd h
  exact ev_of okX12_refuse ⟨_, _, rfl, isO_of e0 (by decide), by decide⟩ (Nat.le_of_ble_eq_true rfl) (X12_refuse_F_ok h)

/-! HeatGovernorModel.minutes(I)I -/
def X12_minutes_B27 (x0 : Nat) (x1 : Int32) (q : Int32 × Gm) : Option ((Int32 × Gm) ⊕ Gm) :=
  if x1 ≤ q.1 then
    some (.inr q.2)
  else
    (sh_X12_minute x0 q.2).bind fun q1 =>
    some (.inl (q.1 + 1, q1))
def X12_minutes_F (x0 : Nat) (x1 : Int32) (M : Gm) : Option (Int32 × Gm) :=
  (pfI M x0 12 4 0).bind fun M1 =>
  (sh_X12_isIn x1 1 60 M1).bind fun q3 =>
  if q3 = 0 then
    (sh_X12_refuse x0 1 M1).bind fun q13 =>
    some (q13.1, q13.2)
  else
    (sh_X12_keep x0 M1).bind fun q5 =>
    (lp (X12_minutes_B27 x0 x1) FU (0, q5)).bind fun r7 =>
    (gfR r7 x0 12 5).bind fun v9 =>
    (ldA r7 0 v9 142).bind fun v11 =>
    some (v11, r7)
def sh_X12_minutes (x0 : Nat) (x1 : Int32) (M : Gm) : Option (Int32 × Gm) := (isO M x0 12).bind fun _ => X12_minutes_F x0 x1 M
theorem X12_minutes_B27_ok {w : Gw} {d : Nat} {x0 : Nat} {x1 : Int32} {q : Int32 × Gm} {o : Go} {M' : Gm} {out : (Int32 × Gm) ⊕ Gm} (h : X12_minutes_B27 x0 x1 q = some out) (hc : ∀ t : Int32 × Gm, out = .inl t → Wp w mdX12_minutes (d + 5) 27 [some (.inr x0), some (.inl x1), some (.inl t.1)] [] t.2 o M') (he0 : ∀ t : Gm, out = .inr t → Wp w mdX12_minutes (d + 5) 42 [some (.inr x0), none, none] [] t o M') : Wp w mdX12_minutes (d + 5) 27 [some (.inr x0), some (.inl x1), some (.inl q.1)] [] q.2 o M' := by
  unfold X12_minutes_B27 at h
  refine wp_iload_n dX12_minutes_27 rfl ?_
  refine wp_iload_n dX12_minutes_28 rfl ?_
  refine wp_icmp_ge (tgt := 42) dX12_minutes_29 (by decide) (fun hc_ => ?_) (fun hc_ => ?_)
  · replace h := ite_t hc_ h
    cases h
    exact wp_ls (lsS (lsN (lsN lsZ))) (he0 q.2 rfl)
  · replace h := ite_f hc_ h
    refine wp_aload_n dX12_minutes_32 rfl ?_
    obtain ⟨q1, e2, h⟩ := bnd h
    refine wp_callV (As := []) dX12_minutes_33 (sh_X12_minute_ok (d := d) e2) okX12_minute nnX12_minute vvX12_minute ml_RX12_351 rfl (Nat.le_of_ble_eq_true rfl) ?_
    refine wp_iinc (v := q.1 + 1) dX12_minutes_36 rfl rfl ?_
    refine wp_goto (tgt := 27) dX12_minutes_39 (by decide) ?_
    cases h
    exact wp_ls (lsS (lsS (lsS lsZ))) (hc (q.1 + 1, q1) rfl)

theorem X12_minutes_B27_lp {w : Gw} {d : Nat} {x0 : Nat} {x1 : Int32} {o : Go} {M' : Gm} {r : Gm} : ∀ (n : Nat) (q : Int32 × Gm), lp (X12_minutes_B27 x0 x1) n q = some r → (∀ t : Gm, r = t → Wp w mdX12_minutes (d + 5) 42 [some (.inr x0), none, none] [] t o M') → Wp w mdX12_minutes (d + 5) 27 [some (.inr x0), some (.inl x1), some (.inl q.1)] [] q.2 o M' := by
  intro n
  induction n with
  | zero => intro q h; cases h
  | succ n ih =>
    intro q h he0
    cases hb : X12_minutes_B27 x0 x1 q with
    | none => rw [lp_succ, hb] at h; cases h
    | some out =>
      rw [lp_succ, hb] at h
      exact X12_minutes_B27_ok hb (fun t e => ih t (by rw [e] at h; exact h) he0) (fun t e => he0 t (by rw [e] at h; cases h; rfl))
theorem X12_minutes_F_ok {w : Gw} {d : Nat} {x0 : Nat} {x1 : Int32} {M : Gm} {out : Int32 × Gm} (h : X12_minutes_F x0 x1 M = some out) : Wp w mdX12_minutes (d + 5) 0 [some (.inr x0), some (.inl x1), none] [] M (.inl (some (.inl out.1))) out.2 := by
  unfold X12_minutes_F at h
  refine wp_aload_n dX12_minutes_0 rfl ?_
  refine wp_iconst (v := 0) dX12_minutes_1 (by decide) ?_
  obtain ⟨M1, e2, h⟩ := bnd h
  refine wp_putI (c := 12) (k := 4) dX12_minutes_2 e2 (by decide) (by decide) rfl fl_RX12_131 (Or.inl rfl) ?_
  refine wp_iload_n dX12_minutes_5 rfl ?_
  refine wp_iconst (v := 1) dX12_minutes_6 (by decide) ?_
  refine wp_bipush (v := 60) dX12_minutes_7 (by decide) ?_
  obtain ⟨q3, e4, h⟩ := bnd h
  refine wp_callS (As := [.inl x1, .inl 1, .inl 60]) dX12_minutes_9 (sh_X12_isIn_ok (d := d + 4) e4) okX12_isIn nnX12_isIn ssX12_isIn ml_RX12_378 rfl (Nat.le_of_ble_eq_true rfl) ?_
  refine wp_if_ne (tgt := 21) dX12_minutes_12 (by decide) (fun hc_ => ?_) (fun hc_ => ?_)
  · replace h := ite_f hc_ h
    refine wp_aload_n dX12_minutes_21 rfl ?_
    obtain ⟨q5, e6, h⟩ := bnd h
    refine wp_callV (As := []) dX12_minutes_22 (sh_X12_keep_ok (d := d + 4) e6) okX12_keep nnX12_keep vvX12_keep ml_RX12_406 rfl (Nat.le_of_ble_eq_true rfl) ?_
    refine wp_iconst (v := 0) dX12_minutes_25 (by decide) ?_
    refine wp_istore_n dX12_minutes_26 (Nat.le_of_ble_eq_true rfl) ?_
    obtain ⟨r7, e8, h⟩ := bnd h
    refine wp_ls (lsS (lsS (lsS lsZ))) (X12_minutes_B27_lp FU _ e8 ?_)
    intro t_ ht_; cases ht_
    refine wp_aload_n dX12_minutes_42 rfl ?_
    obtain ⟨v9, e10, h⟩ := bnd h
    refine wp_getR (c := 12) (k := 5) dX12_minutes_43 e10 (by decide) (by decide) rfl fl_RX12_58 ?_
    refine wp_sipush (v := 142) dX12_minutes_46 (by decide) ?_
    obtain ⟨v11, e12, h⟩ := bnd h
    refine wp_iaload dX12_minutes_49 e12 ?_
    cases h
    exact wp_iret dX12_minutes_50 rfl
  · replace h := ite_t hc_ h
    refine wp_aload_n dX12_minutes_15 rfl ?_
    refine wp_iconst (v := 1) dX12_minutes_16 (by decide) ?_
    obtain ⟨q13, e14, h⟩ := bnd h
    refine wp_callV (As := [.inl 1]) dX12_minutes_17 (sh_X12_refuse_ok (d := d + 4) e14) okX12_refuse nnX12_refuse vvX12_refuse ml_RX12_403 rfl (Nat.le_of_ble_eq_true rfl) ?_
    cases h
    exact wp_iret dX12_minutes_20 rfl

theorem sh_X12_minutes_ok {w : Gw} {d : Nat} {x0 : Nat} {x1 : Int32} {M : Gm} {out : Int32 × Gm} (h : sh_X12_minutes x0 x1 M = some out) : Ev w mdX12_minutes (d + 5) [.inr x0, .inl x1] M (.inl (some (.inl out.1))) out.2 := by
  obtain ⟨u, e0, h⟩ := bnd h
  exact ev_of okX12_minutes ⟨_, _, rfl, isO_of e0 (by decide), by decide⟩ (Nat.le_of_ble_eq_true rfl) (X12_minutes_F_ok h)

/-! HeatGovernorModel.load(II)I -/
def X12_load_J35 (x0 : Nat) (M : Gm) : Option (Int32 × Gm) :=
  (sh_X12_refuse x0 1 M).bind fun q1 =>
  some (q1.1, q1.2)
def X12_load_F (x0 : Nat) (x1 : Int32) (x2 : Int32) (M : Gm) : Option (Int32 × Gm) :=
  (pfI M x0 12 4 0).bind fun M1 =>
  (sh_X12_isZone x0 x1 M1).bind fun q3 =>
  if q3 = 0 then
    X12_load_J35 x0 M1
  else
    (sh_X12_isIn x2 0 99 M1).bind fun q5 =>
    if q5 = 0 then
      X12_load_J35 x0 M1
    else
      (gfR M1 x0 12 5).bind fun v7 =>
      (ldA M1 0 v7 (5 + x1)).bind fun v9 =>
      if v9 = x2 then
        X12_load_J35 x0 M1
      else
        (sh_X12_keep x0 M1).bind fun q11 =>
        (gfR q11 x0 12 5).bind fun v13 =>
        (ldA q11 0 v13 (5 + x1)).bind fun v15 =>
        (gfR q11 x0 12 5).bind fun v17 =>
        (stA q11 0 v17 (5 + x1) x2).bind fun M19 =>
        some (v15, M19)
def sh_X12_load (x0 : Nat) (x1 : Int32) (x2 : Int32) (M : Gm) : Option (Int32 × Gm) := (isO M x0 12).bind fun _ => X12_load_F x0 x1 x2 M
theorem X12_load_J35_ok {w : Gw} {d : Nat} {x0 : Nat} {M : Gm} {out : Int32 × Gm} (h : X12_load_J35 x0 M = some out) : Wp w mdX12_load (d + 2) 35 [some (.inr x0), none, none, none] [] M (.inl (some (.inl out.1))) out.2 := by
  unfold X12_load_J35 at h
  refine wp_aload_n dX12_load_35 rfl ?_
  refine wp_iconst (v := 1) dX12_load_36 (by decide) ?_
  obtain ⟨q1, e2, h⟩ := bnd h
  refine wp_callV (As := [.inl 1]) dX12_load_37 (sh_X12_refuse_ok (d := d + 1) e2) okX12_refuse nnX12_refuse vvX12_refuse ml_RX12_403 rfl (Nat.le_of_ble_eq_true rfl) ?_
  cases h
  exact wp_iret dX12_load_40 rfl

theorem X12_load_F_ok {w : Gw} {d : Nat} {x0 : Nat} {x1 : Int32} {x2 : Int32} {M : Gm} {out : Int32 × Gm} (h : X12_load_F x0 x1 x2 M = some out) : Wp w mdX12_load (d + 2) 0 [some (.inr x0), some (.inl x1), some (.inl x2), none] [] M (.inl (some (.inl out.1))) out.2 := by
  unfold X12_load_F at h
  refine wp_aload_n dX12_load_0 rfl ?_
  refine wp_iconst (v := 0) dX12_load_1 (by decide) ?_
  obtain ⟨M1, e2, h⟩ := bnd h
  refine wp_putI (c := 12) (k := 4) dX12_load_2 e2 (by decide) (by decide) rfl fl_RX12_131 (Or.inl rfl) ?_
  refine wp_aload_n dX12_load_5 rfl ?_
  refine wp_iload_n dX12_load_6 rfl ?_
  obtain ⟨q3, e4, h⟩ := bnd h
  refine wp_callV (As := [.inl x1]) dX12_load_7 (sh_X12_isZone_ok (d := d) e4) okX12_isZone nnX12_isZone vvX12_isZone ml_RX12_382 rfl (Nat.le_of_ble_eq_true rfl) ?_
  refine wp_if_eq (tgt := 35) dX12_load_10 (by decide) (fun hc_ => ?_) (fun hc_ => ?_)
  · replace h := ite_t hc_ h
    exact wp_ls (lsS (lsN (lsN (lsN lsZ)))) (X12_load_J35_ok h)
  · replace h := ite_f hc_ h
    refine wp_iload_n dX12_load_13 rfl ?_
    refine wp_iconst (v := 0) dX12_load_14 (by decide) ?_
    refine wp_bipush (v := 99) dX12_load_15 (by decide) ?_
    obtain ⟨q5, e6, h⟩ := bnd h
    refine wp_callS (As := [.inl x2, .inl 0, .inl 99]) dX12_load_17 (sh_X12_isIn_ok (d := d + 1) e6) okX12_isIn nnX12_isIn ssX12_isIn ml_RX12_378 rfl (Nat.le_of_ble_eq_true rfl) ?_
    refine wp_if_eq (tgt := 35) dX12_load_20 (by decide) (fun hc_ => ?_) (fun hc_ => ?_)
    · replace h := ite_t hc_ h
      exact wp_ls (lsS (lsN (lsN (lsN lsZ)))) (X12_load_J35_ok h)
    · replace h := ite_f hc_ h
      refine wp_aload_n dX12_load_23 rfl ?_
      obtain ⟨v7, e8, h⟩ := bnd h
      refine wp_getR (c := 12) (k := 5) dX12_load_24 e8 (by decide) (by decide) rfl fl_RX12_58 ?_
      refine wp_iconst (v := 5) dX12_load_27 (by decide) ?_
      refine wp_iload_n dX12_load_28 rfl ?_
      refine wp_iadd dX12_load_29 ?_
      obtain ⟨v9, e10, h⟩ := bnd h
      refine wp_iaload dX12_load_30 e10 ?_
      refine wp_iload_n dX12_load_31 rfl ?_
      refine wp_icmp_ne (tgt := 41) dX12_load_32 (by decide) (fun hc_ => ?_) (fun hc_ => ?_)
      · replace h := ite_f hc_ h
        refine wp_aload_n dX12_load_41 rfl ?_
        obtain ⟨q11, e12, h⟩ := bnd h
        refine wp_callV (As := []) dX12_load_42 (sh_X12_keep_ok (d := d + 1) e12) okX12_keep nnX12_keep vvX12_keep ml_RX12_406 rfl (Nat.le_of_ble_eq_true rfl) ?_
        refine wp_aload_n dX12_load_45 rfl ?_
        obtain ⟨v13, e14, h⟩ := bnd h
        refine wp_getR (c := 12) (k := 5) dX12_load_46 e14 (by decide) (by decide) rfl fl_RX12_58 ?_
        refine wp_iconst (v := 5) dX12_load_49 (by decide) ?_
        refine wp_iload_n dX12_load_50 rfl ?_
        refine wp_iadd dX12_load_51 ?_
        obtain ⟨v15, e16, h⟩ := bnd h
        refine wp_iaload dX12_load_52 e16 ?_
        refine wp_istore_n dX12_load_53 (Nat.le_of_ble_eq_true rfl) ?_
        refine wp_aload_n dX12_load_54 rfl ?_
        obtain ⟨v17, e18, h⟩ := bnd h
        refine wp_getR (c := 12) (k := 5) dX12_load_55 e18 (by decide) (by decide) rfl fl_RX12_58 ?_
        refine wp_iconst (v := 5) dX12_load_58 (by decide) ?_
        refine wp_iload_n dX12_load_59 rfl ?_
        refine wp_iadd dX12_load_60 ?_
        refine wp_iload_n dX12_load_61 rfl ?_
        obtain ⟨M19, e20, h⟩ := bnd h
        refine wp_iastore dX12_load_62 e20 ?_
        refine wp_iload_n dX12_load_63 rfl ?_
        cases h
        exact wp_iret dX12_load_64 rfl
      · replace h := ite_t hc_ h
        exact wp_ls (lsS (lsN (lsN (lsN lsZ)))) (X12_load_J35_ok h)

theorem sh_X12_load_ok {w : Gw} {d : Nat} {x0 : Nat} {x1 : Int32} {x2 : Int32} {M : Gm} {out : Int32 × Gm} (h : sh_X12_load x0 x1 x2 M = some out) : Ev w mdX12_load (d + 2) [.inr x0, .inl x1, .inl x2] M (.inl (some (.inl out.1))) out.2 := by
  obtain ⟨u, e0, h⟩ := bnd h
  exact ev_of okX12_load ⟨_, _, rfl, isO_of e0 (by decide), by decide⟩ (Nat.le_of_ble_eq_true rfl) (X12_load_F_ok h)

/-! HeatGovernorModel.hold(II)I -/
def X12_hold_J43 (x0 : Nat) (M : Gm) : Option (Int32 × Gm) :=
  (sh_X12_refuse x0 1 M).bind fun q1 =>
  some (q1.1 - 1, q1.2)
def X12_hold_F (x0 : Nat) (x1 : Int32) (x2 : Int32) (M : Gm) : Option (Int32 × Gm) :=
  (pfI M x0 12 4 0).bind fun M1 =>
  (sh_X12_isDevice x0 x1 M1).bind fun q3 =>
  if q3 = 0 then
    X12_hold_J43 x0 M1
  else
    (gfR M1 x0 12 6).bind fun v5 =>
    (ldA M1 0 v5 (67 + x1)).bind fun v7 =>
    (sh_X12_isIn x2 ((-1)) v7 M1).bind fun q9 =>
    if q9 = 0 then
      X12_hold_J43 x0 M1
    else
      (gfR M1 x0 12 5).bind fun v11 =>
      (ldA M1 0 v11 (76 + x1)).bind fun v13 =>
      if v13 = x2 then
        X12_hold_J43 x0 M1
      else
        (sh_X12_keep x0 M1).bind fun q15 =>
        (gfR q15 x0 12 5).bind fun v17 =>
        (ldA q15 0 v17 (76 + x1)).bind fun v19 =>
        (gfR q15 x0 12 5).bind fun v21 =>
        (stA q15 0 v21 (76 + x1) x2).bind fun M23 =>
        some (v19, M23)
def sh_X12_hold (x0 : Nat) (x1 : Int32) (x2 : Int32) (M : Gm) : Option (Int32 × Gm) := (isO M x0 12).bind fun _ => X12_hold_F x0 x1 x2 M
theorem X12_hold_J43_ok {w : Gw} {d : Nat} {x0 : Nat} {M : Gm} {out : Int32 × Gm} (h : X12_hold_J43 x0 M = some out) : Wp w mdX12_hold (d + 2) 43 [some (.inr x0), none, none, none] [] M (.inl (some (.inl out.1))) out.2 := by
  unfold X12_hold_J43 at h
  refine wp_aload_n dX12_hold_43 rfl ?_
  refine wp_iconst (v := 1) dX12_hold_44 (by decide) ?_
  obtain ⟨q1, e2, h⟩ := bnd h
  refine wp_callV (As := [.inl 1]) dX12_hold_45 (sh_X12_refuse_ok (d := d + 1) e2) okX12_refuse nnX12_refuse vvX12_refuse ml_RX12_403 rfl (Nat.le_of_ble_eq_true rfl) ?_
  refine wp_iconst (v := 1) dX12_hold_48 (by decide) ?_
  refine wp_isub dX12_hold_49 ?_
  cases h
  exact wp_iret dX12_hold_50 rfl

theorem X12_hold_F_ok {w : Gw} {d : Nat} {x0 : Nat} {x1 : Int32} {x2 : Int32} {M : Gm} {out : Int32 × Gm} (h : X12_hold_F x0 x1 x2 M = some out) : Wp w mdX12_hold (d + 2) 0 [some (.inr x0), some (.inl x1), some (.inl x2), none] [] M (.inl (some (.inl out.1))) out.2 := by
  unfold X12_hold_F at h
  refine wp_aload_n dX12_hold_0 rfl ?_
  refine wp_iconst (v := 0) dX12_hold_1 (by decide) ?_
  obtain ⟨M1, e2, h⟩ := bnd h
  refine wp_putI (c := 12) (k := 4) dX12_hold_2 e2 (by decide) (by decide) rfl fl_RX12_131 (Or.inl rfl) ?_
  refine wp_aload_n dX12_hold_5 rfl ?_
  refine wp_iload_n dX12_hold_6 rfl ?_
  obtain ⟨q3, e4, h⟩ := bnd h
  refine wp_callV (As := [.inl x1]) dX12_hold_7 (sh_X12_isDevice_ok (d := d) e4) okX12_isDevice nnX12_isDevice vvX12_isDevice ml_RX12_394 rfl (Nat.le_of_ble_eq_true rfl) ?_
  refine wp_if_eq (tgt := 43) dX12_hold_10 (by decide) (fun hc_ => ?_) (fun hc_ => ?_)
  · replace h := ite_t hc_ h
    exact wp_ls (lsS (lsN (lsN (lsN lsZ)))) (X12_hold_J43_ok h)
  · replace h := ite_f hc_ h
    refine wp_iload_n dX12_hold_13 rfl ?_
    refine wp_iconst (v := (-1)) dX12_hold_14 (by decide) ?_
    refine wp_aload_n dX12_hold_15 rfl ?_
    obtain ⟨v5, e6, h⟩ := bnd h
    refine wp_getR (c := 12) (k := 6) dX12_hold_16 e6 (by decide) (by decide) rfl fl_RX12_62 ?_
    refine wp_bipush (v := 67) dX12_hold_19 (by decide) ?_
    refine wp_iload_n dX12_hold_21 rfl ?_
    refine wp_iadd dX12_hold_22 ?_
    obtain ⟨v7, e8, h⟩ := bnd h
    refine wp_iaload dX12_hold_23 e8 ?_
    obtain ⟨q9, e10, h⟩ := bnd h
    refine wp_callS (As := [.inl x2, .inl ((-1)), .inl v7]) dX12_hold_24 (sh_X12_isIn_ok (d := d + 1) e10) okX12_isIn nnX12_isIn ssX12_isIn ml_RX12_378 rfl (Nat.le_of_ble_eq_true rfl) ?_
    refine wp_if_eq (tgt := 43) dX12_hold_27 (by decide) (fun hc_ => ?_) (fun hc_ => ?_)
    · replace h := ite_t hc_ h
      exact wp_ls (lsS (lsN (lsN (lsN lsZ)))) (X12_hold_J43_ok h)
    · replace h := ite_f hc_ h
      refine wp_aload_n dX12_hold_30 rfl ?_
      obtain ⟨v11, e12, h⟩ := bnd h
      refine wp_getR (c := 12) (k := 5) dX12_hold_31 e12 (by decide) (by decide) rfl fl_RX12_58 ?_
      refine wp_bipush (v := 76) dX12_hold_34 (by decide) ?_
      refine wp_iload_n dX12_hold_36 rfl ?_
      refine wp_iadd dX12_hold_37 ?_
      obtain ⟨v13, e14, h⟩ := bnd h
      refine wp_iaload dX12_hold_38 e14 ?_
      refine wp_iload_n dX12_hold_39 rfl ?_
      refine wp_icmp_ne (tgt := 51) dX12_hold_40 (by decide) (fun hc_ => ?_) (fun hc_ => ?_)
      · replace h := ite_f hc_ h
        refine wp_aload_n dX12_hold_51 rfl ?_
        obtain ⟨q15, e16, h⟩ := bnd h
        refine wp_callV (As := []) dX12_hold_52 (sh_X12_keep_ok (d := d + 1) e16) okX12_keep nnX12_keep vvX12_keep ml_RX12_406 rfl (Nat.le_of_ble_eq_true rfl) ?_
        refine wp_aload_n dX12_hold_55 rfl ?_
        obtain ⟨v17, e18, h⟩ := bnd h
        refine wp_getR (c := 12) (k := 5) dX12_hold_56 e18 (by decide) (by decide) rfl fl_RX12_58 ?_
        refine wp_bipush (v := 76) dX12_hold_59 (by decide) ?_
        refine wp_iload_n dX12_hold_61 rfl ?_
        refine wp_iadd dX12_hold_62 ?_
        obtain ⟨v19, e20, h⟩ := bnd h
        refine wp_iaload dX12_hold_63 e20 ?_
        refine wp_istore_n dX12_hold_64 (Nat.le_of_ble_eq_true rfl) ?_
        refine wp_aload_n dX12_hold_65 rfl ?_
        obtain ⟨v21, e22, h⟩ := bnd h
        refine wp_getR (c := 12) (k := 5) dX12_hold_66 e22 (by decide) (by decide) rfl fl_RX12_58 ?_
        refine wp_bipush (v := 76) dX12_hold_69 (by decide) ?_
        refine wp_iload_n dX12_hold_71 rfl ?_
        refine wp_iadd dX12_hold_72 ?_
        refine wp_iload_n dX12_hold_73 rfl ?_
        obtain ⟨M23, e24, h⟩ := bnd h
        refine wp_iastore dX12_hold_74 e24 ?_
        refine wp_iload_n dX12_hold_75 rfl ?_
        cases h
        exact wp_iret dX12_hold_76 rfl
      · replace h := ite_t hc_ h
        exact wp_ls (lsS (lsN (lsN (lsN lsZ)))) (X12_hold_J43_ok h)

theorem sh_X12_hold_ok {w : Gw} {d : Nat} {x0 : Nat} {x1 : Int32} {x2 : Int32} {M : Gm} {out : Int32 × Gm} (h : sh_X12_hold x0 x1 x2 M = some out) : Ev w mdX12_hold (d + 2) [.inr x0, .inl x1, .inl x2] M (.inl (some (.inl out.1))) out.2 := by
  obtain ⟨u, e0, h⟩ := bnd h
  exact ev_of okX12_hold ⟨_, _, rfl, isO_of e0 (by decide), by decide⟩ (Nat.le_of_ble_eq_true rfl) (X12_hold_F_ok h)

/-! HeatGovernorModel.isCriticalOn(I)Z -/
def X12_isCriticalOn_J56 (x0 : Nat) (x1 : Int32) (x3 : Int32) (s0 : Int32) (M : Gm) : Option ((Int32 × Int32) ⊕ Int32) :=
  some (.inl (s0, x3 + 1))
def X12_isCriticalOn_J51 (x0 : Nat) (x1 : Int32) (x3 : Int32) (M : Gm) : Option ((Int32 × Int32) ⊕ Int32) :=
  X12_isCriticalOn_J56 x0 x1 x3 1 M
def X12_isCriticalOn_J55 (x0 : Nat) (x1 : Int32) (x3 : Int32) (M : Gm) : Option ((Int32 × Int32) ⊕ Int32) :=
  X12_isCriticalOn_J56 x0 x1 x3 0 M
def X12_isCriticalOn_B4 (x0 : Nat) (x1 : Int32) (M : Gm) (q : Int32 × Int32) : Option ((Int32 × Int32) ⊕ Int32) :=
  (sh_X12_trips x0 M).bind fun q1 =>
  if q1 ≤ q.2 then
    some (.inr q.1)
  else
    if q.1 = 0 then
      (gfR M x0 12 6).bind fun v3 =>
      (ldA M 0 v3 (25 + q.2)).bind fun v5 =>
      if v5 = 3 then
        (sh_X12_zoneOf x0 q.2 M).bind fun q7 =>
        if q7 = x1 then
          (gfR M x0 12 5).bind fun v9 =>
          (ldA M 0 v9 (50 + q.2)).bind fun v11 =>
          if v11 = 1 then
            X12_isCriticalOn_J51 x0 x1 q.2 M
          else
            X12_isCriticalOn_J55 x0 x1 q.2 M
        else
          X12_isCriticalOn_J55 x0 x1 q.2 M
      else
        X12_isCriticalOn_J55 x0 x1 q.2 M
    else
      X12_isCriticalOn_J51 x0 x1 q.2 M
def X12_isCriticalOn_F (x0 : Nat) (x1 : Int32) (M : Gm) : Option (Int32) :=
  (lp (X12_isCriticalOn_B4 x0 x1 M) FU (0, 0)).bind fun r1 =>
  (zck r1).bind fun z3 =>
  some z3
def sh_X12_isCriticalOn (x0 : Nat) (x1 : Int32) (M : Gm) : Option (Int32) := (isO M x0 12).bind fun _ => X12_isCriticalOn_F x0 x1 M
theorem X12_isCriticalOn_J56_ok {w : Gw} {d : Nat} {x0 : Nat} {x1 : Int32} {x3 : Int32} {s0 : Int32} {M : Gm} {o : Go} {M' : Gm} {out : (Int32 × Int32) ⊕ Int32} (h : X12_isCriticalOn_J56 x0 x1 x3 s0 M = some out) (hc : ∀ t : Int32 × Int32, out = .inl t → Wp w mdX12_isCriticalOn (d + 1) 4 [some (.inr x0), some (.inl x1), some (.inl t.1), some (.inl t.2)] [] M o M') (he0 : ∀ t : Int32, out = .inr t → Wp w mdX12_isCriticalOn (d + 1) 63 [none, none, some (.inl t), none] [] M o M') : Wp w mdX12_isCriticalOn (d + 1) 56 [some (.inr x0), some (.inl x1), none, some (.inl x3)] [.inl s0] M o M' := by
  unfold X12_isCriticalOn_J56 at h
  refine wp_istore_n dX12_isCriticalOn_56 (Nat.le_of_ble_eq_true rfl) ?_
  refine wp_iinc (v := x3 + 1) dX12_isCriticalOn_57 rfl rfl ?_
  refine wp_goto (tgt := 4) dX12_isCriticalOn_60 (by decide) ?_
  cases h
  exact wp_ls (lsS (lsS (lsS (lsS lsZ)))) (hc (s0, x3 + 1) rfl)

theorem X12_isCriticalOn_J51_ok {w : Gw} {d : Nat} {x0 : Nat} {x1 : Int32} {x3 : Int32} {M : Gm} {o : Go} {M' : Gm} {out : (Int32 × Int32) ⊕ Int32} (h : X12_isCriticalOn_J51 x0 x1 x3 M = some out) (hc : ∀ t : Int32 × Int32, out = .inl t → Wp w mdX12_isCriticalOn (d + 1) 4 [some (.inr x0), some (.inl x1), some (.inl t.1), some (.inl t.2)] [] M o M') (he0 : ∀ t : Int32, out = .inr t → Wp w mdX12_isCriticalOn (d + 1) 63 [none, none, some (.inl t), none] [] M o M') : Wp w mdX12_isCriticalOn (d + 1) 51 [some (.inr x0), some (.inl x1), none, some (.inl x3)] [] M o M' := by
  unfold X12_isCriticalOn_J51 at h
  refine wp_iconst (v := 1) dX12_isCriticalOn_51 (by decide) ?_
  refine wp_goto (tgt := 56) dX12_isCriticalOn_52 (by decide) ?_
  exact wp_ls (lsS (lsS (lsN (lsS lsZ)))) (X12_isCriticalOn_J56_ok h hc he0)

theorem X12_isCriticalOn_J55_ok {w : Gw} {d : Nat} {x0 : Nat} {x1 : Int32} {x3 : Int32} {M : Gm} {o : Go} {M' : Gm} {out : (Int32 × Int32) ⊕ Int32} (h : X12_isCriticalOn_J55 x0 x1 x3 M = some out) (hc : ∀ t : Int32 × Int32, out = .inl t → Wp w mdX12_isCriticalOn (d + 1) 4 [some (.inr x0), some (.inl x1), some (.inl t.1), some (.inl t.2)] [] M o M') (he0 : ∀ t : Int32, out = .inr t → Wp w mdX12_isCriticalOn (d + 1) 63 [none, none, some (.inl t), none] [] M o M') : Wp w mdX12_isCriticalOn (d + 1) 55 [some (.inr x0), some (.inl x1), none, some (.inl x3)] [] M o M' := by
  unfold X12_isCriticalOn_J55 at h
  refine wp_iconst (v := 0) dX12_isCriticalOn_55 (by decide) ?_
  exact wp_ls (lsS (lsS (lsN (lsS lsZ)))) (X12_isCriticalOn_J56_ok h hc he0)

theorem X12_isCriticalOn_B4_ok {w : Gw} {d : Nat} {x0 : Nat} {x1 : Int32} {M : Gm} {q : Int32 × Int32} {o : Go} {M' : Gm} {out : (Int32 × Int32) ⊕ Int32} (h : X12_isCriticalOn_B4 x0 x1 M q = some out) (hc : ∀ t : Int32 × Int32, out = .inl t → Wp w mdX12_isCriticalOn (d + 1) 4 [some (.inr x0), some (.inl x1), some (.inl t.1), some (.inl t.2)] [] M o M') (he0 : ∀ t : Int32, out = .inr t → Wp w mdX12_isCriticalOn (d + 1) 63 [none, none, some (.inl t), none] [] M o M') : Wp w mdX12_isCriticalOn (d + 1) 4 [some (.inr x0), some (.inl x1), some (.inl q.1), some (.inl q.2)] [] M o M' := by
  unfold X12_isCriticalOn_B4 at h
  refine wp_iload_n dX12_isCriticalOn_4 rfl ?_
  refine wp_aload_n dX12_isCriticalOn_5 rfl ?_
  obtain ⟨q1, e2, h⟩ := bnd h
  refine wp_callV (As := []) dX12_isCriticalOn_6 (sh_X12_trips_ok (d := d) e2) okX12_trips nnX12_trips vvX12_trips ml_RX12_312 rfl (Nat.le_of_ble_eq_true rfl) ?_
  refine wp_icmp_ge (tgt := 63) dX12_isCriticalOn_9 (by decide) (fun hc_ => ?_) (fun hc_ => ?_)
  · replace h := ite_t hc_ h
    cases h
    exact wp_ls (lsN (lsN (lsS (lsN lsZ)))) (he0 q.1 rfl)
  · replace h := ite_f hc_ h
    refine wp_iload_n dX12_isCriticalOn_12 rfl ?_
    refine wp_if_ne (tgt := 51) dX12_isCriticalOn_13 (by decide) (fun hc_ => ?_) (fun hc_ => ?_)
    · replace h := ite_f hc_ h
      exact wp_ls (lsS (lsS (lsN (lsS lsZ)))) (X12_isCriticalOn_J51_ok h hc he0)
    · replace h := ite_t hc_ h
      refine wp_aload_n dX12_isCriticalOn_16 rfl ?_
      obtain ⟨v3, e4, h⟩ := bnd h
      refine wp_getR (c := 12) (k := 6) dX12_isCriticalOn_17 e4 (by decide) (by decide) rfl fl_RX12_62 ?_
      refine wp_bipush (v := 25) dX12_isCriticalOn_20 (by decide) ?_
      refine wp_iload_n dX12_isCriticalOn_22 rfl ?_
      refine wp_iadd dX12_isCriticalOn_23 ?_
      obtain ⟨v5, e6, h⟩ := bnd h
      refine wp_iaload dX12_isCriticalOn_24 e6 ?_
      refine wp_iconst (v := 3) dX12_isCriticalOn_25 (by decide) ?_
      refine wp_icmp_ne (tgt := 55) dX12_isCriticalOn_26 (by decide) (fun hc_ => ?_) (fun hc_ => ?_)
      · replace h := ite_f hc_ h
        exact wp_ls (lsS (lsS (lsN (lsS lsZ)))) (X12_isCriticalOn_J55_ok h hc he0)
      · replace h := ite_t hc_ h
        refine wp_aload_n dX12_isCriticalOn_29 rfl ?_
        refine wp_iload_n dX12_isCriticalOn_30 rfl ?_
        obtain ⟨q7, e8, h⟩ := bnd h
        refine wp_callV (As := [.inl q.2]) dX12_isCriticalOn_31 (sh_X12_zoneOf_ok (d := d) e8) okX12_zoneOf nnX12_zoneOf vvX12_zoneOf ml_RX12_287 rfl (Nat.le_of_ble_eq_true rfl) ?_
        refine wp_iload_n dX12_isCriticalOn_34 rfl ?_
        refine wp_icmp_ne (tgt := 55) dX12_isCriticalOn_35 (by decide) (fun hc_ => ?_) (fun hc_ => ?_)
        · replace h := ite_f hc_ h
          exact wp_ls (lsS (lsS (lsN (lsS lsZ)))) (X12_isCriticalOn_J55_ok h hc he0)
        · replace h := ite_t hc_ h
          refine wp_aload_n dX12_isCriticalOn_38 rfl ?_
          obtain ⟨v9, e10, h⟩ := bnd h
          refine wp_getR (c := 12) (k := 5) dX12_isCriticalOn_39 e10 (by decide) (by decide) rfl fl_RX12_58 ?_
          refine wp_bipush (v := 50) dX12_isCriticalOn_42 (by decide) ?_
          refine wp_iload_n dX12_isCriticalOn_44 rfl ?_
          refine wp_iadd dX12_isCriticalOn_45 ?_
          obtain ⟨v11, e12, h⟩ := bnd h
          refine wp_iaload dX12_isCriticalOn_46 e12 ?_
          refine wp_iconst (v := 1) dX12_isCriticalOn_47 (by decide) ?_
          refine wp_icmp_ne (tgt := 55) dX12_isCriticalOn_48 (by decide) (fun hc_ => ?_) (fun hc_ => ?_)
          · replace h := ite_f hc_ h
            exact wp_ls (lsS (lsS (lsN (lsS lsZ)))) (X12_isCriticalOn_J55_ok h hc he0)
          · replace h := ite_t hc_ h
            exact wp_ls (lsS (lsS (lsN (lsS lsZ)))) (X12_isCriticalOn_J51_ok h hc he0)

theorem X12_isCriticalOn_B4_lp {w : Gw} {d : Nat} {x0 : Nat} {x1 : Int32} {M : Gm} {o : Go} {M' : Gm} {r : Int32} : ∀ (n : Nat) (q : Int32 × Int32), lp (X12_isCriticalOn_B4 x0 x1 M) n q = some r → (∀ t : Int32, r = t → Wp w mdX12_isCriticalOn (d + 1) 63 [none, none, some (.inl t), none] [] M o M') → Wp w mdX12_isCriticalOn (d + 1) 4 [some (.inr x0), some (.inl x1), some (.inl q.1), some (.inl q.2)] [] M o M' := by
  intro n
  induction n with
  | zero => intro q h; cases h
  | succ n ih =>
    intro q h he0
    cases hb : X12_isCriticalOn_B4 x0 x1 M q with
    | none => rw [lp_succ, hb] at h; cases h
    | some out =>
      rw [lp_succ, hb] at h
      exact X12_isCriticalOn_B4_ok hb (fun t e => ih t (by rw [e] at h; exact h) he0) (fun t e => he0 t (by rw [e] at h; cases h; rfl))
theorem X12_isCriticalOn_F_ok {w : Gw} {d : Nat} {x0 : Nat} {x1 : Int32} {M : Gm} {out : Int32} (h : X12_isCriticalOn_F x0 x1 M = some out) : Wp w mdX12_isCriticalOn (d + 1) 0 [some (.inr x0), some (.inl x1), none, none] [] M (.inl (some (.inl out))) M := by
  unfold X12_isCriticalOn_F at h
  refine wp_iconst (v := 0) dX12_isCriticalOn_0 (by decide) ?_
  refine wp_istore_n dX12_isCriticalOn_1 (Nat.le_of_ble_eq_true rfl) ?_
  refine wp_iconst (v := 0) dX12_isCriticalOn_2 (by decide) ?_
  refine wp_istore_n dX12_isCriticalOn_3 (Nat.le_of_ble_eq_true rfl) ?_
  obtain ⟨r1, e2, h⟩ := bnd h
  refine wp_ls (lsS (lsS (lsS (lsS lsZ)))) (X12_isCriticalOn_B4_lp FU _ e2 ?_)
  intro t_ ht_; cases ht_
  refine wp_iload_n dX12_isCriticalOn_63 rfl ?_
  obtain ⟨z3, e4, h⟩ := bnd h
  obtain ⟨hz_, rfl⟩ := zck_of e4
  cases h
  exact wp_zret dX12_isCriticalOn_64 rfl hz_

theorem sh_X12_isCriticalOn_ok {w : Gw} {d : Nat} {x0 : Nat} {x1 : Int32} {M : Gm} {out : Int32} (h : sh_X12_isCriticalOn x0 x1 M = some out) : Ev w mdX12_isCriticalOn (d + 1) [.inr x0, .inl x1] M (.inl (some (.inl out))) M := by
  obtain ⟨u, e0, h⟩ := bnd h
  exact ev_of okX12_isCriticalOn ⟨_, _, rfl, isO_of e0 (by decide), by decide⟩ (Nat.le_of_ble_eq_true rfl) (X12_isCriticalOn_F_ok h)

/-! HeatGovernorModel.start(I)I -/
def X12_start_J33 (x0 : Nat) (M : Gm) : Option (Int32 × Gm) :=
  (sh_X12_refuse x0 1 M).bind fun q1 =>
  some (q1.1, q1.2)
def X12_start_F (x0 : Nat) (x1 : Int32) (M : Gm) : Option (Int32 × Gm) :=
  (pfI M x0 12 4 0).bind fun M1 =>
  (sh_X12_isZone x0 x1 M1).bind fun q3 =>
  if q3 = 0 then
    X12_start_J33 x0 M1
  else
    (gfR M1 x0 12 5).bind fun v5 =>
    (ldA M1 0 v5 (10 + x1)).bind fun v7 =>
    if v7 = 0 then
      X12_start_J33 x0 M1
    else
      (sh_X12_isCriticalOn x0 x1 M1).bind fun q9 =>
      if q9 = 0 then
        (sh_X12_keep x0 M1).bind fun q11 =>
        (gfR q11 x0 12 5).bind fun v13 =>
        (stA q11 0 v13 (10 + x1) 0).bind fun M15 =>
        (gfR M15 x0 12 5).bind fun v17 =>
        (stA M15 0 v17 (15 + x1) 0).bind fun M19 =>
        (sh_X12_logs x0 5 x1 ((-1)) M19).bind fun q21 =>
        (gfR q21 x0 12 5).bind fun v23 =>
        (ldA q21 0 v23 (20 + x1)).bind fun v25 =>
        some (v25, q21)
      else
        X12_start_J33 x0 M1
def sh_X12_start (x0 : Nat) (x1 : Int32) (M : Gm) : Option (Int32 × Gm) := (isO M x0 12).bind fun _ => X12_start_F x0 x1 M
theorem X12_start_J33_ok {w : Gw} {d : Nat} {x0 : Nat} {M : Gm} {out : Int32 × Gm} (h : X12_start_J33 x0 M = some out) : Wp w mdX12_start (d + 2) 33 [some (.inr x0), none] [] M (.inl (some (.inl out.1))) out.2 := by
  unfold X12_start_J33 at h
  refine wp_aload_n dX12_start_33 rfl ?_
  refine wp_iconst (v := 1) dX12_start_34 (by decide) ?_
  obtain ⟨q1, e2, h⟩ := bnd h
  refine wp_callV (As := [.inl 1]) dX12_start_35 (sh_X12_refuse_ok (d := d + 1) e2) okX12_refuse nnX12_refuse vvX12_refuse ml_RX12_403 rfl (Nat.le_of_ble_eq_true rfl) ?_
  cases h
  exact wp_iret dX12_start_38 rfl

theorem X12_start_F_ok {w : Gw} {d : Nat} {x0 : Nat} {x1 : Int32} {M : Gm} {out : Int32 × Gm} (h : X12_start_F x0 x1 M = some out) : Wp w mdX12_start (d + 2) 0 [some (.inr x0), some (.inl x1)] [] M (.inl (some (.inl out.1))) out.2 := by
  unfold X12_start_F at h
  refine wp_aload_n dX12_start_0 rfl ?_
  refine wp_iconst (v := 0) dX12_start_1 (by decide) ?_
  obtain ⟨M1, e2, h⟩ := bnd h
  refine wp_putI (c := 12) (k := 4) dX12_start_2 e2 (by decide) (by decide) rfl fl_RX12_131 (Or.inl rfl) ?_
  refine wp_aload_n dX12_start_5 rfl ?_
  refine wp_iload_n dX12_start_6 rfl ?_
  obtain ⟨q3, e4, h⟩ := bnd h
  refine wp_callV (As := [.inl x1]) dX12_start_7 (sh_X12_isZone_ok (d := d) e4) okX12_isZone nnX12_isZone vvX12_isZone ml_RX12_382 rfl (Nat.le_of_ble_eq_true rfl) ?_
  refine wp_if_eq (tgt := 33) dX12_start_10 (by decide) (fun hc_ => ?_) (fun hc_ => ?_)
  · replace h := ite_t hc_ h
    exact wp_ls (lsS (lsN lsZ)) (X12_start_J33_ok h)
  · replace h := ite_f hc_ h
    refine wp_aload_n dX12_start_13 rfl ?_
    obtain ⟨v5, e6, h⟩ := bnd h
    refine wp_getR (c := 12) (k := 5) dX12_start_14 e6 (by decide) (by decide) rfl fl_RX12_58 ?_
    refine wp_bipush (v := 10) dX12_start_17 (by decide) ?_
    refine wp_iload_n dX12_start_19 rfl ?_
    refine wp_iadd dX12_start_20 ?_
    obtain ⟨v7, e8, h⟩ := bnd h
    refine wp_iaload dX12_start_21 e8 ?_
    refine wp_if_eq (tgt := 33) dX12_start_22 (by decide) (fun hc_ => ?_) (fun hc_ => ?_)
    · replace h := ite_t hc_ h
      exact wp_ls (lsS (lsN lsZ)) (X12_start_J33_ok h)
    · replace h := ite_f hc_ h
      refine wp_aload_n dX12_start_25 rfl ?_
      refine wp_iload_n dX12_start_26 rfl ?_
      obtain ⟨q9, e10, h⟩ := bnd h
      refine wp_callV (As := [.inl x1]) dX12_start_27 (sh_X12_isCriticalOn_ok (d := d) e10) okX12_isCriticalOn nnX12_isCriticalOn vvX12_isCriticalOn ml_RX12_409 rfl (Nat.le_of_ble_eq_true rfl) ?_
      refine wp_if_eq (tgt := 39) dX12_start_30 (by decide) (fun hc_ => ?_) (fun hc_ => ?_)
      · replace h := ite_t hc_ h
        refine wp_aload_n dX12_start_39 rfl ?_
        obtain ⟨q11, e12, h⟩ := bnd h
        refine wp_callV (As := []) dX12_start_40 (sh_X12_keep_ok (d := d + 1) e12) okX12_keep nnX12_keep vvX12_keep ml_RX12_406 rfl (Nat.le_of_ble_eq_true rfl) ?_
        refine wp_aload_n dX12_start_43 rfl ?_
        obtain ⟨v13, e14, h⟩ := bnd h
        refine wp_getR (c := 12) (k := 5) dX12_start_44 e14 (by decide) (by decide) rfl fl_RX12_58 ?_
        refine wp_bipush (v := 10) dX12_start_47 (by decide) ?_
        refine wp_iload_n dX12_start_49 rfl ?_
        refine wp_iadd dX12_start_50 ?_
        refine wp_iconst (v := 0) dX12_start_51 (by decide) ?_
        obtain ⟨M15, e16, h⟩ := bnd h
        refine wp_iastore dX12_start_52 e16 ?_
        refine wp_aload_n dX12_start_53 rfl ?_
        obtain ⟨v17, e18, h⟩ := bnd h
        refine wp_getR (c := 12) (k := 5) dX12_start_54 e18 (by decide) (by decide) rfl fl_RX12_58 ?_
        refine wp_bipush (v := 15) dX12_start_57 (by decide) ?_
        refine wp_iload_n dX12_start_59 rfl ?_
        refine wp_iadd dX12_start_60 ?_
        refine wp_iconst (v := 0) dX12_start_61 (by decide) ?_
        obtain ⟨M19, e20, h⟩ := bnd h
        refine wp_iastore dX12_start_62 e20 ?_
        refine wp_aload_n dX12_start_63 rfl ?_
        refine wp_iconst (v := 5) dX12_start_64 (by decide) ?_
        refine wp_iload_n dX12_start_65 rfl ?_
        refine wp_iconst (v := (-1)) dX12_start_66 (by decide) ?_
        obtain ⟨q21, e22, h⟩ := bnd h
        refine wp_callV (As := [.inl 5, .inl x1, .inl ((-1))]) dX12_start_67 (sh_X12_logs_ok (d := d + 1) e22) okX12_logs nnX12_logs vvX12_logs ml_RX12_290 rfl (Nat.le_of_ble_eq_true rfl) ?_
        refine wp_aload_n dX12_start_70 rfl ?_
        obtain ⟨v23, e24, h⟩ := bnd h
        refine wp_getR (c := 12) (k := 5) dX12_start_71 e24 (by decide) (by decide) rfl fl_RX12_58 ?_
        refine wp_bipush (v := 20) dX12_start_74 (by decide) ?_
        refine wp_iload_n dX12_start_76 rfl ?_
        refine wp_iadd dX12_start_77 ?_
        obtain ⟨v25, e26, h⟩ := bnd h
        refine wp_iaload dX12_start_78 e26 ?_
        cases h
        exact wp_iret dX12_start_79 rfl
      · replace h := ite_f hc_ h
        exact wp_ls (lsS (lsN lsZ)) (X12_start_J33_ok h)

theorem sh_X12_start_ok {w : Gw} {d : Nat} {x0 : Nat} {x1 : Int32} {M : Gm} {out : Int32 × Gm} (h : sh_X12_start x0 x1 M = some out) : Ev w mdX12_start (d + 2) [.inr x0, .inl x1] M (.inl (some (.inl out.1))) out.2 := by
  obtain ⟨u, e0, h⟩ := bnd h
  exact ev_of okX12_start ⟨_, _, rfl, isO_of e0 (by decide), by decide⟩ (Nat.le_of_ble_eq_true rfl) (X12_start_F_ok h)

/-! HeatGovernorModel.foresee(I)I -/
def X12_foresee_J27 (x0 : Nat) (M : Gm) : Option (Int32 × Gm) :=
  (sh_X12_refuse x0 1 M).bind fun q1 =>
  some (q1.1, q1.2)
def X12_foresee_F (x0 : Nat) (x1 : Int32) (M : Gm) : Option (Int32 × Gm) :=
  (pfI M x0 12 4 0).bind fun M1 =>
  (sh_X12_isIn x1 0 9 M1).bind fun q3 =>
  if q3 = 0 then
    X12_foresee_J27 x0 M1
  else
    (gfR M1 x0 12 5).bind fun v5 =>
    (ldA M1 0 v5 143).bind fun v7 =>
    if v7 = x1 then
      X12_foresee_J27 x0 M1
    else
      (sh_X12_keep x0 M1).bind fun q9 =>
      (gfR q9 x0 12 5).bind fun v11 =>
      (ldA q9 0 v11 143).bind fun v13 =>
      (gfR q9 x0 12 5).bind fun v15 =>
      (stA q9 0 v15 143 x1).bind fun M17 =>
      some (v13, M17)
def sh_X12_foresee (x0 : Nat) (x1 : Int32) (M : Gm) : Option (Int32 × Gm) := (isO M x0 12).bind fun _ => X12_foresee_F x0 x1 M
theorem X12_foresee_J27_ok {w : Gw} {d : Nat} {x0 : Nat} {M : Gm} {out : Int32 × Gm} (h : X12_foresee_J27 x0 M = some out) : Wp w mdX12_foresee (d + 1) 27 [some (.inr x0), none, none] [] M (.inl (some (.inl out.1))) out.2 := by
  unfold X12_foresee_J27 at h
  refine wp_aload_n dX12_foresee_27 rfl ?_
  refine wp_iconst (v := 1) dX12_foresee_28 (by decide) ?_
  obtain ⟨q1, e2, h⟩ := bnd h
  refine wp_callV (As := [.inl 1]) dX12_foresee_29 (sh_X12_refuse_ok (d := d) e2) okX12_refuse nnX12_refuse vvX12_refuse ml_RX12_403 rfl (Nat.le_of_ble_eq_true rfl) ?_
  cases h
  exact wp_iret dX12_foresee_32 rfl

theorem X12_foresee_F_ok {w : Gw} {d : Nat} {x0 : Nat} {x1 : Int32} {M : Gm} {out : Int32 × Gm} (h : X12_foresee_F x0 x1 M = some out) : Wp w mdX12_foresee (d + 1) 0 [some (.inr x0), some (.inl x1), none] [] M (.inl (some (.inl out.1))) out.2 := by
  unfold X12_foresee_F at h
  refine wp_aload_n dX12_foresee_0 rfl ?_
  refine wp_iconst (v := 0) dX12_foresee_1 (by decide) ?_
  obtain ⟨M1, e2, h⟩ := bnd h
  refine wp_putI (c := 12) (k := 4) dX12_foresee_2 e2 (by decide) (by decide) rfl fl_RX12_131 (Or.inl rfl) ?_
  refine wp_iload_n dX12_foresee_5 rfl ?_
  refine wp_iconst (v := 0) dX12_foresee_6 (by decide) ?_
  refine wp_bipush (v := 9) dX12_foresee_7 (by decide) ?_
  obtain ⟨q3, e4, h⟩ := bnd h
  refine wp_callS (As := [.inl x1, .inl 0, .inl 9]) dX12_foresee_9 (sh_X12_isIn_ok (d := d) e4) okX12_isIn nnX12_isIn ssX12_isIn ml_RX12_378 rfl (Nat.le_of_ble_eq_true rfl) ?_
  refine wp_if_eq (tgt := 27) dX12_foresee_12 (by decide) (fun hc_ => ?_) (fun hc_ => ?_)
  · replace h := ite_t hc_ h
    exact wp_ls (lsS (lsN (lsN lsZ))) (X12_foresee_J27_ok h)
  · replace h := ite_f hc_ h
    refine wp_aload_n dX12_foresee_15 rfl ?_
    obtain ⟨v5, e6, h⟩ := bnd h
    refine wp_getR (c := 12) (k := 5) dX12_foresee_16 e6 (by decide) (by decide) rfl fl_RX12_58 ?_
    refine wp_sipush (v := 143) dX12_foresee_19 (by decide) ?_
    obtain ⟨v7, e8, h⟩ := bnd h
    refine wp_iaload dX12_foresee_22 e8 ?_
    refine wp_iload_n dX12_foresee_23 rfl ?_
    refine wp_icmp_ne (tgt := 33) dX12_foresee_24 (by decide) (fun hc_ => ?_) (fun hc_ => ?_)
    · replace h := ite_f hc_ h
      refine wp_aload_n dX12_foresee_33 rfl ?_
      obtain ⟨q9, e10, h⟩ := bnd h
      refine wp_callV (As := []) dX12_foresee_34 (sh_X12_keep_ok (d := d) e10) okX12_keep nnX12_keep vvX12_keep ml_RX12_406 rfl (Nat.le_of_ble_eq_true rfl) ?_
      refine wp_aload_n dX12_foresee_37 rfl ?_
      obtain ⟨v11, e12, h⟩ := bnd h
      refine wp_getR (c := 12) (k := 5) dX12_foresee_38 e12 (by decide) (by decide) rfl fl_RX12_58 ?_
      refine wp_sipush (v := 143) dX12_foresee_41 (by decide) ?_
      obtain ⟨v13, e14, h⟩ := bnd h
      refine wp_iaload dX12_foresee_44 e14 ?_
      refine wp_istore_n dX12_foresee_45 (Nat.le_of_ble_eq_true rfl) ?_
      refine wp_aload_n dX12_foresee_46 rfl ?_
      obtain ⟨v15, e16, h⟩ := bnd h
      refine wp_getR (c := 12) (k := 5) dX12_foresee_47 e16 (by decide) (by decide) rfl fl_RX12_58 ?_
      refine wp_sipush (v := 143) dX12_foresee_50 (by decide) ?_
      refine wp_iload_n dX12_foresee_53 rfl ?_
      obtain ⟨M17, e18, h⟩ := bnd h
      refine wp_iastore dX12_foresee_54 e18 ?_
      refine wp_iload_n dX12_foresee_55 rfl ?_
      cases h
      exact wp_iret dX12_foresee_56 rfl
    · replace h := ite_t hc_ h
      exact wp_ls (lsS (lsN (lsN lsZ))) (X12_foresee_J27_ok h)

theorem sh_X12_foresee_ok {w : Gw} {d : Nat} {x0 : Nat} {x1 : Int32} {M : Gm} {out : Int32 × Gm} (h : sh_X12_foresee x0 x1 M = some out) : Ev w mdX12_foresee (d + 1) [.inr x0, .inl x1] M (.inl (some (.inl out.1))) out.2 := by
  obtain ⟨u, e0, h⟩ := bnd h
  exact ev_of okX12_foresee ⟨_, _, rfl, isO_of e0 (by decide), by decide⟩ (Nat.le_of_ble_eq_true rfl) (X12_foresee_F_ok h)

/-! HeatGovernorModel.undo()I -/
def X12_undo_B26 (x0 : Nat) (q : Int32 × Gm) : Option ((Int32 × Gm) ⊕ Gm) :=
  if 305 ≤ q.1 then
    some (.inr q.2)
  else
    (gfR q.2 x0 12 5).bind fun v1 =>
    (gfR q.2 x0 12 27).bind fun v3 =>
    (gfI q.2 x0 12 26).bind fun v5 =>
    (ldA q.2 0 v3 ((305 * v5) + q.1)).bind fun v7 =>
    (stA q.2 0 v1 q.1 v7).bind fun M9 =>
    some (.inl (q.1 + 1, M9))
def X12_undo_F (x0 : Nat) (M : Gm) : Option (Int32 × Gm) :=
  (pfI M x0 12 4 0).bind fun M1 =>
  (gfI M1 x0 12 26).bind fun v3 =>
  if v3 = 0 then
    some ((-1), M1)
  else
    (gfI M1 x0 12 26).bind fun v5 =>
    (pfI M1 x0 12 26 (v5 - 1)).bind fun M7 =>
    (lp (X12_undo_B26 x0) FU (0, M7)).bind fun r9 =>
    (gfI r9 x0 12 26).bind fun v11 =>
    some (v11, r9)
def sh_X12_undo (x0 : Nat) (M : Gm) : Option (Int32 × Gm) := (isO M x0 12).bind fun _ => X12_undo_F x0 M
theorem X12_undo_B26_ok {w : Gw} {d : Nat} {x0 : Nat} {q : Int32 × Gm} {o : Go} {M' : Gm} {out : (Int32 × Gm) ⊕ Gm} (h : X12_undo_B26 x0 q = some out) (hc : ∀ t : Int32 × Gm, out = .inl t → Wp w mdX12_undo d 26 [some (.inr x0), some (.inl t.1)] [] t.2 o M') (he0 : ∀ t : Gm, out = .inr t → Wp w mdX12_undo d 60 [some (.inr x0), none] [] t o M') : Wp w mdX12_undo d 26 [some (.inr x0), some (.inl q.1)] [] q.2 o M' := by
  unfold X12_undo_B26 at h
  refine wp_iload_n dX12_undo_26 rfl ?_
  refine wp_sipush (v := 305) dX12_undo_27 (by decide) ?_
  refine wp_icmp_ge (tgt := 60) dX12_undo_30 (by decide) (fun hc_ => ?_) (fun hc_ => ?_)
  · replace h := ite_t hc_ h
    cases h
    exact wp_ls (lsS (lsN lsZ)) (he0 q.2 rfl)
  · replace h := ite_f hc_ h
    refine wp_aload_n dX12_undo_33 rfl ?_
    obtain ⟨v1, e2, h⟩ := bnd h
    refine wp_getR (c := 12) (k := 5) dX12_undo_34 e2 (by decide) (by decide) rfl fl_RX12_58 ?_
    refine wp_iload_n dX12_undo_37 rfl ?_
    refine wp_aload_n dX12_undo_38 rfl ?_
    obtain ⟨v3, e4, h⟩ := bnd h
    refine wp_getR (c := 12) (k := 27) dX12_undo_39 e4 (by decide) (by decide) rfl fl_RX12_91 ?_
    refine wp_sipush (v := 305) dX12_undo_42 (by decide) ?_
    refine wp_aload_n dX12_undo_45 rfl ?_
    obtain ⟨v5, e6, h⟩ := bnd h
    refine wp_getI (c := 12) (k := 26) dX12_undo_46 e6 (by decide) (by decide) rfl fl_RX12_254 ?_
    refine wp_imul dX12_undo_49 ?_
    refine wp_iload_n dX12_undo_50 rfl ?_
    refine wp_iadd dX12_undo_51 ?_
    obtain ⟨v7, e8, h⟩ := bnd h
    refine wp_iaload dX12_undo_52 e8 ?_
    obtain ⟨M9, e10, h⟩ := bnd h
    refine wp_iastore dX12_undo_53 e10 ?_
    refine wp_iinc (v := q.1 + 1) dX12_undo_54 rfl rfl ?_
    refine wp_goto (tgt := 26) dX12_undo_57 (by decide) ?_
    cases h
    exact wp_ls (lsS (lsS lsZ)) (hc (q.1 + 1, M9) rfl)

theorem X12_undo_B26_lp {w : Gw} {d : Nat} {x0 : Nat} {o : Go} {M' : Gm} {r : Gm} : ∀ (n : Nat) (q : Int32 × Gm), lp (X12_undo_B26 x0) n q = some r → (∀ t : Gm, r = t → Wp w mdX12_undo d 60 [some (.inr x0), none] [] t o M') → Wp w mdX12_undo d 26 [some (.inr x0), some (.inl q.1)] [] q.2 o M' := by
  intro n
  induction n with
  | zero => intro q h; cases h
  | succ n ih =>
    intro q h he0
    cases hb : X12_undo_B26 x0 q with
    | none => rw [lp_succ, hb] at h; cases h
    | some out =>
      rw [lp_succ, hb] at h
      exact X12_undo_B26_ok hb (fun t e => ih t (by rw [e] at h; exact h) he0) (fun t e => he0 t (by rw [e] at h; cases h; rfl))
theorem X12_undo_F_ok {w : Gw} {d : Nat} {x0 : Nat} {M : Gm} {out : Int32 × Gm} (h : X12_undo_F x0 M = some out) : Wp w mdX12_undo d 0 [some (.inr x0), none] [] M (.inl (some (.inl out.1))) out.2 := by
  unfold X12_undo_F at h
  refine wp_aload_n dX12_undo_0 rfl ?_
  refine wp_iconst (v := 0) dX12_undo_1 (by decide) ?_
  obtain ⟨M1, e2, h⟩ := bnd h
  refine wp_putI (c := 12) (k := 4) dX12_undo_2 e2 (by decide) (by decide) rfl fl_RX12_131 (Or.inl rfl) ?_
  refine wp_aload_n dX12_undo_5 rfl ?_
  obtain ⟨v3, e4, h⟩ := bnd h
  refine wp_getI (c := 12) (k := 26) dX12_undo_6 e4 (by decide) (by decide) rfl fl_RX12_254 ?_
  refine wp_if_ne (tgt := 14) dX12_undo_9 (by decide) (fun hc_ => ?_) (fun hc_ => ?_)
  · replace h := ite_f hc_ h
    refine wp_aload_n dX12_undo_14 rfl ?_
    refine wp_dup dX12_undo_15 ?_
    obtain ⟨v5, e6, h⟩ := bnd h
    refine wp_getI (c := 12) (k := 26) dX12_undo_16 e6 (by decide) (by decide) rfl fl_RX12_254 ?_
    refine wp_iconst (v := 1) dX12_undo_19 (by decide) ?_
    refine wp_isub dX12_undo_20 ?_
    obtain ⟨M7, e8, h⟩ := bnd h
    refine wp_putI (c := 12) (k := 26) dX12_undo_21 e8 (by decide) (by decide) rfl fl_RX12_254 (Or.inl rfl) ?_
    refine wp_iconst (v := 0) dX12_undo_24 (by decide) ?_
    refine wp_istore_n dX12_undo_25 (Nat.le_of_ble_eq_true rfl) ?_
    obtain ⟨r9, e10, h⟩ := bnd h
    refine wp_ls (lsS (lsS lsZ)) (X12_undo_B26_lp FU _ e10 ?_)
    intro t_ ht_; cases ht_
    refine wp_aload_n dX12_undo_60 rfl ?_
    obtain ⟨v11, e12, h⟩ := bnd h
    refine wp_getI (c := 12) (k := 26) dX12_undo_61 e12 (by decide) (by decide) rfl fl_RX12_254 ?_
    cases h
    exact wp_iret dX12_undo_64 rfl
  · replace h := ite_t hc_ h
    refine wp_iconst (v := (-1)) dX12_undo_12 (by decide) ?_
    cases h
    exact wp_iret dX12_undo_13 rfl

theorem sh_X12_undo_ok {w : Gw} {d : Nat} {x0 : Nat} {M : Gm} {out : Int32 × Gm} (h : sh_X12_undo x0 M = some out) : Ev w mdX12_undo d [.inr x0] M (.inl (some (.inl out.1))) out.2 := by
  obtain ⟨u, e0, h⟩ := bnd h
  exact ev_of okX12_undo ⟨_, _, rfl, isO_of e0 (by decide), by decide⟩ (Nat.le_of_ble_eq_true rfl) (X12_undo_F_ok h)

/-! HeatGovernorModel.note(III)I -/
def X12_note_J43 (x0 : Nat) (M : Gm) : Option (Int32 × Gm) :=
  (sh_X12_refuse x0 2 M).bind fun q1 =>
  some (q1.1, q1.2)
def X12_note_F (x0 : Nat) (x1 : Int32) (x2 : Int32) (x3 : Int32) (M : Gm) : Option (Int32 × Gm) :=
  (pfI M x0 12 4 0).bind fun M1 =>
  (gfI M1 x0 12 28).bind fun v3 =>
  if v3 = 8 then
    X12_note_J43 x0 M1
  else
    (sh_X12_isZone x0 x1 M1).bind fun q5 =>
    if q5 = 0 then
      X12_note_J43 x0 M1
    else
      (sh_X12_isIn x2 0 60 M1).bind fun q7 =>
      if q7 = 0 then
        X12_note_J43 x0 M1
      else
        (sh_X12_isIn x3 0 1500 M1).bind fun q9 =>
        if q9 = 0 then
          X12_note_J43 x0 M1
        else
          (gfR M1 x0 12 29).bind fun v11 =>
          (gfI M1 x0 12 28).bind fun v13 =>
          (stA M1 0 v11 v13 x1).bind fun M15 =>
          (gfR M15 x0 12 30).bind fun v17 =>
          (gfI M15 x0 12 28).bind fun v19 =>
          (stA M15 0 v17 v19 x2).bind fun M21 =>
          (gfR M21 x0 12 31).bind fun v23 =>
          (gfI M21 x0 12 28).bind fun v25 =>
          (stA M21 0 v23 v25 x3).bind fun M27 =>
          (gfI M27 x0 12 28).bind fun v29 =>
          (pfI M27 x0 12 28 (v29 + 1)).bind fun M31 =>
          (gfI M31 x0 12 28).bind fun v33 =>
          some (v33, M31)
def sh_X12_note (x0 : Nat) (x1 : Int32) (x2 : Int32) (x3 : Int32) (M : Gm) : Option (Int32 × Gm) := (isO M x0 12).bind fun _ => X12_note_F x0 x1 x2 x3 M
theorem X12_note_J43_ok {w : Gw} {d : Nat} {x0 : Nat} {M : Gm} {out : Int32 × Gm} (h : X12_note_J43 x0 M = some out) : Wp w mdX12_note (d + 2) 43 [some (.inr x0), none, none, none] [] M (.inl (some (.inl out.1))) out.2 := by
  unfold X12_note_J43 at h
  refine wp_aload_n dX12_note_43 rfl ?_
  refine wp_iconst (v := 2) dX12_note_44 (by decide) ?_
  obtain ⟨q1, e2, h⟩ := bnd h
  refine wp_callV (As := [.inl 2]) dX12_note_45 (sh_X12_refuse_ok (d := d + 1) e2) okX12_refuse nnX12_refuse vvX12_refuse ml_RX12_403 rfl (Nat.le_of_ble_eq_true rfl) ?_
  cases h
  exact wp_iret dX12_note_48 rfl

theorem X12_note_F_ok {w : Gw} {d : Nat} {x0 : Nat} {x1 : Int32} {x2 : Int32} {x3 : Int32} {M : Gm} {out : Int32 × Gm} (h : X12_note_F x0 x1 x2 x3 M = some out) : Wp w mdX12_note (d + 2) 0 [some (.inr x0), some (.inl x1), some (.inl x2), some (.inl x3)] [] M (.inl (some (.inl out.1))) out.2 := by
  unfold X12_note_F at h
  refine wp_aload_n dX12_note_0 rfl ?_
  refine wp_iconst (v := 0) dX12_note_1 (by decide) ?_
  obtain ⟨M1, e2, h⟩ := bnd h
  refine wp_putI (c := 12) (k := 4) dX12_note_2 e2 (by decide) (by decide) rfl fl_RX12_131 (Or.inl rfl) ?_
  refine wp_aload_n dX12_note_5 rfl ?_
  obtain ⟨v3, e4, h⟩ := bnd h
  refine wp_getI (c := 12) (k := 28) dX12_note_6 e4 (by decide) (by decide) rfl fl_RX12_257 ?_
  refine wp_bipush (v := 8) dX12_note_9 (by decide) ?_
  refine wp_icmp_eq (tgt := 43) dX12_note_11 (by decide) (fun hc_ => ?_) (fun hc_ => ?_)
  · replace h := ite_t hc_ h
    exact wp_ls (lsS (lsN (lsN (lsN lsZ)))) (X12_note_J43_ok h)
  · replace h := ite_f hc_ h
    refine wp_aload_n dX12_note_14 rfl ?_
    refine wp_iload_n dX12_note_15 rfl ?_
    obtain ⟨q5, e6, h⟩ := bnd h
    refine wp_callV (As := [.inl x1]) dX12_note_16 (sh_X12_isZone_ok (d := d) e6) okX12_isZone nnX12_isZone vvX12_isZone ml_RX12_382 rfl (Nat.le_of_ble_eq_true rfl) ?_
    refine wp_if_eq (tgt := 43) dX12_note_19 (by decide) (fun hc_ => ?_) (fun hc_ => ?_)
    · replace h := ite_t hc_ h
      exact wp_ls (lsS (lsN (lsN (lsN lsZ)))) (X12_note_J43_ok h)
    · replace h := ite_f hc_ h
      refine wp_iload_n dX12_note_22 rfl ?_
      refine wp_iconst (v := 0) dX12_note_23 (by decide) ?_
      refine wp_bipush (v := 60) dX12_note_24 (by decide) ?_
      obtain ⟨q7, e8, h⟩ := bnd h
      refine wp_callS (As := [.inl x2, .inl 0, .inl 60]) dX12_note_26 (sh_X12_isIn_ok (d := d + 1) e8) okX12_isIn nnX12_isIn ssX12_isIn ml_RX12_378 rfl (Nat.le_of_ble_eq_true rfl) ?_
      refine wp_if_eq (tgt := 43) dX12_note_29 (by decide) (fun hc_ => ?_) (fun hc_ => ?_)
      · replace h := ite_t hc_ h
        exact wp_ls (lsS (lsN (lsN (lsN lsZ)))) (X12_note_J43_ok h)
      · replace h := ite_f hc_ h
        refine wp_iload_n dX12_note_32 rfl ?_
        refine wp_iconst (v := 0) dX12_note_33 (by decide) ?_
        refine wp_sipush (v := 1500) dX12_note_34 (by decide) ?_
        obtain ⟨q9, e10, h⟩ := bnd h
        refine wp_callS (As := [.inl x3, .inl 0, .inl 1500]) dX12_note_37 (sh_X12_isIn_ok (d := d + 1) e10) okX12_isIn nnX12_isIn ssX12_isIn ml_RX12_378 rfl (Nat.le_of_ble_eq_true rfl) ?_
        refine wp_if_ne (tgt := 49) dX12_note_40 (by decide) (fun hc_ => ?_) (fun hc_ => ?_)
        · replace h := ite_f hc_ h
          refine wp_aload_n dX12_note_49 rfl ?_
          obtain ⟨v11, e12, h⟩ := bnd h
          refine wp_getR (c := 12) (k := 29) dX12_note_50 e12 (by decide) (by decide) rfl fl_RX12_94 ?_
          refine wp_aload_n dX12_note_53 rfl ?_
          obtain ⟨v13, e14, h⟩ := bnd h
          refine wp_getI (c := 12) (k := 28) dX12_note_54 e14 (by decide) (by decide) rfl fl_RX12_257 ?_
          refine wp_iload_n dX12_note_57 rfl ?_
          obtain ⟨M15, e16, h⟩ := bnd h
          refine wp_iastore dX12_note_58 e16 ?_
          refine wp_aload_n dX12_note_59 rfl ?_
          obtain ⟨v17, e18, h⟩ := bnd h
          refine wp_getR (c := 12) (k := 30) dX12_note_60 e18 (by decide) (by decide) rfl fl_RX12_97 ?_
          refine wp_aload_n dX12_note_63 rfl ?_
          obtain ⟨v19, e20, h⟩ := bnd h
          refine wp_getI (c := 12) (k := 28) dX12_note_64 e20 (by decide) (by decide) rfl fl_RX12_257 ?_
          refine wp_iload_n dX12_note_67 rfl ?_
          obtain ⟨M21, e22, h⟩ := bnd h
          refine wp_iastore dX12_note_68 e22 ?_
          refine wp_aload_n dX12_note_69 rfl ?_
          obtain ⟨v23, e24, h⟩ := bnd h
          refine wp_getR (c := 12) (k := 31) dX12_note_70 e24 (by decide) (by decide) rfl fl_RX12_100 ?_
          refine wp_aload_n dX12_note_73 rfl ?_
          obtain ⟨v25, e26, h⟩ := bnd h
          refine wp_getI (c := 12) (k := 28) dX12_note_74 e26 (by decide) (by decide) rfl fl_RX12_257 ?_
          refine wp_iload_n dX12_note_77 rfl ?_
          obtain ⟨M27, e28, h⟩ := bnd h
          refine wp_iastore dX12_note_78 e28 ?_
          refine wp_aload_n dX12_note_79 rfl ?_
          refine wp_dup dX12_note_80 ?_
          obtain ⟨v29, e30, h⟩ := bnd h
          refine wp_getI (c := 12) (k := 28) dX12_note_81 e30 (by decide) (by decide) rfl fl_RX12_257 ?_
          refine wp_iconst (v := 1) dX12_note_84 (by decide) ?_
          refine wp_iadd dX12_note_85 ?_
          obtain ⟨M31, e32, h⟩ := bnd h
          refine wp_putI (c := 12) (k := 28) dX12_note_86 e32 (by decide) (by decide) rfl fl_RX12_257 (Or.inl rfl) ?_
          refine wp_aload_n dX12_note_89 rfl ?_
          obtain ⟨v33, e34, h⟩ := bnd h
          refine wp_getI (c := 12) (k := 28) dX12_note_90 e34 (by decide) (by decide) rfl fl_RX12_257 ?_
          cases h
          exact wp_iret dX12_note_93 rfl
        · replace h := ite_t hc_ h
          exact wp_ls (lsS (lsN (lsN (lsN lsZ)))) (X12_note_J43_ok h)

theorem sh_X12_note_ok {w : Gw} {d : Nat} {x0 : Nat} {x1 : Int32} {x2 : Int32} {x3 : Int32} {M : Gm} {out : Int32 × Gm} (h : sh_X12_note x0 x1 x2 x3 M = some out) : Ev w mdX12_note (d + 2) [.inr x0, .inl x1, .inl x2, .inl x3] M (.inl (some (.inl out.1))) out.2 := by
  obtain ⟨u, e0, h⟩ := bnd h
  exact ev_of okX12_note ⟨_, _, rfl, isO_of e0 (by decide), by decide⟩ (Nat.le_of_ble_eq_true rfl) (X12_note_F_ok h)

/-! HeatGovernorModel.forget()V -/
def X12_forget_F (x0 : Nat) (M : Gm) : Option (Gm) :=
  (pfI M x0 12 4 0).bind fun M1 =>
  (pfI M1 x0 12 28 0).bind fun M3 =>
  some M3
def sh_X12_forget (x0 : Nat) (M : Gm) : Option (Gm) := (isO M x0 12).bind fun _ => X12_forget_F x0 M
theorem X12_forget_F_ok {w : Gw} {d : Nat} {x0 : Nat} {M : Gm} {out : Gm} (h : X12_forget_F x0 M = some out) : Wp w mdX12_forget d 0 [some (.inr x0)] [] M (.inl none) out := by
  unfold X12_forget_F at h
  refine wp_aload_n dX12_forget_0 rfl ?_
  refine wp_iconst (v := 0) dX12_forget_1 (by decide) ?_
  obtain ⟨M1, e2, h⟩ := bnd h
  refine wp_putI (c := 12) (k := 4) dX12_forget_2 e2 (by decide) (by decide) rfl fl_RX12_131 (Or.inl rfl) ?_
  refine wp_aload_n dX12_forget_5 rfl ?_
  refine wp_iconst (v := 0) dX12_forget_6 (by decide) ?_
  obtain ⟨M3, e4, h⟩ := bnd h
  refine wp_putI (c := 12) (k := 28) dX12_forget_7 e4 (by decide) (by decide) rfl fl_RX12_257 (Or.inl rfl) ?_
  cases h
  exact wp_ret dX12_forget_10 rfl

theorem sh_X12_forget_ok {w : Gw} {d : Nat} {x0 : Nat} {M : Gm} {out : Gm} (h : sh_X12_forget x0 M = some out) : Ev w mdX12_forget d [.inr x0] M (.inl none) out := by
  obtain ⟨u, e0, h⟩ := bnd h
  exact ev_of okX12_forget ⟨_, _, rfl, isO_of e0 (by decide), by decide⟩ (Nat.le_of_ble_eq_true rfl) (X12_forget_F_ok h)

/-! HeatGovernorModel.tellFits(I)V -/
def X12_tellFits_J110 (x0 : Nat) (x1 : Int32) (x2 : Int32) (x3 : Int32) (x5 : Int32) (x6 : Int32) (s0 : Int32) (M : Gm) : Option ((Int32 × Int32) ⊕ Int32) :=
  some (.inl (s0, x6 + 1))
def X12_tellFits_J109 (x0 : Nat) (x1 : Int32) (x2 : Int32) (x3 : Int32) (x5 : Int32) (x6 : Int32) (M : Gm) : Option ((Int32 × Int32) ⊕ Int32) :=
  X12_tellFits_J110 x0 x1 x2 x3 x5 x6 0 M
def X12_tellFits_J105 (x0 : Nat) (x1 : Int32) (x2 : Int32) (x3 : Int32) (x5 : Int32) (x6 : Int32) (M : Gm) : Option ((Int32 × Int32) ⊕ Int32) :=
  X12_tellFits_J110 x0 x1 x2 x3 x5 x6 1 M
def X12_tellFits_B55 (x0 : Nat) (x1 : Int32) (x2 : Int32) (x3 : Int32) (x5 : Int32) (M : Gm) (q : Int32 × Int32) : Option ((Int32 × Int32) ⊕ Int32) :=
  (gfI M x0 12 28).bind fun v1 =>
  if v1 ≤ q.2 then
    some (.inr q.1)
  else
    if q.1 = 0 then
      X12_tellFits_J109 x0 x1 x2 x3 x5 q.2 M
    else
      (gfR M x0 12 30).bind fun v3 =>
      (ldA M 0 v3 q.2).bind fun v5 =>
      if v5 = x5 then
        (gfR M x0 12 5).bind fun v7 =>
        (gfR M x0 12 29).bind fun v9 =>
        (ldA M 0 v9 q.2).bind fun v11 =>
        (ldA M 0 v7 (0 + v11)).bind fun v13 =>
        (gfR M x0 12 31).bind fun v15 =>
        (ldA M 0 v15 q.2).bind fun v17 =>
        if v13 = v17 then
          X12_tellFits_J105 x0 x1 x2 x3 x5 q.2 M
        else
          X12_tellFits_J109 x0 x1 x2 x3 x5 q.2 M
      else
        X12_tellFits_J105 x0 x1 x2 x3 x5 q.2 M
def X12_tellFits_J145 (x0 : Nat) (x1 : Int32) (x2 : Int32) (x3 : Int32) (x4 : Int32) (x5 : Int32) (M : Gm) : Option ((Int32 × Int32 × Gm) ⊕ (Int32 × Gm)) :=
  some (.inl (x4, x5 + 1, M))
def X12_tellFits_J52 (x0 : Nat) (x1 : Int32) (x2 : Int32) (x3 : Int32) (x4 : Int32) (x5 : Int32) (M : Gm) : Option ((Int32 × Int32 × Gm) ⊕ (Int32 × Gm)) :=
  (lp (X12_tellFits_B55 x0 x1 x2 x3 x5 M) FU (x4, 0)).bind fun r1 =>
  if 20 < x5 then
    X12_tellFits_J145 x0 x1 x2 x3 r1 x5 M
  else
    (gfR M x0 12 33).bind fun v3 =>
    (gfR M x0 12 5).bind fun v5 =>
    (ldA M 0 v5 (0 + x1)).bind fun v7 =>
    (stA M 0 v3 ((21 * x3) + x5) v7).bind fun M9 =>
    X12_tellFits_J145 x0 x1 x2 x3 r1 x5 M9
def X12_tellFits_B36 (x0 : Nat) (x1 : Int32) (x2 : Int32) (x3 : Int32) (q : Int32 × Int32 × Gm) : Option ((Int32 × Int32 × Gm) ⊕ (Int32 × Gm)) :=
  if 60 < q.2.1 then
    some (.inr (q.1, q.2.2))
  else
    if q.2.1 ≤ 0 then
      X12_tellFits_J52 x0 x1 x2 x3 q.1 q.2.1 q.2.2
    else
      (sh_X12_minute x0 q.2.2).bind fun q1 =>
      X12_tellFits_J52 x0 x1 x2 x3 q.1 q.2.1 q1
def X12_tellFits_B11 (x0 : Nat) (x1 : Int32) (x2 : Int32) (q : Int32 × Gm) : Option ((Int32 × Gm) ⊕ Gm) :=
  if 50 < q.1 then
    some (.inr q.2)
  else
    (gfR q.2 x0 12 6).bind fun v1 =>
    (stA q.2 0 v1 (0 + x1) q.1).bind fun M3 =>
    (sh_X12_tries x0 M3).bind fun q5 =>
    (lp (X12_tellFits_B36 x0 x1 x2 q.1) FU (1, 0, q5)).bind fun r7 =>
    (gfR r7.2 x0 12 32).bind fun v9 =>
    (stA r7.2 2 v9 q.1 (r7.1 &&& 1)).bind fun M11 =>
    (sh_X12_laysBack x0 M11).bind fun q13 =>
    some (.inl (q.1 + 1, q13))
def X12_tellFits_F (x0 : Nat) (x1 : Int32) (M : Gm) : Option (Gm) :=
  (gfR M x0 12 6).bind fun v1 =>
  (ldA M 0 v1 (0 + x1)).bind fun v3 =>
  (lp (X12_tellFits_B11 x0 x1 v3) FU (1, M)).bind fun r5 =>
  (gfR r5 x0 12 6).bind fun v7 =>
  (stA r5 0 v7 (0 + x1) v3).bind fun M9 =>
  some M9
def sh_X12_tellFits (x0 : Nat) (x1 : Int32) (M : Gm) : Option (Gm) := (isO M x0 12).bind fun _ => X12_tellFits_F x0 x1 M
theorem X12_tellFits_J110_ok {w : Gw} {d : Nat} {x0 : Nat} {x1 : Int32} {x2 : Int32} {x3 : Int32} {x5 : Int32} {x6 : Int32} {s0 : Int32} {M : Gm} {o : Go} {M' : Gm} {out : (Int32 × Int32) ⊕ Int32} (h : X12_tellFits_J110 x0 x1 x2 x3 x5 x6 s0 M = some out) (hc : ∀ t : Int32 × Int32, out = .inl t → Wp w mdX12_tellFits (d + 5) 55 [some (.inr x0), some (.inl x1), some (.inl x2), some (.inl x3), some (.inl t.1), some (.inl x5), some (.inl t.2)] [] M o M') (he0 : ∀ t : Int32, out = .inr t → Wp w mdX12_tellFits (d + 5) 118 [some (.inr x0), some (.inl x1), some (.inl x2), some (.inl x3), some (.inl t), some (.inl x5), none] [] M o M') : Wp w mdX12_tellFits (d + 5) 110 [some (.inr x0), some (.inl x1), some (.inl x2), some (.inl x3), none, some (.inl x5), some (.inl x6)] [.inl s0] M o M' := by
  unfold X12_tellFits_J110 at h
  refine wp_istore dX12_tellFits_110 (Nat.le_of_ble_eq_true rfl) ?_
  refine wp_iinc (v := x6 + 1) dX12_tellFits_112 rfl rfl ?_
  refine wp_goto (tgt := 55) dX12_tellFits_115 (by decide) ?_
  cases h
  exact wp_ls (lsS (lsS (lsS (lsS (lsS (lsS (lsS lsZ))))))) (hc (s0, x6 + 1) rfl)

theorem X12_tellFits_J109_ok {w : Gw} {d : Nat} {x0 : Nat} {x1 : Int32} {x2 : Int32} {x3 : Int32} {x5 : Int32} {x6 : Int32} {M : Gm} {o : Go} {M' : Gm} {out : (Int32 × Int32) ⊕ Int32} (h : X12_tellFits_J109 x0 x1 x2 x3 x5 x6 M = some out) (hc : ∀ t : Int32 × Int32, out = .inl t → Wp w mdX12_tellFits (d + 5) 55 [some (.inr x0), some (.inl x1), some (.inl x2), some (.inl x3), some (.inl t.1), some (.inl x5), some (.inl t.2)] [] M o M') (he0 : ∀ t : Int32, out = .inr t → Wp w mdX12_tellFits (d + 5) 118 [some (.inr x0), some (.inl x1), some (.inl x2), some (.inl x3), some (.inl t), some (.inl x5), none] [] M o M') : Wp w mdX12_tellFits (d + 5) 109 [some (.inr x0), some (.inl x1), some (.inl x2), some (.inl x3), none, some (.inl x5), some (.inl x6)] [] M o M' := by
  unfold X12_tellFits_J109 at h
  refine wp_iconst (v := 0) dX12_tellFits_109 (by decide) ?_
  exact wp_ls (lsS (lsS (lsS (lsS (lsN (lsS (lsS lsZ))))))) (X12_tellFits_J110_ok h hc he0)

theorem X12_tellFits_J105_ok {w : Gw} {d : Nat} {x0 : Nat} {x1 : Int32} {x2 : Int32} {x3 : Int32} {x5 : Int32} {x6 : Int32} {M : Gm} {o : Go} {M' : Gm} {out : (Int32 × Int32) ⊕ Int32} (h : X12_tellFits_J105 x0 x1 x2 x3 x5 x6 M = some out) (hc : ∀ t : Int32 × Int32, out = .inl t → Wp w mdX12_tellFits (d + 5) 55 [some (.inr x0), some (.inl x1), some (.inl x2), some (.inl x3), some (.inl t.1), some (.inl x5), some (.inl t.2)] [] M o M') (he0 : ∀ t : Int32, out = .inr t → Wp w mdX12_tellFits (d + 5) 118 [some (.inr x0), some (.inl x1), some (.inl x2), some (.inl x3), some (.inl t), some (.inl x5), none] [] M o M') : Wp w mdX12_tellFits (d + 5) 105 [some (.inr x0), some (.inl x1), some (.inl x2), some (.inl x3), none, some (.inl x5), some (.inl x6)] [] M o M' := by
  unfold X12_tellFits_J105 at h
  refine wp_iconst (v := 1) dX12_tellFits_105 (by decide) ?_
  refine wp_goto (tgt := 110) dX12_tellFits_106 (by decide) ?_
  exact wp_ls (lsS (lsS (lsS (lsS (lsN (lsS (lsS lsZ))))))) (X12_tellFits_J110_ok h hc he0)

theorem X12_tellFits_B55_ok {w : Gw} {d : Nat} {x0 : Nat} {x1 : Int32} {x2 : Int32} {x3 : Int32} {x5 : Int32} {M : Gm} {q : Int32 × Int32} {o : Go} {M' : Gm} {out : (Int32 × Int32) ⊕ Int32} (h : X12_tellFits_B55 x0 x1 x2 x3 x5 M q = some out) (hc : ∀ t : Int32 × Int32, out = .inl t → Wp w mdX12_tellFits (d + 5) 55 [some (.inr x0), some (.inl x1), some (.inl x2), some (.inl x3), some (.inl t.1), some (.inl x5), some (.inl t.2)] [] M o M') (he0 : ∀ t : Int32, out = .inr t → Wp w mdX12_tellFits (d + 5) 118 [some (.inr x0), some (.inl x1), some (.inl x2), some (.inl x3), some (.inl t), some (.inl x5), none] [] M o M') : Wp w mdX12_tellFits (d + 5) 55 [some (.inr x0), some (.inl x1), some (.inl x2), some (.inl x3), some (.inl q.1), some (.inl x5), some (.inl q.2)] [] M o M' := by
  unfold X12_tellFits_B55 at h
  refine wp_iload dX12_tellFits_55 rfl ?_
  refine wp_aload_n dX12_tellFits_57 rfl ?_
  obtain ⟨v1, e2, h⟩ := bnd h
  refine wp_getI (c := 12) (k := 28) dX12_tellFits_58 e2 (by decide) (by decide) rfl fl_RX12_257 ?_
  refine wp_icmp_ge (tgt := 118) dX12_tellFits_61 (by decide) (fun hc_ => ?_) (fun hc_ => ?_)
  · replace h := ite_t hc_ h
    cases h
    exact wp_ls (lsS (lsS (lsS (lsS (lsS (lsS (lsN lsZ))))))) (he0 q.1 rfl)
  · replace h := ite_f hc_ h
    refine wp_iload dX12_tellFits_64 rfl ?_
    refine wp_if_eq (tgt := 109) dX12_tellFits_66 (by decide) (fun hc_ => ?_) (fun hc_ => ?_)
    · replace h := ite_t hc_ h
      exact wp_ls (lsS (lsS (lsS (lsS (lsN (lsS (lsS lsZ))))))) (X12_tellFits_J109_ok h hc he0)
    · replace h := ite_f hc_ h
      refine wp_aload_n dX12_tellFits_69 rfl ?_
      obtain ⟨v3, e4, h⟩ := bnd h
      refine wp_getR (c := 12) (k := 30) dX12_tellFits_70 e4 (by decide) (by decide) rfl fl_RX12_97 ?_
      refine wp_iload dX12_tellFits_73 rfl ?_
      obtain ⟨v5, e6, h⟩ := bnd h
      refine wp_iaload dX12_tellFits_75 e6 ?_
      refine wp_iload dX12_tellFits_76 rfl ?_
      refine wp_icmp_ne (tgt := 105) dX12_tellFits_78 (by decide) (fun hc_ => ?_) (fun hc_ => ?_)
      · replace h := ite_f hc_ h
        exact wp_ls (lsS (lsS (lsS (lsS (lsN (lsS (lsS lsZ))))))) (X12_tellFits_J105_ok h hc he0)
      · replace h := ite_t hc_ h
        refine wp_aload_n dX12_tellFits_81 rfl ?_
        obtain ⟨v7, e8, h⟩ := bnd h
        refine wp_getR (c := 12) (k := 5) dX12_tellFits_82 e8 (by decide) (by decide) rfl fl_RX12_58 ?_
        refine wp_iconst (v := 0) dX12_tellFits_85 (by decide) ?_
        refine wp_aload_n dX12_tellFits_86 rfl ?_
        obtain ⟨v9, e10, h⟩ := bnd h
        refine wp_getR (c := 12) (k := 29) dX12_tellFits_87 e10 (by decide) (by decide) rfl fl_RX12_94 ?_
        refine wp_iload dX12_tellFits_90 rfl ?_
        obtain ⟨v11, e12, h⟩ := bnd h
        refine wp_iaload dX12_tellFits_92 e12 ?_
        refine wp_iadd dX12_tellFits_93 ?_
        obtain ⟨v13, e14, h⟩ := bnd h
        refine wp_iaload dX12_tellFits_94 e14 ?_
        refine wp_aload_n dX12_tellFits_95 rfl ?_
        obtain ⟨v15, e16, h⟩ := bnd h
        refine wp_getR (c := 12) (k := 31) dX12_tellFits_96 e16 (by decide) (by decide) rfl fl_RX12_100 ?_
        refine wp_iload dX12_tellFits_99 rfl ?_
        obtain ⟨v17, e18, h⟩ := bnd h
        refine wp_iaload dX12_tellFits_101 e18 ?_
        refine wp_icmp_ne (tgt := 109) dX12_tellFits_102 (by decide) (fun hc_ => ?_) (fun hc_ => ?_)
        · replace h := ite_f hc_ h
          exact wp_ls (lsS (lsS (lsS (lsS (lsN (lsS (lsS lsZ))))))) (X12_tellFits_J109_ok h hc he0)
        · replace h := ite_t hc_ h
          exact wp_ls (lsS (lsS (lsS (lsS (lsN (lsS (lsS lsZ))))))) (X12_tellFits_J105_ok h hc he0)

theorem X12_tellFits_B55_lp {w : Gw} {d : Nat} {x0 : Nat} {x1 : Int32} {x2 : Int32} {x3 : Int32} {x5 : Int32} {M : Gm} {o : Go} {M' : Gm} {r : Int32} : ∀ (n : Nat) (q : Int32 × Int32), lp (X12_tellFits_B55 x0 x1 x2 x3 x5 M) n q = some r → (∀ t : Int32, r = t → Wp w mdX12_tellFits (d + 5) 118 [some (.inr x0), some (.inl x1), some (.inl x2), some (.inl x3), some (.inl t), some (.inl x5), none] [] M o M') → Wp w mdX12_tellFits (d + 5) 55 [some (.inr x0), some (.inl x1), some (.inl x2), some (.inl x3), some (.inl q.1), some (.inl x5), some (.inl q.2)] [] M o M' := by
  intro n
  induction n with
  | zero => intro q h; cases h
  | succ n ih =>
    intro q h he0
    cases hb : X12_tellFits_B55 x0 x1 x2 x3 x5 M q with
    | none => rw [lp_succ, hb] at h; cases h
    | some out =>
      rw [lp_succ, hb] at h
      exact X12_tellFits_B55_ok hb (fun t e => ih t (by rw [e] at h; exact h) he0) (fun t e => he0 t (by rw [e] at h; cases h; rfl))
theorem X12_tellFits_J145_ok {w : Gw} {d : Nat} {x0 : Nat} {x1 : Int32} {x2 : Int32} {x3 : Int32} {x4 : Int32} {x5 : Int32} {M : Gm} {o : Go} {M' : Gm} {out : (Int32 × Int32 × Gm) ⊕ (Int32 × Gm)} (h : X12_tellFits_J145 x0 x1 x2 x3 x4 x5 M = some out) (hc : ∀ t : Int32 × Int32 × Gm, out = .inl t → Wp w mdX12_tellFits (d + 5) 36 [some (.inr x0), some (.inl x1), some (.inl x2), some (.inl x3), some (.inl t.1), some (.inl t.2.1), none] [] t.2.2 o M') (he0 : ∀ t : Int32 × Gm, out = .inr t → Wp w mdX12_tellFits (d + 5) 151 [some (.inr x0), some (.inl x1), some (.inl x2), some (.inl x3), some (.inl t.1), none, none] [] t.2 o M') : Wp w mdX12_tellFits (d + 5) 145 [some (.inr x0), some (.inl x1), some (.inl x2), some (.inl x3), some (.inl x4), some (.inl x5), none] [] M o M' := by
  unfold X12_tellFits_J145 at h
  refine wp_iinc (v := x5 + 1) dX12_tellFits_145 rfl rfl ?_
  refine wp_goto (tgt := 36) dX12_tellFits_148 (by decide) ?_
  cases h
  exact wp_ls (lsS (lsS (lsS (lsS (lsS (lsS (lsN lsZ))))))) (hc (x4, x5 + 1, M) rfl)

theorem X12_tellFits_J52_ok {w : Gw} {d : Nat} {x0 : Nat} {x1 : Int32} {x2 : Int32} {x3 : Int32} {x4 : Int32} {x5 : Int32} {M : Gm} {o : Go} {M' : Gm} {out : (Int32 × Int32 × Gm) ⊕ (Int32 × Gm)} (h : X12_tellFits_J52 x0 x1 x2 x3 x4 x5 M = some out) (hc : ∀ t : Int32 × Int32 × Gm, out = .inl t → Wp w mdX12_tellFits (d + 5) 36 [some (.inr x0), some (.inl x1), some (.inl x2), some (.inl x3), some (.inl t.1), some (.inl t.2.1), none] [] t.2.2 o M') (he0 : ∀ t : Int32 × Gm, out = .inr t → Wp w mdX12_tellFits (d + 5) 151 [some (.inr x0), some (.inl x1), some (.inl x2), some (.inl x3), some (.inl t.1), none, none] [] t.2 o M') : Wp w mdX12_tellFits (d + 5) 52 [some (.inr x0), some (.inl x1), some (.inl x2), some (.inl x3), some (.inl x4), some (.inl x5), none] [] M o M' := by
  unfold X12_tellFits_J52 at h
  refine wp_iconst (v := 0) dX12_tellFits_52 (by decide) ?_
  refine wp_istore dX12_tellFits_53 (Nat.le_of_ble_eq_true rfl) ?_
  obtain ⟨r1, e2, h⟩ := bnd h
  refine wp_ls (lsS (lsS (lsS (lsS (lsS (lsS (lsS lsZ))))))) (X12_tellFits_B55_lp FU _ e2 ?_)
  intro t_ ht_; cases ht_
  refine wp_iload dX12_tellFits_118 rfl ?_
  refine wp_bipush (v := 20) dX12_tellFits_120 (by decide) ?_
  refine wp_icmp_gt (tgt := 145) dX12_tellFits_122 (by decide) (fun hc_ => ?_) (fun hc_ => ?_)
  · replace h := ite_t hc_ h
    exact wp_ls (lsS (lsS (lsS (lsS (lsS (lsS (lsN lsZ))))))) (X12_tellFits_J145_ok h hc he0)
  · replace h := ite_f hc_ h
    refine wp_aload_n dX12_tellFits_125 rfl ?_
    obtain ⟨v3, e4, h⟩ := bnd h
    refine wp_getR (c := 12) (k := 33) dX12_tellFits_126 e4 (by decide) (by decide) rfl fl_RX12_106 ?_
    refine wp_bipush (v := 21) dX12_tellFits_129 (by decide) ?_
    refine wp_iload_n dX12_tellFits_131 rfl ?_
    refine wp_imul dX12_tellFits_132 ?_
    refine wp_iload dX12_tellFits_133 rfl ?_
    refine wp_iadd dX12_tellFits_135 ?_
    refine wp_aload_n dX12_tellFits_136 rfl ?_
    obtain ⟨v5, e6, h⟩ := bnd h
    refine wp_getR (c := 12) (k := 5) dX12_tellFits_137 e6 (by decide) (by decide) rfl fl_RX12_58 ?_
    refine wp_iconst (v := 0) dX12_tellFits_140 (by decide) ?_
    refine wp_iload_n dX12_tellFits_141 rfl ?_
    refine wp_iadd dX12_tellFits_142 ?_
    obtain ⟨v7, e8, h⟩ := bnd h
    refine wp_iaload dX12_tellFits_143 e8 ?_
    obtain ⟨M9, e10, h⟩ := bnd h
    refine wp_iastore dX12_tellFits_144 e10 ?_
    exact wp_ls (lsS (lsS (lsS (lsS (lsS (lsS (lsN lsZ))))))) (X12_tellFits_J145_ok h hc he0)

theorem X12_tellFits_B36_ok {w : Gw} {d : Nat} {x0 : Nat} {x1 : Int32} {x2 : Int32} {x3 : Int32} {q : Int32 × Int32 × Gm} {o : Go} {M' : Gm} {out : (Int32 × Int32 × Gm) ⊕ (Int32 × Gm)} (h : X12_tellFits_B36 x0 x1 x2 x3 q = some out) (hc : ∀ t : Int32 × Int32 × Gm, out = .inl t → Wp w mdX12_tellFits (d + 5) 36 [some (.inr x0), some (.inl x1), some (.inl x2), some (.inl x3), some (.inl t.1), some (.inl t.2.1), none] [] t.2.2 o M') (he0 : ∀ t : Int32 × Gm, out = .inr t → Wp w mdX12_tellFits (d + 5) 151 [some (.inr x0), some (.inl x1), some (.inl x2), some (.inl x3), some (.inl t.1), none, none] [] t.2 o M') : Wp w mdX12_tellFits (d + 5) 36 [some (.inr x0), some (.inl x1), some (.inl x2), some (.inl x3), some (.inl q.1), some (.inl q.2.1), none] [] q.2.2 o M' := by
  unfold X12_tellFits_B36 at h
  refine wp_iload dX12_tellFits_36 rfl ?_
  refine wp_bipush (v := 60) dX12_tellFits_38 (by decide) ?_
  refine wp_icmp_gt (tgt := 151) dX12_tellFits_40 (by decide) (fun hc_ => ?_) (fun hc_ => ?_)
  · replace h := ite_t hc_ h
    cases h
    exact wp_ls (lsS (lsS (lsS (lsS (lsS (lsN (lsN lsZ))))))) (he0 (q.1, q.2.2) rfl)
  · replace h := ite_f hc_ h
    refine wp_iload dX12_tellFits_43 rfl ?_
    refine wp_if_le (tgt := 52) dX12_tellFits_45 (by decide) (fun hc_ => ?_) (fun hc_ => ?_)
    · replace h := ite_t hc_ h
      exact wp_ls (lsS (lsS (lsS (lsS (lsS (lsS (lsN lsZ))))))) (X12_tellFits_J52_ok h hc he0)
    · replace h := ite_f hc_ h
      refine wp_aload_n dX12_tellFits_48 rfl ?_
      obtain ⟨q1, e2, h⟩ := bnd h
      refine wp_callV (As := []) dX12_tellFits_49 (sh_X12_minute_ok (d := d) e2) okX12_minute nnX12_minute vvX12_minute ml_RX12_351 rfl (Nat.le_of_ble_eq_true rfl) ?_
      exact wp_ls (lsS (lsS (lsS (lsS (lsS (lsS (lsN lsZ))))))) (X12_tellFits_J52_ok h hc he0)

theorem X12_tellFits_B36_lp {w : Gw} {d : Nat} {x0 : Nat} {x1 : Int32} {x2 : Int32} {x3 : Int32} {o : Go} {M' : Gm} {r : (Int32 × Gm)} : ∀ (n : Nat) (q : Int32 × Int32 × Gm), lp (X12_tellFits_B36 x0 x1 x2 x3) n q = some r → (∀ t : Int32 × Gm, r = t → Wp w mdX12_tellFits (d + 5) 151 [some (.inr x0), some (.inl x1), some (.inl x2), some (.inl x3), some (.inl t.1), none, none] [] t.2 o M') → Wp w mdX12_tellFits (d + 5) 36 [some (.inr x0), some (.inl x1), some (.inl x2), some (.inl x3), some (.inl q.1), some (.inl q.2.1), none] [] q.2.2 o M' := by
  intro n
  induction n with
  | zero => intro q h; cases h
  | succ n ih =>
    intro q h he0
    cases hb : X12_tellFits_B36 x0 x1 x2 x3 q with
    | none => rw [lp_succ, hb] at h; cases h
    | some out =>
      rw [lp_succ, hb] at h
      exact X12_tellFits_B36_ok hb (fun t e => ih t (by rw [e] at h; exact h) he0) (fun t e => he0 t (by rw [e] at h; cases h; rfl))
theorem X12_tellFits_B11_ok {w : Gw} {d : Nat} {x0 : Nat} {x1 : Int32} {x2 : Int32} {q : Int32 × Gm} {o : Go} {M' : Gm} {out : (Int32 × Gm) ⊕ Gm} (h : X12_tellFits_B11 x0 x1 x2 q = some out) (hc : ∀ t : Int32 × Gm, out = .inl t → Wp w mdX12_tellFits (d + 5) 11 [some (.inr x0), some (.inl x1), some (.inl x2), some (.inl t.1), none, none, none] [] t.2 o M') (he0 : ∀ t : Gm, out = .inr t → Wp w mdX12_tellFits (d + 5) 169 [some (.inr x0), some (.inl x1), some (.inl x2), none, none, none, none] [] t o M') : Wp w mdX12_tellFits (d + 5) 11 [some (.inr x0), some (.inl x1), some (.inl x2), some (.inl q.1), none, none, none] [] q.2 o M' := by
  unfold X12_tellFits_B11 at h
  refine wp_iload_n dX12_tellFits_11 rfl ?_
  refine wp_bipush (v := 50) dX12_tellFits_12 (by decide) ?_
  refine wp_icmp_gt (tgt := 169) dX12_tellFits_14 (by decide) (fun hc_ => ?_) (fun hc_ => ?_)
  · replace h := ite_t hc_ h
    cases h
    exact wp_ls (lsS (lsS (lsS (lsN (lsN (lsN (lsN lsZ))))))) (he0 q.2 rfl)
  · replace h := ite_f hc_ h
    refine wp_aload_n dX12_tellFits_17 rfl ?_
    obtain ⟨v1, e2, h⟩ := bnd h
    refine wp_getR (c := 12) (k := 6) dX12_tellFits_18 e2 (by decide) (by decide) rfl fl_RX12_62 ?_
    refine wp_iconst (v := 0) dX12_tellFits_21 (by decide) ?_
    refine wp_iload_n dX12_tellFits_22 rfl ?_
    refine wp_iadd dX12_tellFits_23 ?_
    refine wp_iload_n dX12_tellFits_24 rfl ?_
    obtain ⟨M3, e4, h⟩ := bnd h
    refine wp_iastore dX12_tellFits_25 e4 ?_
    refine wp_aload_n dX12_tellFits_26 rfl ?_
    obtain ⟨q5, e6, h⟩ := bnd h
    refine wp_callV (As := []) dX12_tellFits_27 (sh_X12_tries_ok (d := d + 3) e6) okX12_tries nnX12_tries vvX12_tries ml_RX12_342 rfl (Nat.le_of_ble_eq_true rfl) ?_
    refine wp_iconst (v := 1) dX12_tellFits_30 (by decide) ?_
    refine wp_istore dX12_tellFits_31 (Nat.le_of_ble_eq_true rfl) ?_
    refine wp_iconst (v := 0) dX12_tellFits_33 (by decide) ?_
    refine wp_istore dX12_tellFits_34 (Nat.le_of_ble_eq_true rfl) ?_
    obtain ⟨r7, e8, h⟩ := bnd h
    refine wp_ls (lsS (lsS (lsS (lsS (lsS (lsS (lsN lsZ))))))) (X12_tellFits_B36_lp FU _ e8 ?_)
    intro t_ ht_; cases ht_
    refine wp_aload_n dX12_tellFits_151 rfl ?_
    obtain ⟨v9, e10, h⟩ := bnd h
    refine wp_getR (c := 12) (k := 32) dX12_tellFits_152 e10 (by decide) (by decide) rfl fl_RX12_103 ?_
    refine wp_iload_n dX12_tellFits_155 rfl ?_
    refine wp_iload dX12_tellFits_156 rfl ?_
    obtain ⟨M11, e12, h⟩ := bnd h
    refine wp_zastore dX12_tellFits_158 e12 ?_
    refine wp_aload_n dX12_tellFits_159 rfl ?_
    obtain ⟨q13, e14, h⟩ := bnd h
    refine wp_callV (As := []) dX12_tellFits_160 (sh_X12_laysBack_ok (d := d + 3) e14) okX12_laysBack nnX12_laysBack vvX12_laysBack ml_RX12_359 rfl (Nat.le_of_ble_eq_true rfl) ?_
    refine wp_iinc (v := q.1 + 1) dX12_tellFits_163 rfl rfl ?_
    refine wp_goto (tgt := 11) dX12_tellFits_166 (by decide) ?_
    cases h
    exact wp_ls (lsS (lsS (lsS (lsS (lsN (lsN (lsN lsZ))))))) (hc (q.1 + 1, q13) rfl)

theorem X12_tellFits_B11_lp {w : Gw} {d : Nat} {x0 : Nat} {x1 : Int32} {x2 : Int32} {o : Go} {M' : Gm} {r : Gm} : ∀ (n : Nat) (q : Int32 × Gm), lp (X12_tellFits_B11 x0 x1 x2) n q = some r → (∀ t : Gm, r = t → Wp w mdX12_tellFits (d + 5) 169 [some (.inr x0), some (.inl x1), some (.inl x2), none, none, none, none] [] t o M') → Wp w mdX12_tellFits (d + 5) 11 [some (.inr x0), some (.inl x1), some (.inl x2), some (.inl q.1), none, none, none] [] q.2 o M' := by
  intro n
  induction n with
  | zero => intro q h; cases h
  | succ n ih =>
    intro q h he0
    cases hb : X12_tellFits_B11 x0 x1 x2 q with
    | none => rw [lp_succ, hb] at h; cases h
    | some out =>
      rw [lp_succ, hb] at h
      exact X12_tellFits_B11_ok hb (fun t e => ih t (by rw [e] at h; exact h) he0) (fun t e => he0 t (by rw [e] at h; cases h; rfl))
theorem X12_tellFits_F_ok {w : Gw} {d : Nat} {x0 : Nat} {x1 : Int32} {M : Gm} {out : Gm} (h : X12_tellFits_F x0 x1 M = some out) : Wp w mdX12_tellFits (d + 5) 0 [some (.inr x0), some (.inl x1), none, none, none, none, none] [] M (.inl none) out := by
  unfold X12_tellFits_F at h
  refine wp_aload_n dX12_tellFits_0 rfl ?_
  obtain ⟨v1, e2, h⟩ := bnd h
  refine wp_getR (c := 12) (k := 6) dX12_tellFits_1 e2 (by decide) (by decide) rfl fl_RX12_62 ?_
  refine wp_iconst (v := 0) dX12_tellFits_4 (by decide) ?_
  refine wp_iload_n dX12_tellFits_5 rfl ?_
  refine wp_iadd dX12_tellFits_6 ?_
  obtain ⟨v3, e4, h⟩ := bnd h
  refine wp_iaload dX12_tellFits_7 e4 ?_
  refine wp_istore_n dX12_tellFits_8 (Nat.le_of_ble_eq_true rfl) ?_
  refine wp_iconst (v := 1) dX12_tellFits_9 (by decide) ?_
  refine wp_istore_n dX12_tellFits_10 (Nat.le_of_ble_eq_true rfl) ?_
  obtain ⟨r5, e6, h⟩ := bnd h
  refine wp_ls (lsS (lsS (lsS (lsS (lsN (lsN (lsN lsZ))))))) (X12_tellFits_B11_lp FU _ e6 ?_)
  intro t_ ht_; cases ht_
  refine wp_aload_n dX12_tellFits_169 rfl ?_
  obtain ⟨v7, e8, h⟩ := bnd h
  refine wp_getR (c := 12) (k := 6) dX12_tellFits_170 e8 (by decide) (by decide) rfl fl_RX12_62 ?_
  refine wp_iconst (v := 0) dX12_tellFits_173 (by decide) ?_
  refine wp_iload_n dX12_tellFits_174 rfl ?_
  refine wp_iadd dX12_tellFits_175 ?_
  refine wp_iload_n dX12_tellFits_176 rfl ?_
  obtain ⟨M9, e10, h⟩ := bnd h
  refine wp_iastore dX12_tellFits_177 e10 ?_
  cases h
  exact wp_ret dX12_tellFits_178 rfl

theorem sh_X12_tellFits_ok {w : Gw} {d : Nat} {x0 : Nat} {x1 : Int32} {M : Gm} {out : Gm} (h : sh_X12_tellFits x0 x1 M = some out) : Ev w mdX12_tellFits (d + 5) [.inr x0, .inl x1] M (.inl none) out := by
  obtain ⟨u, e0, h⟩ := bnd h
  exact ev_of okX12_tellFits ⟨_, _, rfl, isO_of e0 (by decide), by decide⟩ (Nat.le_of_ble_eq_true rfl) (X12_tellFits_F_ok h)

/-! HeatGovernorModel.fits(II)I -/
def X12_fits_J22 (x0 : Nat) (M : Gm) : Option (Int32 × Gm) :=
  (sh_X12_fail x0 1 M).bind fun q1 =>
  some (q1.1, q1.2)
def X12_fits_J67 (x0 : Nat) (x2 : Int32) (x3 : Int32) (x4 : Int32) (x5 : Int32) (M : Gm) : Option ((Int32 × Int32 × Int32) ⊕ (Int32 × Int32)) :=
  some (.inl (x3, x4, x5 + (-1)))
def X12_fits_B42 (x0 : Nat) (x2 : Int32) (M : Gm) (q : Int32 × Int32 × Int32) : Option ((Int32 × Int32 × Int32) ⊕ (Int32 × Int32)) :=
  if q.2.2 ≤ 0 then
    some (.inr (q.1, q.2.1))
  else
    (gfR M x0 12 32).bind fun v1 =>
    (ldA M 2 v1 q.2.2).bind fun v3 =>
    if v3 = 0 then
      X12_fits_J67 x0 x2 q.1 q.2.1 q.2.2 M
    else
      X12_fits_J67 x0 x2 (q.1 + 1) q.2.2 q.2.2 M
def X12_fits_J83 (s0 : Int32) (M : Gm) : Option (Int32 × Gm) :=
  some (s0, M)
def X12_fits_F (x0 : Nat) (x1 : Int32) (x2 : Int32) (M : Gm) : Option (Int32 × Gm) :=
  (pfI M x0 12 4 0).bind fun M1 =>
  (sh_X12_isZone x0 x1 M1).bind fun q3 =>
  if q3 = 0 then
    X12_fits_J22 x0 M1
  else
    (sh_X12_isIn x2 0 1 M1).bind fun q5 =>
    if q5 = 0 then
      X12_fits_J22 x0 M1
    else
      (sh_X12_tellFits x0 x1 M1).bind fun q7 =>
      (lp (X12_fits_B42 x0 x2 q7) FU (0, (-1), 50)).bind fun r9 =>
      if x2 = 0 then
        X12_fits_J83 r9.1 q7
      else
        X12_fits_J83 r9.2 q7
def sh_X12_fits (x0 : Nat) (x1 : Int32) (x2 : Int32) (M : Gm) : Option (Int32 × Gm) := (isO M x0 12).bind fun _ => X12_fits_F x0 x1 x2 M
theorem X12_fits_J22_ok {w : Gw} {d : Nat} {x0 : Nat} {M : Gm} {out : Int32 × Gm} (h : X12_fits_J22 x0 M = some out) : Wp w mdX12_fits (d + 6) 22 [some (.inr x0), none, none, none, none, none] [] M (.inl (some (.inl out.1))) out.2 := by
  unfold X12_fits_J22 at h
  refine wp_aload_n dX12_fits_22 rfl ?_
  refine wp_iconst (v := 1) dX12_fits_23 (by decide) ?_
  obtain ⟨q1, e2, h⟩ := bnd h
  refine wp_callV (As := [.inl 1]) dX12_fits_24 (sh_X12_fail_ok (d := d + 5) e2) okX12_fail nnX12_fail vvX12_fail ml_RX12_245 rfl (Nat.le_of_ble_eq_true rfl) ?_
  cases h
  exact wp_iret dX12_fits_27 rfl

theorem X12_fits_J67_ok {w : Gw} {d : Nat} {x0 : Nat} {x2 : Int32} {x3 : Int32} {x4 : Int32} {x5 : Int32} {M : Gm} {o : Go} {M' : Gm} {out : (Int32 × Int32 × Int32) ⊕ (Int32 × Int32)} (h : X12_fits_J67 x0 x2 x3 x4 x5 M = some out) (hc : ∀ t : Int32 × Int32 × Int32, out = .inl t → Wp w mdX12_fits (d + 6) 42 [some (.inr x0), none, some (.inl x2), some (.inl t.1), some (.inl t.2.1), some (.inl t.2.2)] [] M o M') (he0 : ∀ t : Int32 × Int32, out = .inr t → Wp w mdX12_fits (d + 6) 73 [none, none, some (.inl x2), some (.inl t.1), some (.inl t.2), none] [] M o M') : Wp w mdX12_fits (d + 6) 67 [some (.inr x0), none, some (.inl x2), some (.inl x3), some (.inl x4), some (.inl x5)] [] M o M' := by
  unfold X12_fits_J67 at h
  refine wp_iinc (v := x5 + (-1)) dX12_fits_67 rfl rfl ?_
  refine wp_goto (tgt := 42) dX12_fits_70 (by decide) ?_
  cases h
  exact wp_ls (lsS (lsN (lsS (lsS (lsS (lsS lsZ)))))) (hc (x3, x4, x5 + (-1)) rfl)

theorem X12_fits_B42_ok {w : Gw} {d : Nat} {x0 : Nat} {x2 : Int32} {M : Gm} {q : Int32 × Int32 × Int32} {o : Go} {M' : Gm} {out : (Int32 × Int32 × Int32) ⊕ (Int32 × Int32)} (h : X12_fits_B42 x0 x2 M q = some out) (hc : ∀ t : Int32 × Int32 × Int32, out = .inl t → Wp w mdX12_fits (d + 6) 42 [some (.inr x0), none, some (.inl x2), some (.inl t.1), some (.inl t.2.1), some (.inl t.2.2)] [] M o M') (he0 : ∀ t : Int32 × Int32, out = .inr t → Wp w mdX12_fits (d + 6) 73 [none, none, some (.inl x2), some (.inl t.1), some (.inl t.2), none] [] M o M') : Wp w mdX12_fits (d + 6) 42 [some (.inr x0), none, some (.inl x2), some (.inl q.1), some (.inl q.2.1), some (.inl q.2.2)] [] M o M' := by
  unfold X12_fits_B42 at h
  refine wp_iload dX12_fits_42 rfl ?_
  refine wp_if_le (tgt := 73) dX12_fits_44 (by decide) (fun hc_ => ?_) (fun hc_ => ?_)
  · replace h := ite_t hc_ h
    cases h
    exact wp_ls (lsN (lsN (lsS (lsS (lsS (lsN lsZ)))))) (he0 (q.1, q.2.1) rfl)
  · replace h := ite_f hc_ h
    refine wp_aload_n dX12_fits_47 rfl ?_
    obtain ⟨v1, e2, h⟩ := bnd h
    refine wp_getR (c := 12) (k := 32) dX12_fits_48 e2 (by decide) (by decide) rfl fl_RX12_103 ?_
    refine wp_iload dX12_fits_51 rfl ?_
    obtain ⟨v3, e4, h⟩ := bnd h
    refine wp_zaload dX12_fits_53 e4 ?_
    refine wp_if_ne (tgt := 60) dX12_fits_54 (by decide) (fun hc_ => ?_) (fun hc_ => ?_)
    · replace h := ite_f hc_ h
      refine wp_iinc (v := q.1 + 1) dX12_fits_60 rfl rfl ?_
      refine wp_iload dX12_fits_63 rfl ?_
      refine wp_istore dX12_fits_65 (Nat.le_of_ble_eq_true rfl) ?_
      exact wp_ls (lsS (lsN (lsS (lsS (lsS (lsS lsZ)))))) (X12_fits_J67_ok h hc he0)
    · replace h := ite_t hc_ h
      refine wp_goto (tgt := 67) dX12_fits_57 (by decide) ?_
      exact wp_ls (lsS (lsN (lsS (lsS (lsS (lsS lsZ)))))) (X12_fits_J67_ok h hc he0)

theorem X12_fits_B42_lp {w : Gw} {d : Nat} {x0 : Nat} {x2 : Int32} {M : Gm} {o : Go} {M' : Gm} {r : (Int32 × Int32)} : ∀ (n : Nat) (q : Int32 × Int32 × Int32), lp (X12_fits_B42 x0 x2 M) n q = some r → (∀ t : Int32 × Int32, r = t → Wp w mdX12_fits (d + 6) 73 [none, none, some (.inl x2), some (.inl t.1), some (.inl t.2), none] [] M o M') → Wp w mdX12_fits (d + 6) 42 [some (.inr x0), none, some (.inl x2), some (.inl q.1), some (.inl q.2.1), some (.inl q.2.2)] [] M o M' := by
  intro n
  induction n with
  | zero => intro q h; cases h
  | succ n ih =>
    intro q h he0
    cases hb : X12_fits_B42 x0 x2 M q with
    | none => rw [lp_succ, hb] at h; cases h
    | some out =>
      rw [lp_succ, hb] at h
      exact X12_fits_B42_ok hb (fun t e => ih t (by rw [e] at h; exact h) he0) (fun t e => he0 t (by rw [e] at h; cases h; rfl))
theorem X12_fits_J83_ok {w : Gw} {d : Nat} {s0 : Int32} {M : Gm} {out : Int32 × Gm} (h : X12_fits_J83 s0 M = some out) : Wp w mdX12_fits (d + 6) 83 [none, none, none, none, none, none] [.inl s0] M (.inl (some (.inl out.1))) out.2 := by
  unfold X12_fits_J83 at h
  cases h
  exact wp_iret dX12_fits_83 rfl

theorem X12_fits_F_ok {w : Gw} {d : Nat} {x0 : Nat} {x1 : Int32} {x2 : Int32} {M : Gm} {out : Int32 × Gm} (h : X12_fits_F x0 x1 x2 M = some out) : Wp w mdX12_fits (d + 6) 0 [some (.inr x0), some (.inl x1), some (.inl x2), none, none, none] [] M (.inl (some (.inl out.1))) out.2 := by
  unfold X12_fits_F at h
  refine wp_aload_n dX12_fits_0 rfl ?_
  refine wp_iconst (v := 0) dX12_fits_1 (by decide) ?_
  obtain ⟨M1, e2, h⟩ := bnd h
  refine wp_putI (c := 12) (k := 4) dX12_fits_2 e2 (by decide) (by decide) rfl fl_RX12_131 (Or.inl rfl) ?_
  refine wp_aload_n dX12_fits_5 rfl ?_
  refine wp_iload_n dX12_fits_6 rfl ?_
  obtain ⟨q3, e4, h⟩ := bnd h
  refine wp_callV (As := [.inl x1]) dX12_fits_7 (sh_X12_isZone_ok (d := d + 4) e4) okX12_isZone nnX12_isZone vvX12_isZone ml_RX12_382 rfl (Nat.le_of_ble_eq_true rfl) ?_
  refine wp_if_eq (tgt := 22) dX12_fits_10 (by decide) (fun hc_ => ?_) (fun hc_ => ?_)
  · replace h := ite_t hc_ h
    exact wp_ls (lsS (lsN (lsN (lsN (lsN (lsN lsZ)))))) (X12_fits_J22_ok h)
  · replace h := ite_f hc_ h
    refine wp_iload_n dX12_fits_13 rfl ?_
    refine wp_iconst (v := 0) dX12_fits_14 (by decide) ?_
    refine wp_iconst (v := 1) dX12_fits_15 (by decide) ?_
    obtain ⟨q5, e6, h⟩ := bnd h
    refine wp_callS (As := [.inl x2, .inl 0, .inl 1]) dX12_fits_16 (sh_X12_isIn_ok (d := d + 5) e6) okX12_isIn nnX12_isIn ssX12_isIn ml_RX12_378 rfl (Nat.le_of_ble_eq_true rfl) ?_
    refine wp_if_ne (tgt := 28) dX12_fits_19 (by decide) (fun hc_ => ?_) (fun hc_ => ?_)
    · replace h := ite_f hc_ h
      refine wp_aload_n dX12_fits_28 rfl ?_
      refine wp_iload_n dX12_fits_29 rfl ?_
      obtain ⟨q7, e8, h⟩ := bnd h
      refine wp_callV (As := [.inl x1]) dX12_fits_30 (sh_X12_tellFits_ok (d := d) e8) okX12_tellFits nnX12_tellFits vvX12_tellFits ml_RX12_412 rfl (Nat.le_of_ble_eq_true rfl) ?_
      refine wp_iconst (v := 0) dX12_fits_33 (by decide) ?_
      refine wp_istore_n dX12_fits_34 (Nat.le_of_ble_eq_true rfl) ?_
      refine wp_iconst (v := (-1)) dX12_fits_35 (by decide) ?_
      refine wp_istore dX12_fits_36 (Nat.le_of_ble_eq_true rfl) ?_
      refine wp_bipush (v := 50) dX12_fits_38 (by decide) ?_
      refine wp_istore dX12_fits_40 (Nat.le_of_ble_eq_true rfl) ?_
      obtain ⟨r9, e10, h⟩ := bnd h
      refine wp_ls (lsS (lsN (lsS (lsS (lsS (lsS lsZ)))))) (X12_fits_B42_lp FU _ e10 ?_)
      intro t_ ht_; cases ht_
      refine wp_iload_n dX12_fits_73 rfl ?_
      refine wp_if_ne (tgt := 81) dX12_fits_74 (by decide) (fun hc_ => ?_) (fun hc_ => ?_)
      · replace h := ite_f hc_ h
        refine wp_iload dX12_fits_81 rfl ?_
        exact wp_ls (lsN (lsN (lsN (lsN (lsN (lsN lsZ)))))) (X12_fits_J83_ok h)
      · replace h := ite_t hc_ h
        refine wp_iload_n dX12_fits_77 rfl ?_
        refine wp_goto (tgt := 83) dX12_fits_78 (by decide) ?_
        exact wp_ls (lsN (lsN (lsN (lsN (lsN (lsN lsZ)))))) (X12_fits_J83_ok h)
    · replace h := ite_t hc_ h
      exact wp_ls (lsS (lsN (lsN (lsN (lsN (lsN lsZ)))))) (X12_fits_J22_ok h)

theorem sh_X12_fits_ok {w : Gw} {d : Nat} {x0 : Nat} {x1 : Int32} {x2 : Int32} {M : Gm} {out : Int32 × Gm} (h : sh_X12_fits x0 x1 x2 M = some out) : Ev w mdX12_fits (d + 6) [.inr x0, .inl x1, .inl x2] M (.inl (some (.inl out.1))) out.2 := by
  obtain ⟨u, e0, h⟩ := bnd h
  exact ev_of okX12_fits ⟨_, _, rfl, isO_of e0 (by decide), by decide⟩ (Nat.le_of_ble_eq_true rfl) (X12_fits_F_ok h)

/-! HeatGovernorModel.unlike(I)I -/
def X12_unlike_J73 (x0 : Nat) (x1 : Int32) (x2 : Int32) (x3 : Int32) (x5 : Int32) (s0 : Int32) (M : Gm) : Option ((Int32 × Int32) ⊕ Int32) :=
  some (.inl (s0, x5 + 1))
def X12_unlike_J68 (x0 : Nat) (x1 : Int32) (x2 : Int32) (x3 : Int32) (x5 : Int32) (M : Gm) : Option ((Int32 × Int32) ⊕ Int32) :=
  X12_unlike_J73 x0 x1 x2 x3 x5 1 M
def X12_unlike_B21 (x0 : Nat) (x1 : Int32) (x2 : Int32) (x3 : Int32) (M : Gm) (q : Int32 × Int32) : Option ((Int32 × Int32) ⊕ Int32) :=
  if x3 ≤ q.2 then
    some (.inr q.1)
  else
    if q.1 = 0 then
      some (.inr q.1)
    else
      (gfR M x0 12 32).bind fun v1 =>
      (ldA M 2 v1 q.2).bind fun v3 =>
      if v3 = 0 then
        X12_unlike_J68 x0 x1 x2 x3 q.2 M
      else
        (gfR M x0 12 33).bind fun v5 =>
        (ldA M 0 v5 ((21 * q.2) + x1)).bind fun v7 =>
        (gfR M x0 12 33).bind fun v9 =>
        (ldA M 0 v9 ((21 * x3) + x1)).bind fun v11 =>
        if v7 = v11 then
          X12_unlike_J73 x0 x1 x2 x3 q.2 0 M
        else
          X12_unlike_J68 x0 x1 x2 x3 q.2 M
def X12_unlike_J92 (x0 : Nat) (x1 : Int32) (x3 : Int32) (s0 : Int32) (s1 : Int32) (M : Gm) : Option ((Int32 × Int32) ⊕ Int32) :=
  some (.inl (s0 + s1, x3 + 1))
def X12_unlike_J81 (x0 : Nat) (x1 : Int32) (x2 : Int32) (x3 : Int32) (x4 : Int32) (M : Gm) : Option ((Int32 × Int32) ⊕ Int32) :=
  if x4 = 0 then
    X12_unlike_J92 x0 x1 x3 x2 0 M
  else
    X12_unlike_J92 x0 x1 x3 x2 1 M
def X12_unlike_B4 (x0 : Nat) (x1 : Int32) (M : Gm) (q : Int32 × Int32) : Option ((Int32 × Int32) ⊕ Int32) :=
  if 50 < q.2 then
    some (.inr q.1)
  else
    (gfR M x0 12 32).bind fun v1 =>
    (ldA M 2 v1 q.2).bind fun v3 =>
    (lp (X12_unlike_B21 x0 x1 q.1 q.2 M) FU (v3, 1)).bind fun r5 =>
    X12_unlike_J81 x0 x1 q.1 q.2 r5 M
def X12_unlike_F (x0 : Nat) (x1 : Int32) (M : Gm) : Option (Int32) :=
  (lp (X12_unlike_B4 x0 x1 M) FU (0, 1)).bind fun r1 =>
  some r1
def sh_X12_unlike (x0 : Nat) (x1 : Int32) (M : Gm) : Option (Int32) := (isO M x0 12).bind fun _ => X12_unlike_F x0 x1 M
theorem X12_unlike_J73_ok {w : Gw} {d : Nat} {x0 : Nat} {x1 : Int32} {x2 : Int32} {x3 : Int32} {x5 : Int32} {s0 : Int32} {M : Gm} {o : Go} {M' : Gm} {out : (Int32 × Int32) ⊕ Int32} (h : X12_unlike_J73 x0 x1 x2 x3 x5 s0 M = some out) (hc : ∀ t : Int32 × Int32, out = .inl t → Wp w mdX12_unlike d 21 [some (.inr x0), some (.inl x1), some (.inl x2), some (.inl x3), some (.inl t.1), some (.inl t.2)] [] M o M') (he0 : ∀ t : Int32, out = .inr t → Wp w mdX12_unlike d 81 [some (.inr x0), some (.inl x1), some (.inl x2), some (.inl x3), some (.inl t), none] [] M o M') : Wp w mdX12_unlike d 73 [some (.inr x0), some (.inl x1), some (.inl x2), some (.inl x3), none, some (.inl x5)] [.inl s0] M o M' := by
  unfold X12_unlike_J73 at h
  refine wp_istore dX12_unlike_73 (Nat.le_of_ble_eq_true rfl) ?_
  refine wp_iinc (v := x5 + 1) dX12_unlike_75 rfl rfl ?_
  refine wp_goto (tgt := 21) dX12_unlike_78 (by decide) ?_
  cases h
  exact wp_ls (lsS (lsS (lsS (lsS (lsS (lsS lsZ)))))) (hc (s0, x5 + 1) rfl)

theorem X12_unlike_J68_ok {w : Gw} {d : Nat} {x0 : Nat} {x1 : Int32} {x2 : Int32} {x3 : Int32} {x5 : Int32} {M : Gm} {o : Go} {M' : Gm} {out : (Int32 × Int32) ⊕ Int32} (h : X12_unlike_J68 x0 x1 x2 x3 x5 M = some out) (hc : ∀ t : Int32 × Int32, out = .inl t → Wp w mdX12_unlike d 21 [some (.inr x0), some (.inl x1), some (.inl x2), some (.inl x3), some (.inl t.1), some (.inl t.2)] [] M o M') (he0 : ∀ t : Int32, out = .inr t → Wp w mdX12_unlike d 81 [some (.inr x0), some (.inl x1), some (.inl x2), some (.inl x3), some (.inl t), none] [] M o M') : Wp w mdX12_unlike d 68 [some (.inr x0), some (.inl x1), some (.inl x2), some (.inl x3), none, some (.inl x5)] [] M o M' := by
  unfold X12_unlike_J68 at h
  refine wp_iconst (v := 1) dX12_unlike_68 (by decide) ?_
  refine wp_goto (tgt := 73) dX12_unlike_69 (by decide) ?_
  exact wp_ls (lsS (lsS (lsS (lsS (lsN (lsS lsZ)))))) (X12_unlike_J73_ok h hc he0)

theorem X12_unlike_B21_ok {w : Gw} {d : Nat} {x0 : Nat} {x1 : Int32} {x2 : Int32} {x3 : Int32} {M : Gm} {q : Int32 × Int32} {o : Go} {M' : Gm} {out : (Int32 × Int32) ⊕ Int32} (h : X12_unlike_B21 x0 x1 x2 x3 M q = some out) (hc : ∀ t : Int32 × Int32, out = .inl t → Wp w mdX12_unlike d 21 [some (.inr x0), some (.inl x1), some (.inl x2), some (.inl x3), some (.inl t.1), some (.inl t.2)] [] M o M') (he0 : ∀ t : Int32, out = .inr t → Wp w mdX12_unlike d 81 [some (.inr x0), some (.inl x1), some (.inl x2), some (.inl x3), some (.inl t), none] [] M o M') : Wp w mdX12_unlike d 21 [some (.inr x0), some (.inl x1), some (.inl x2), some (.inl x3), some (.inl q.1), some (.inl q.2)] [] M o M' := by
  unfold X12_unlike_B21 at h
  refine wp_iload dX12_unlike_21 rfl ?_
  refine wp_iload_n dX12_unlike_23 rfl ?_
  refine wp_icmp_ge (tgt := 81) dX12_unlike_24 (by decide) (fun hc_ => ?_) (fun hc_ => ?_)
  · replace h := ite_t hc_ h
    cases h
    exact wp_ls (lsS (lsS (lsS (lsS (lsS (lsN lsZ)))))) (he0 q.1 rfl)
  · replace h := ite_f hc_ h
    refine wp_iload dX12_unlike_27 rfl ?_
    refine wp_if_eq (tgt := 81) dX12_unlike_29 (by decide) (fun hc_ => ?_) (fun hc_ => ?_)
    · replace h := ite_t hc_ h
      cases h
      exact wp_ls (lsS (lsS (lsS (lsS (lsS (lsN lsZ)))))) (he0 q.1 rfl)
    · replace h := ite_f hc_ h
      refine wp_aload_n dX12_unlike_32 rfl ?_
      obtain ⟨v1, e2, h⟩ := bnd h
      refine wp_getR (c := 12) (k := 32) dX12_unlike_33 e2 (by decide) (by decide) rfl fl_RX12_103 ?_
      refine wp_iload dX12_unlike_36 rfl ?_
      obtain ⟨v3, e4, h⟩ := bnd h
      refine wp_zaload dX12_unlike_38 e4 ?_
      refine wp_if_eq (tgt := 68) dX12_unlike_39 (by decide) (fun hc_ => ?_) (fun hc_ => ?_)
      · replace h := ite_t hc_ h
        exact wp_ls (lsS (lsS (lsS (lsS (lsN (lsS lsZ)))))) (X12_unlike_J68_ok h hc he0)
      · replace h := ite_f hc_ h
        refine wp_aload_n dX12_unlike_42 rfl ?_
        obtain ⟨v5, e6, h⟩ := bnd h
        refine wp_getR (c := 12) (k := 33) dX12_unlike_43 e6 (by decide) (by decide) rfl fl_RX12_106 ?_
        refine wp_bipush (v := 21) dX12_unlike_46 (by decide) ?_
        refine wp_iload dX12_unlike_48 rfl ?_
        refine wp_imul dX12_unlike_50 ?_
        refine wp_iload_n dX12_unlike_51 rfl ?_
        refine wp_iadd dX12_unlike_52 ?_
        obtain ⟨v7, e8, h⟩ := bnd h
        refine wp_iaload dX12_unlike_53 e8 ?_
        refine wp_aload_n dX12_unlike_54 rfl ?_
        obtain ⟨v9, e10, h⟩ := bnd h
        refine wp_getR (c := 12) (k := 33) dX12_unlike_55 e10 (by decide) (by decide) rfl fl_RX12_106 ?_
        refine wp_bipush (v := 21) dX12_unlike_58 (by decide) ?_
        refine wp_iload_n dX12_unlike_60 rfl ?_
        refine wp_imul dX12_unlike_61 ?_
        refine wp_iload_n dX12_unlike_62 rfl ?_
        refine wp_iadd dX12_unlike_63 ?_
        obtain ⟨v11, e12, h⟩ := bnd h
        refine wp_iaload dX12_unlike_64 e12 ?_
        refine wp_icmp_eq (tgt := 72) dX12_unlike_65 (by decide) (fun hc_ => ?_) (fun hc_ => ?_)
        · replace h := ite_t hc_ h
          refine wp_iconst (v := 0) dX12_unlike_72 (by decide) ?_
          exact wp_ls (lsS (lsS (lsS (lsS (lsN (lsS lsZ)))))) (X12_unlike_J73_ok h hc he0)
        · replace h := ite_f hc_ h
          exact wp_ls (lsS (lsS (lsS (lsS (lsN (lsS lsZ)))))) (X12_unlike_J68_ok h hc he0)

theorem X12_unlike_B21_lp {w : Gw} {d : Nat} {x0 : Nat} {x1 : Int32} {x2 : Int32} {x3 : Int32} {M : Gm} {o : Go} {M' : Gm} {r : Int32} : ∀ (n : Nat) (q : Int32 × Int32), lp (X12_unlike_B21 x0 x1 x2 x3 M) n q = some r → (∀ t : Int32, r = t → Wp w mdX12_unlike d 81 [some (.inr x0), some (.inl x1), some (.inl x2), some (.inl x3), some (.inl t), none] [] M o M') → Wp w mdX12_unlike d 21 [some (.inr x0), some (.inl x1), some (.inl x2), some (.inl x3), some (.inl q.1), some (.inl q.2)] [] M o M' := by
  intro n
  induction n with
  | zero => intro q h; cases h
  | succ n ih =>
    intro q h he0
    cases hb : X12_unlike_B21 x0 x1 x2 x3 M q with
    | none => rw [lp_succ, hb] at h; cases h
    | some out =>
      rw [lp_succ, hb] at h
      exact X12_unlike_B21_ok hb (fun t e => ih t (by rw [e] at h; exact h) he0) (fun t e => he0 t (by rw [e] at h; cases h; rfl))
theorem X12_unlike_J92_ok {w : Gw} {d : Nat} {x0 : Nat} {x1 : Int32} {x3 : Int32} {s0 : Int32} {s1 : Int32} {M : Gm} {o : Go} {M' : Gm} {out : (Int32 × Int32) ⊕ Int32} (h : X12_unlike_J92 x0 x1 x3 s0 s1 M = some out) (hc : ∀ t : Int32 × Int32, out = .inl t → Wp w mdX12_unlike d 4 [some (.inr x0), some (.inl x1), some (.inl t.1), some (.inl t.2), none, none] [] M o M') (he0 : ∀ t : Int32, out = .inr t → Wp w mdX12_unlike d 100 [none, none, some (.inl t), none, none, none] [] M o M') : Wp w mdX12_unlike d 92 [some (.inr x0), some (.inl x1), none, some (.inl x3), none, none] [.inl s1, .inl s0] M o M' := by
  unfold X12_unlike_J92 at h
  refine wp_iadd dX12_unlike_92 ?_
  refine wp_istore_n dX12_unlike_93 (Nat.le_of_ble_eq_true rfl) ?_
  refine wp_iinc (v := x3 + 1) dX12_unlike_94 rfl rfl ?_
  refine wp_goto (tgt := 4) dX12_unlike_97 (by decide) ?_
  cases h
  exact wp_ls (lsS (lsS (lsS (lsS (lsN (lsN lsZ)))))) (hc (s0 + s1, x3 + 1) rfl)

theorem X12_unlike_J81_ok {w : Gw} {d : Nat} {x0 : Nat} {x1 : Int32} {x2 : Int32} {x3 : Int32} {x4 : Int32} {M : Gm} {o : Go} {M' : Gm} {out : (Int32 × Int32) ⊕ Int32} (h : X12_unlike_J81 x0 x1 x2 x3 x4 M = some out) (hc : ∀ t : Int32 × Int32, out = .inl t → Wp w mdX12_unlike d 4 [some (.inr x0), some (.inl x1), some (.inl t.1), some (.inl t.2), none, none] [] M o M') (he0 : ∀ t : Int32, out = .inr t → Wp w mdX12_unlike d 100 [none, none, some (.inl t), none, none, none] [] M o M') : Wp w mdX12_unlike d 81 [some (.inr x0), some (.inl x1), some (.inl x2), some (.inl x3), some (.inl x4), none] [] M o M' := by
  unfold X12_unlike_J81 at h
  refine wp_iload_n dX12_unlike_81 rfl ?_
  refine wp_iload dX12_unlike_82 rfl ?_
  refine wp_if_eq (tgt := 91) dX12_unlike_84 (by decide) (fun hc_ => ?_) (fun hc_ => ?_)
  · replace h := ite_t hc_ h
    refine wp_iconst (v := 0) dX12_unlike_91 (by decide) ?_
    exact wp_ls (lsS (lsS (lsN (lsS (lsN (lsN lsZ)))))) (X12_unlike_J92_ok h hc he0)
  · replace h := ite_f hc_ h
    refine wp_iconst (v := 1) dX12_unlike_87 (by decide) ?_
    refine wp_goto (tgt := 92) dX12_unlike_88 (by decide) ?_
    exact wp_ls (lsS (lsS (lsN (lsS (lsN (lsN lsZ)))))) (X12_unlike_J92_ok h hc he0)

theorem X12_unlike_B4_ok {w : Gw} {d : Nat} {x0 : Nat} {x1 : Int32} {M : Gm} {q : Int32 × Int32} {o : Go} {M' : Gm} {out : (Int32 × Int32) ⊕ Int32} (h : X12_unlike_B4 x0 x1 M q = some out) (hc : ∀ t : Int32 × Int32, out = .inl t → Wp w mdX12_unlike d 4 [some (.inr x0), some (.inl x1), some (.inl t.1), some (.inl t.2), none, none] [] M o M') (he0 : ∀ t : Int32, out = .inr t → Wp w mdX12_unlike d 100 [none, none, some (.inl t), none, none, none] [] M o M') : Wp w mdX12_unlike d 4 [some (.inr x0), some (.inl x1), some (.inl q.1), some (.inl q.2), none, none] [] M o M' := by
  unfold X12_unlike_B4 at h
  refine wp_iload_n dX12_unlike_4 rfl ?_
  refine wp_bipush (v := 50) dX12_unlike_5 (by decide) ?_
  refine wp_icmp_gt (tgt := 100) dX12_unlike_7 (by decide) (fun hc_ => ?_) (fun hc_ => ?_)
  · replace h := ite_t hc_ h
    cases h
    exact wp_ls (lsN (lsN (lsS (lsN (lsN (lsN lsZ)))))) (he0 q.1 rfl)
  · replace h := ite_f hc_ h
    refine wp_aload_n dX12_unlike_10 rfl ?_
    obtain ⟨v1, e2, h⟩ := bnd h
    refine wp_getR (c := 12) (k := 32) dX12_unlike_11 e2 (by decide) (by decide) rfl fl_RX12_103 ?_
    refine wp_iload_n dX12_unlike_14 rfl ?_
    obtain ⟨v3, e4, h⟩ := bnd h
    refine wp_zaload dX12_unlike_15 e4 ?_
    refine wp_istore dX12_unlike_16 (Nat.le_of_ble_eq_true rfl) ?_
    refine wp_iconst (v := 1) dX12_unlike_18 (by decide) ?_
    refine wp_istore dX12_unlike_19 (Nat.le_of_ble_eq_true rfl) ?_
    obtain ⟨r5, e6, h⟩ := bnd h
    refine wp_ls (lsS (lsS (lsS (lsS (lsS (lsS lsZ)))))) (X12_unlike_B21_lp FU _ e6 ?_)
    intro t_ ht_; cases ht_
    exact wp_ls (lsS (lsS (lsS (lsS (lsS (lsN lsZ)))))) (X12_unlike_J81_ok h hc he0)

theorem X12_unlike_B4_lp {w : Gw} {d : Nat} {x0 : Nat} {x1 : Int32} {M : Gm} {o : Go} {M' : Gm} {r : Int32} : ∀ (n : Nat) (q : Int32 × Int32), lp (X12_unlike_B4 x0 x1 M) n q = some r → (∀ t : Int32, r = t → Wp w mdX12_unlike d 100 [none, none, some (.inl t), none, none, none] [] M o M') → Wp w mdX12_unlike d 4 [some (.inr x0), some (.inl x1), some (.inl q.1), some (.inl q.2), none, none] [] M o M' := by
  intro n
  induction n with
  | zero => intro q h; cases h
  | succ n ih =>
    intro q h he0
    cases hb : X12_unlike_B4 x0 x1 M q with
    | none => rw [lp_succ, hb] at h; cases h
    | some out =>
      rw [lp_succ, hb] at h
      exact X12_unlike_B4_ok hb (fun t e => ih t (by rw [e] at h; exact h) he0) (fun t e => he0 t (by rw [e] at h; cases h; rfl))
theorem X12_unlike_F_ok {w : Gw} {d : Nat} {x0 : Nat} {x1 : Int32} {M : Gm} {out : Int32} (h : X12_unlike_F x0 x1 M = some out) : Wp w mdX12_unlike d 0 [some (.inr x0), some (.inl x1), none, none, none, none] [] M (.inl (some (.inl out))) M := by
  unfold X12_unlike_F at h
  refine wp_iconst (v := 0) dX12_unlike_0 (by decide) ?_
  refine wp_istore_n dX12_unlike_1 (Nat.le_of_ble_eq_true rfl) ?_
  refine wp_iconst (v := 1) dX12_unlike_2 (by decide) ?_
  refine wp_istore_n dX12_unlike_3 (Nat.le_of_ble_eq_true rfl) ?_
  obtain ⟨r1, e2, h⟩ := bnd h
  refine wp_ls (lsS (lsS (lsS (lsS (lsN (lsN lsZ)))))) (X12_unlike_B4_lp FU _ e2 ?_)
  intro t_ ht_; cases ht_
  refine wp_iload_n dX12_unlike_100 rfl ?_
  cases h
  exact wp_iret dX12_unlike_101 rfl

theorem sh_X12_unlike_ok {w : Gw} {d : Nat} {x0 : Nat} {x1 : Int32} {M : Gm} {out : Int32} (h : sh_X12_unlike x0 x1 M = some out) : Ev w mdX12_unlike d [.inr x0, .inl x1] M (.inl (some (.inl out))) M := by
  obtain ⟨u, e0, h⟩ := bnd h
  exact ev_of okX12_unlike ⟨_, _, rfl, isO_of e0 (by decide), by decide⟩ (Nat.le_of_ble_eq_true rfl) (X12_unlike_F_ok h)

/-! HeatGovernorModel.look(II)I -/
def X12_look_J22 (x0 : Nat) (M : Gm) : Option (Int32 × Gm) :=
  (sh_X12_fail x0 1 M).bind fun q1 =>
  some (q1.1, q1.2)
def X12_look_J73 (x0 : Nat) (x2 : Int32) (x3 : Int32) (x4 : Int32) (x5 : Int32) (M : Gm) : Option ((Int32 × Int32 × Int32) ⊕ (Int32 × Int32)) :=
  some (.inl (x3, x4, x5 + 1))
def X12_look_B41 (x0 : Nat) (x2 : Int32) (M : Gm) (q : Int32 × Int32 × Int32) : Option ((Int32 × Int32 × Int32) ⊕ (Int32 × Int32)) :=
  if 20 < q.2.2 then
    some (.inr (q.1, q.2.1))
  else
    (sh_X12_unlike x0 q.2.2 M).bind fun q1 =>
    if q.2.1 < q1 then
      X12_look_J73 x0 x2 q.2.2 q1 q.2.2 M
    else
      X12_look_J73 x0 x2 q.1 q.2.1 q.2.2 M
def X12_look_J89 (s0 : Int32) (M : Gm) : Option (Int32 × Gm) :=
  some (s0, M)
def X12_look_F (x0 : Nat) (x1 : Int32) (x2 : Int32) (M : Gm) : Option (Int32 × Gm) :=
  (pfI M x0 12 4 0).bind fun M1 =>
  (sh_X12_isZone x0 x1 M1).bind fun q3 =>
  if q3 = 0 then
    X12_look_J22 x0 M1
  else
    (sh_X12_isIn x2 0 1 M1).bind fun q5 =>
    if q5 = 0 then
      X12_look_J22 x0 M1
    else
      (sh_X12_tellFits x0 x1 M1).bind fun q7 =>
      (lp (X12_look_B41 x0 x2 q7) FU ((-1), 0, 0)).bind fun r9 =>
      if x2 = 0 then
        X12_look_J89 r9.1 q7
      else
        X12_look_J89 r9.2 q7
def sh_X12_look (x0 : Nat) (x1 : Int32) (x2 : Int32) (M : Gm) : Option (Int32 × Gm) := (isO M x0 12).bind fun _ => X12_look_F x0 x1 x2 M
theorem X12_look_J22_ok {w : Gw} {d : Nat} {x0 : Nat} {M : Gm} {out : Int32 × Gm} (h : X12_look_J22 x0 M = some out) : Wp w mdX12_look (d + 6) 22 [some (.inr x0), none, none, none, none, none, none] [] M (.inl (some (.inl out.1))) out.2 := by
  unfold X12_look_J22 at h
  refine wp_aload_n dX12_look_22 rfl ?_
  refine wp_iconst (v := 1) dX12_look_23 (by decide) ?_
  obtain ⟨q1, e2, h⟩ := bnd h
  refine wp_callV (As := [.inl 1]) dX12_look_24 (sh_X12_fail_ok (d := d + 5) e2) okX12_fail nnX12_fail vvX12_fail ml_RX12_245 rfl (Nat.le_of_ble_eq_true rfl) ?_
  cases h
  exact wp_iret dX12_look_27 rfl

theorem X12_look_J73_ok {w : Gw} {d : Nat} {x0 : Nat} {x2 : Int32} {x3 : Int32} {x4 : Int32} {x5 : Int32} {M : Gm} {o : Go} {M' : Gm} {out : (Int32 × Int32 × Int32) ⊕ (Int32 × Int32)} (h : X12_look_J73 x0 x2 x3 x4 x5 M = some out) (hc : ∀ t : Int32 × Int32 × Int32, out = .inl t → Wp w mdX12_look (d + 6) 41 [some (.inr x0), none, some (.inl x2), some (.inl t.1), some (.inl t.2.1), some (.inl t.2.2), none] [] M o M') (he0 : ∀ t : Int32 × Int32, out = .inr t → Wp w mdX12_look (d + 6) 79 [none, none, some (.inl x2), some (.inl t.1), some (.inl t.2), none, none] [] M o M') : Wp w mdX12_look (d + 6) 73 [some (.inr x0), none, some (.inl x2), some (.inl x3), some (.inl x4), some (.inl x5), none] [] M o M' := by
  unfold X12_look_J73 at h
  refine wp_iinc (v := x5 + 1) dX12_look_73 rfl rfl ?_
  refine wp_goto (tgt := 41) dX12_look_76 (by decide) ?_
  cases h
  exact wp_ls (lsS (lsN (lsS (lsS (lsS (lsS (lsN lsZ))))))) (hc (x3, x4, x5 + 1) rfl)

theorem X12_look_B41_ok {w : Gw} {d : Nat} {x0 : Nat} {x2 : Int32} {M : Gm} {q : Int32 × Int32 × Int32} {o : Go} {M' : Gm} {out : (Int32 × Int32 × Int32) ⊕ (Int32 × Int32)} (h : X12_look_B41 x0 x2 M q = some out) (hc : ∀ t : Int32 × Int32 × Int32, out = .inl t → Wp w mdX12_look (d + 6) 41 [some (.inr x0), none, some (.inl x2), some (.inl t.1), some (.inl t.2.1), some (.inl t.2.2), none] [] M o M') (he0 : ∀ t : Int32 × Int32, out = .inr t → Wp w mdX12_look (d + 6) 79 [none, none, some (.inl x2), some (.inl t.1), some (.inl t.2), none, none] [] M o M') : Wp w mdX12_look (d + 6) 41 [some (.inr x0), none, some (.inl x2), some (.inl q.1), some (.inl q.2.1), some (.inl q.2.2), none] [] M o M' := by
  unfold X12_look_B41 at h
  refine wp_iload dX12_look_41 rfl ?_
  refine wp_bipush (v := 20) dX12_look_43 (by decide) ?_
  refine wp_icmp_gt (tgt := 79) dX12_look_45 (by decide) (fun hc_ => ?_) (fun hc_ => ?_)
  · replace h := ite_t hc_ h
    cases h
    exact wp_ls (lsN (lsN (lsS (lsS (lsS (lsN (lsN lsZ))))))) (he0 (q.1, q.2.1) rfl)
  · replace h := ite_f hc_ h
    refine wp_aload_n dX12_look_48 rfl ?_
    refine wp_iload dX12_look_49 rfl ?_
    obtain ⟨q1, e2, h⟩ := bnd h
    refine wp_callV (As := [.inl q.2.2]) dX12_look_51 (sh_X12_unlike_ok (d := d + 5) e2) okX12_unlike nnX12_unlike vvX12_unlike ml_RX12_415 rfl (Nat.le_of_ble_eq_true rfl) ?_
    refine wp_istore dX12_look_54 (Nat.le_of_ble_eq_true rfl) ?_
    refine wp_iload dX12_look_56 rfl ?_
    refine wp_iload dX12_look_58 rfl ?_
    refine wp_icmp_gt (tgt := 66) dX12_look_60 (by decide) (fun hc_ => ?_) (fun hc_ => ?_)
    · replace h := ite_t hc_ h
      refine wp_iload dX12_look_66 rfl ?_
      refine wp_istore_n dX12_look_68 (Nat.le_of_ble_eq_true rfl) ?_
      refine wp_iload dX12_look_69 rfl ?_
      refine wp_istore dX12_look_71 (Nat.le_of_ble_eq_true rfl) ?_
      exact wp_ls (lsS (lsN (lsS (lsS (lsS (lsS (lsN lsZ))))))) (X12_look_J73_ok h hc he0)
    · replace h := ite_f hc_ h
      refine wp_goto (tgt := 73) dX12_look_63 (by decide) ?_
      exact wp_ls (lsS (lsN (lsS (lsS (lsS (lsS (lsN lsZ))))))) (X12_look_J73_ok h hc he0)

theorem X12_look_B41_lp {w : Gw} {d : Nat} {x0 : Nat} {x2 : Int32} {M : Gm} {o : Go} {M' : Gm} {r : (Int32 × Int32)} : ∀ (n : Nat) (q : Int32 × Int32 × Int32), lp (X12_look_B41 x0 x2 M) n q = some r → (∀ t : Int32 × Int32, r = t → Wp w mdX12_look (d + 6) 79 [none, none, some (.inl x2), some (.inl t.1), some (.inl t.2), none, none] [] M o M') → Wp w mdX12_look (d + 6) 41 [some (.inr x0), none, some (.inl x2), some (.inl q.1), some (.inl q.2.1), some (.inl q.2.2), none] [] M o M' := by
  intro n
  induction n with
  | zero => intro q h; cases h
  | succ n ih =>
    intro q h he0
    cases hb : X12_look_B41 x0 x2 M q with
    | none => rw [lp_succ, hb] at h; cases h
    | some out =>
      rw [lp_succ, hb] at h
      exact X12_look_B41_ok hb (fun t e => ih t (by rw [e] at h; exact h) he0) (fun t e => he0 t (by rw [e] at h; cases h; rfl))
theorem X12_look_J89_ok {w : Gw} {d : Nat} {s0 : Int32} {M : Gm} {out : Int32 × Gm} (h : X12_look_J89 s0 M = some out) : Wp w mdX12_look (d + 6) 89 [none, none, none, none, none, none, none] [.inl s0] M (.inl (some (.inl out.1))) out.2 := by
  unfold X12_look_J89 at h
  cases h
  exact wp_iret dX12_look_89 rfl

theorem X12_look_F_ok {w : Gw} {d : Nat} {x0 : Nat} {x1 : Int32} {x2 : Int32} {M : Gm} {out : Int32 × Gm} (h : X12_look_F x0 x1 x2 M = some out) : Wp w mdX12_look (d + 6) 0 [some (.inr x0), some (.inl x1), some (.inl x2), none, none, none, none] [] M (.inl (some (.inl out.1))) out.2 := by
  unfold X12_look_F at h
  refine wp_aload_n dX12_look_0 rfl ?_
  refine wp_iconst (v := 0) dX12_look_1 (by decide) ?_
  obtain ⟨M1, e2, h⟩ := bnd h
  refine wp_putI (c := 12) (k := 4) dX12_look_2 e2 (by decide) (by decide) rfl fl_RX12_131 (Or.inl rfl) ?_
  refine wp_aload_n dX12_look_5 rfl ?_
  refine wp_iload_n dX12_look_6 rfl ?_
  obtain ⟨q3, e4, h⟩ := bnd h
  refine wp_callV (As := [.inl x1]) dX12_look_7 (sh_X12_isZone_ok (d := d + 4) e4) okX12_isZone nnX12_isZone vvX12_isZone ml_RX12_382 rfl (Nat.le_of_ble_eq_true rfl) ?_
  refine wp_if_eq (tgt := 22) dX12_look_10 (by decide) (fun hc_ => ?_) (fun hc_ => ?_)
  · replace h := ite_t hc_ h
    exact wp_ls (lsS (lsN (lsN (lsN (lsN (lsN (lsN lsZ))))))) (X12_look_J22_ok h)
  · replace h := ite_f hc_ h
    refine wp_iload_n dX12_look_13 rfl ?_
    refine wp_iconst (v := 0) dX12_look_14 (by decide) ?_
    refine wp_iconst (v := 1) dX12_look_15 (by decide) ?_
    obtain ⟨q5, e6, h⟩ := bnd h
    refine wp_callS (As := [.inl x2, .inl 0, .inl 1]) dX12_look_16 (sh_X12_isIn_ok (d := d + 5) e6) okX12_isIn nnX12_isIn ssX12_isIn ml_RX12_378 rfl (Nat.le_of_ble_eq_true rfl) ?_
    refine wp_if_ne (tgt := 28) dX12_look_19 (by decide) (fun hc_ => ?_) (fun hc_ => ?_)
    · replace h := ite_f hc_ h
      refine wp_aload_n dX12_look_28 rfl ?_
      refine wp_iload_n dX12_look_29 rfl ?_
      obtain ⟨q7, e8, h⟩ := bnd h
      refine wp_callV (As := [.inl x1]) dX12_look_30 (sh_X12_tellFits_ok (d := d) e8) okX12_tellFits nnX12_tellFits vvX12_tellFits ml_RX12_412 rfl (Nat.le_of_ble_eq_true rfl) ?_
      refine wp_iconst (v := (-1)) dX12_look_33 (by decide) ?_
      refine wp_istore_n dX12_look_34 (Nat.le_of_ble_eq_true rfl) ?_
      refine wp_iconst (v := 0) dX12_look_35 (by decide) ?_
      refine wp_istore dX12_look_36 (Nat.le_of_ble_eq_true rfl) ?_
      refine wp_iconst (v := 0) dX12_look_38 (by decide) ?_
      refine wp_istore dX12_look_39 (Nat.le_of_ble_eq_true rfl) ?_
      obtain ⟨r9, e10, h⟩ := bnd h
      refine wp_ls (lsS (lsN (lsS (lsS (lsS (lsS (lsN lsZ))))))) (X12_look_B41_lp FU _ e10 ?_)
      intro t_ ht_; cases ht_
      refine wp_iload_n dX12_look_79 rfl ?_
      refine wp_if_ne (tgt := 87) dX12_look_80 (by decide) (fun hc_ => ?_) (fun hc_ => ?_)
      · replace h := ite_f hc_ h
        refine wp_iload dX12_look_87 rfl ?_
        exact wp_ls (lsN (lsN (lsN (lsN (lsN (lsN (lsN lsZ))))))) (X12_look_J89_ok h)
      · replace h := ite_t hc_ h
        refine wp_iload_n dX12_look_83 rfl ?_
        refine wp_goto (tgt := 89) dX12_look_84 (by decide) ?_
        exact wp_ls (lsN (lsN (lsN (lsN (lsN (lsN (lsN lsZ))))))) (X12_look_J89_ok h)
    · replace h := ite_t hc_ h
      exact wp_ls (lsS (lsN (lsN (lsN (lsN (lsN (lsN lsZ))))))) (X12_look_J22_ok h)

theorem sh_X12_look_ok {w : Gw} {d : Nat} {x0 : Nat} {x1 : Int32} {x2 : Int32} {M : Gm} {out : Int32 × Gm} (h : sh_X12_look x0 x1 x2 M = some out) : Ev w mdX12_look (d + 6) [.inr x0, .inl x1, .inl x2] M (.inl (some (.inl out.1))) out.2 := by
  obtain ⟨u, e0, h⟩ := bnd h
  exact ev_of okX12_look ⟨_, _, rfl, isO_of e0 (by decide), by decide⟩ (Nat.le_of_ble_eq_true rfl) (X12_look_F_ok h)

/-! HeatGovernorModel.draw(I)I -/
def X12_draw_F (x0 : Nat) (x1 : Int32) (M : Gm) : Option (Int32 × Gm) :=
  (gfI M x0 12 34).bind fun v1 =>
  (pfI M x0 12 34 ((v1 * 1103515245) + 12345)).bind fun M3 =>
  (gfI M3 x0 12 34).bind fun v5 =>
  (rmI ((v5 >>> (16 &&& 31)) &&& 32767) x1).bind fun v7 =>
  some (v7, M3)
def sh_X12_draw (x0 : Nat) (x1 : Int32) (M : Gm) : Option (Int32 × Gm) := (isO M x0 12).bind fun _ => X12_draw_F x0 x1 M
theorem X12_draw_F_ok {w : Gw} {d : Nat} {x0 : Nat} {x1 : Int32} {M : Gm} {out : Int32 × Gm} (h : X12_draw_F x0 x1 M = some out) : Wp w mdX12_draw d 0 [some (.inr x0), some (.inl x1)] [] M (.inl (some (.inl out.1))) out.2 := by
  unfold X12_draw_F at h
  refine wp_aload_n dX12_draw_0 rfl ?_
  refine wp_aload_n dX12_draw_1 rfl ?_
  obtain ⟨v1, e2, h⟩ := bnd h
  refine wp_getI (c := 12) (k := 34) dX12_draw_2 e2 (by decide) (by decide) rfl fl_RX12_418 ?_
  refine wp_ldc_w (v := 1103515245) dX12_draw_5 ct_RX12_421 ?_
  refine wp_imul dX12_draw_8 ?_
  refine wp_sipush (v := 12345) dX12_draw_9 (by decide) ?_
  refine wp_iadd dX12_draw_12 ?_
  obtain ⟨M3, e4, h⟩ := bnd h
  refine wp_putI (c := 12) (k := 34) dX12_draw_13 e4 (by decide) (by decide) rfl fl_RX12_418 (Or.inl rfl) ?_
  refine wp_aload_n dX12_draw_16 rfl ?_
  obtain ⟨v5, e6, h⟩ := bnd h
  refine wp_getI (c := 12) (k := 34) dX12_draw_17 e6 (by decide) (by decide) rfl fl_RX12_418 ?_
  refine wp_bipush (v := 16) dX12_draw_20 (by decide) ?_
  refine wp_ishr dX12_draw_22 ?_
  refine wp_sipush (v := 32767) dX12_draw_23 (by decide) ?_
  refine wp_iand dX12_draw_26 ?_
  refine wp_iload_n dX12_draw_27 rfl ?_
  obtain ⟨v7, e8, h⟩ := bnd h
  refine wp_irem dX12_draw_28 e8 ?_
  cases h
  exact wp_iret dX12_draw_29 rfl

theorem sh_X12_draw_ok {w : Gw} {d : Nat} {x0 : Nat} {x1 : Int32} {M : Gm} {out : Int32 × Gm} (h : sh_X12_draw x0 x1 M = some out) : Ev w mdX12_draw d [.inr x0, .inl x1] M (.inl (some (.inl out.1))) out.2 := by
  obtain ⟨u, e0, h⟩ := bnd h
  exact ev_of okX12_draw ⟨_, _, rfl, isO_of e0 (by decide), by decide⟩ (Nat.le_of_ble_eq_true rfl) (X12_draw_F_ok h)

/-! HeatGovernorModel.years(III)I -/
def X12_years_B104 (x0 : Nat) (x2 : Int32) (x3 : Int32) (x5 : Int32) (M : Gm) (q : Int32 × Int32) : Option ((Int32 × Int32) ⊕ Int32) :=
  (sh_X12_zones x0 M).bind fun q1 =>
  if q1 ≤ q.2 then
    some (.inr q.1)
  else
    (gfR M x0 12 5).bind fun v3 =>
    (ldA M 0 v3 (0 + q.2)).bind fun v5 =>
    (sh_J9_max_7cf53 q.1 v5 M).bind fun q7 =>
    some (.inl (q7, q.2 + 1))
def X12_years_J97 (x0 : Nat) (x2 : Int32) (x3 : Int32) (x4 : Int32) (x5 : Int32) (M : Gm) : Option ((Int32 × Int32 × Gm) ⊕ (Int32 × Gm)) :=
  (sh_X12_minute x0 M).bind fun q1 =>
  (lp (X12_years_B104 x0 x2 x3 x5 q1) FU (x4, 0)).bind fun r3 =>
  some (.inl (r3, x5 + 1, q1))
def X12_years_B51 (x0 : Nat) (x2 : Int32) (x3 : Int32) (q : Int32 × Int32 × Gm) : Option ((Int32 × Int32 × Gm) ⊕ (Int32 × Gm)) :=
  if x2 ≤ q.2.1 then
    some (.inr (q.1, q.2.2))
  else
    (sh_X12_draw x0 4 q.2.2).bind fun q1 =>
    if q1.1 = 0 then
      (sh_X12_zones x0 q1.2).bind fun q3 =>
      if q3 ≤ 0 then
        X12_years_J97 x0 x2 x3 q.1 q.2.1 q1.2
      else
        (sh_X12_zones x0 q1.2).bind fun q5 =>
        (sh_X12_draw x0 q5 q1.2).bind fun q7 =>
        (gfR q7.2 x0 12 5).bind fun v9 =>
        (sh_X12_draw x0 100 q7.2).bind fun q11 =>
        (stA q11.2 0 v9 (5 + q7.1) q11.1).bind fun M13 =>
        X12_years_J97 x0 x2 x3 q.1 q.2.1 M13
    else
      X12_years_J97 x0 x2 x3 q.1 q.2.1 q1.2
def X12_years_J179 (x0 : Nat) (s0 : Int32) (M : Gm) : Option (Int32 × Gm) :=
  (sh_X12_laysBack x0 M).bind fun q1 =>
  some (s0, q1)
def X12_years_F (x0 : Nat) (x1 : Int32) (x2 : Int32) (x3 : Int32) (M : Gm) : Option (Int32 × Gm) :=
  (pfI M x0 12 4 0).bind fun M1 =>
  (sh_X12_isIn x3 0 2 M1).bind fun q3 =>
  if q3 = 0 then
    (sh_X12_fail x0 1 M1).bind fun q25 =>
    some (q25.1, q25.2)
  else
    (sh_X12_isIn x2 0 60 M1).bind fun q5 =>
    if q5 = 0 then
      (sh_X12_fail x0 2 M1).bind fun q23 =>
      some (q23.1, q23.2)
    else
      (sh_X12_tries x0 M1).bind fun q7 =>
      (pfI q7 x0 12 34 x1).bind fun M9 =>
      (lp (X12_years_B51 x0 x2 x3) FU (0, 0, M9)).bind fun r11 =>
      if x3 = 0 then
        X12_years_J179 x0 r11.1 r11.2
      else
        if x3 = 1 then
          (sh_X12_shutSet x0 r11.2).bind fun q21 =>
          X12_years_J179 x0 q21 r11.2
        else
          (gfR r11.2 x0 12 5).bind fun v13 =>
          (ldA r11.2 0 v13 144).bind fun v15 =>
          (gfR r11.2 x0 12 24).bind fun v17 =>
          (ldA r11.2 0 v17 144).bind fun v19 =>
          X12_years_J179 x0 (v15 - v19) r11.2
def sh_X12_years (x0 : Nat) (x1 : Int32) (x2 : Int32) (x3 : Int32) (M : Gm) : Option (Int32 × Gm) := (isO M x0 12).bind fun _ => X12_years_F x0 x1 x2 x3 M
theorem X12_years_B104_ok {w : Gw} {d : Nat} {x0 : Nat} {x2 : Int32} {x3 : Int32} {x5 : Int32} {M : Gm} {q : Int32 × Int32} {o : Go} {M' : Gm} {out : (Int32 × Int32) ⊕ Int32} (h : X12_years_B104 x0 x2 x3 x5 M q = some out) (hc : ∀ t : Int32 × Int32, out = .inl t → Wp w mdX12_years (d + 5) 104 [some (.inr x0), none, some (.inl x2), some (.inl x3), some (.inl t.1), some (.inl x5), some (.inl t.2)] [] M o M') (he0 : ∀ t : Int32, out = .inr t → Wp w mdX12_years (d + 5) 135 [some (.inr x0), none, some (.inl x2), some (.inl x3), some (.inl t), some (.inl x5), none] [] M o M') : Wp w mdX12_years (d + 5) 104 [some (.inr x0), none, some (.inl x2), some (.inl x3), some (.inl q.1), some (.inl x5), some (.inl q.2)] [] M o M' := by
  unfold X12_years_B104 at h
  refine wp_iload dX12_years_104 rfl ?_
  refine wp_aload_n dX12_years_106 rfl ?_
  obtain ⟨q1, e2, h⟩ := bnd h
  refine wp_callV (As := []) dX12_years_107 (sh_X12_zones_ok (d := d + 4) e2) okX12_zones nnX12_zones vvX12_zones ml_RX12_266 rfl (Nat.le_of_ble_eq_true rfl) ?_
  refine wp_icmp_ge (tgt := 135) dX12_years_110 (by decide) (fun hc_ => ?_) (fun hc_ => ?_)
  · replace h := ite_t hc_ h
    cases h
    exact wp_ls (lsS (lsN (lsS (lsS (lsS (lsS (lsN lsZ))))))) (he0 q.1 rfl)
  · replace h := ite_f hc_ h
    refine wp_iload dX12_years_113 rfl ?_
    refine wp_aload_n dX12_years_115 rfl ?_
    obtain ⟨v3, e4, h⟩ := bnd h
    refine wp_getR (c := 12) (k := 5) dX12_years_116 e4 (by decide) (by decide) rfl fl_RX12_58 ?_
    refine wp_iconst (v := 0) dX12_years_119 (by decide) ?_
    refine wp_iload dX12_years_120 rfl ?_
    refine wp_iadd dX12_years_122 ?_
    obtain ⟨v5, e6, h⟩ := bnd h
    refine wp_iaload dX12_years_123 e6 ?_
    obtain ⟨q7, e8, h⟩ := bnd h
    refine wp_callS (As := [.inl q.1, .inl v5]) dX12_years_124 (sh_J9_max_7cf53_ok (d := d + 4) e8) okJ9_max_7cf53 nnJ9_max_7cf53 ssJ9_max_7cf53 ml_RX12_297 rfl (Nat.le_of_ble_eq_true rfl) ?_
    refine wp_istore dX12_years_127 (Nat.le_of_ble_eq_true rfl) ?_
    refine wp_iinc (v := q.2 + 1) dX12_years_129 rfl rfl ?_
    refine wp_goto (tgt := 104) dX12_years_132 (by decide) ?_
    cases h
    exact wp_ls (lsS (lsN (lsS (lsS (lsS (lsS (lsS lsZ))))))) (hc (q7, q.2 + 1) rfl)

theorem X12_years_B104_lp {w : Gw} {d : Nat} {x0 : Nat} {x2 : Int32} {x3 : Int32} {x5 : Int32} {M : Gm} {o : Go} {M' : Gm} {r : Int32} : ∀ (n : Nat) (q : Int32 × Int32), lp (X12_years_B104 x0 x2 x3 x5 M) n q = some r → (∀ t : Int32, r = t → Wp w mdX12_years (d + 5) 135 [some (.inr x0), none, some (.inl x2), some (.inl x3), some (.inl t), some (.inl x5), none] [] M o M') → Wp w mdX12_years (d + 5) 104 [some (.inr x0), none, some (.inl x2), some (.inl x3), some (.inl q.1), some (.inl x5), some (.inl q.2)] [] M o M' := by
  intro n
  induction n with
  | zero => intro q h; cases h
  | succ n ih =>
    intro q h he0
    cases hb : X12_years_B104 x0 x2 x3 x5 M q with
    | none => rw [lp_succ, hb] at h; cases h
    | some out =>
      rw [lp_succ, hb] at h
      exact X12_years_B104_ok hb (fun t e => ih t (by rw [e] at h; exact h) he0) (fun t e => he0 t (by rw [e] at h; cases h; rfl))
theorem X12_years_J97_ok {w : Gw} {d : Nat} {x0 : Nat} {x2 : Int32} {x3 : Int32} {x4 : Int32} {x5 : Int32} {M : Gm} {o : Go} {M' : Gm} {out : (Int32 × Int32 × Gm) ⊕ (Int32 × Gm)} (h : X12_years_J97 x0 x2 x3 x4 x5 M = some out) (hc : ∀ t : Int32 × Int32 × Gm, out = .inl t → Wp w mdX12_years (d + 5) 51 [some (.inr x0), none, some (.inl x2), some (.inl x3), some (.inl t.1), some (.inl t.2.1), none] [] t.2.2 o M') (he0 : ∀ t : Int32 × Gm, out = .inr t → Wp w mdX12_years (d + 5) 141 [some (.inr x0), none, none, some (.inl x3), some (.inl t.1), none, none] [] t.2 o M') : Wp w mdX12_years (d + 5) 97 [some (.inr x0), none, some (.inl x2), some (.inl x3), some (.inl x4), some (.inl x5), none] [] M o M' := by
  unfold X12_years_J97 at h
  refine wp_aload_n dX12_years_97 rfl ?_
  obtain ⟨q1, e2, h⟩ := bnd h
  refine wp_callV (As := []) dX12_years_98 (sh_X12_minute_ok (d := d) e2) okX12_minute nnX12_minute vvX12_minute ml_RX12_351 rfl (Nat.le_of_ble_eq_true rfl) ?_
  refine wp_iconst (v := 0) dX12_years_101 (by decide) ?_
  refine wp_istore dX12_years_102 (Nat.le_of_ble_eq_true rfl) ?_
  obtain ⟨r3, e4, h⟩ := bnd h
  refine wp_ls (lsS (lsN (lsS (lsS (lsS (lsS (lsS lsZ))))))) (X12_years_B104_lp FU _ e4 ?_)
  intro t_ ht_; cases ht_
  refine wp_iinc (v := x5 + 1) dX12_years_135 rfl rfl ?_
  refine wp_goto (tgt := 51) dX12_years_138 (by decide) ?_
  cases h
  exact wp_ls (lsS (lsN (lsS (lsS (lsS (lsS (lsN lsZ))))))) (hc (r3, x5 + 1, q1) rfl)

theorem X12_years_B51_ok {w : Gw} {d : Nat} {x0 : Nat} {x2 : Int32} {x3 : Int32} {q : Int32 × Int32 × Gm} {o : Go} {M' : Gm} {out : (Int32 × Int32 × Gm) ⊕ (Int32 × Gm)} (h : X12_years_B51 x0 x2 x3 q = some out) (hc : ∀ t : Int32 × Int32 × Gm, out = .inl t → Wp w mdX12_years (d + 5) 51 [some (.inr x0), none, some (.inl x2), some (.inl x3), some (.inl t.1), some (.inl t.2.1), none] [] t.2.2 o M') (he0 : ∀ t : Int32 × Gm, out = .inr t → Wp w mdX12_years (d + 5) 141 [some (.inr x0), none, none, some (.inl x3), some (.inl t.1), none, none] [] t.2 o M') : Wp w mdX12_years (d + 5) 51 [some (.inr x0), none, some (.inl x2), some (.inl x3), some (.inl q.1), some (.inl q.2.1), none] [] q.2.2 o M' := by
  unfold X12_years_B51 at h
  refine wp_iload dX12_years_51 rfl ?_
  refine wp_iload_n dX12_years_53 rfl ?_
  refine wp_icmp_ge (tgt := 141) dX12_years_54 (by decide) (fun hc_ => ?_) (fun hc_ => ?_)
  · replace h := ite_t hc_ h
    cases h
    exact wp_ls (lsS (lsN (lsN (lsS (lsS (lsN (lsN lsZ))))))) (he0 (q.1, q.2.2) rfl)
  · replace h := ite_f hc_ h
    refine wp_aload_n dX12_years_57 rfl ?_
    refine wp_iconst (v := 4) dX12_years_58 (by decide) ?_
    obtain ⟨q1, e2, h⟩ := bnd h
    refine wp_callV (As := [.inl 4]) dX12_years_59 (sh_X12_draw_ok (d := d + 4) e2) okX12_draw nnX12_draw vvX12_draw ml_RX12_422 rfl (Nat.le_of_ble_eq_true rfl) ?_
    refine wp_if_ne (tgt := 97) dX12_years_62 (by decide) (fun hc_ => ?_) (fun hc_ => ?_)
    · replace h := ite_f hc_ h
      exact wp_ls (lsS (lsN (lsS (lsS (lsS (lsS (lsN lsZ))))))) (X12_years_J97_ok h hc he0)
    · replace h := ite_t hc_ h
      refine wp_aload_n dX12_years_65 rfl ?_
      obtain ⟨q3, e4, h⟩ := bnd h
      refine wp_callV (As := []) dX12_years_66 (sh_X12_zones_ok (d := d + 4) e4) okX12_zones nnX12_zones vvX12_zones ml_RX12_266 rfl (Nat.le_of_ble_eq_true rfl) ?_
      refine wp_if_le (tgt := 97) dX12_years_69 (by decide) (fun hc_ => ?_) (fun hc_ => ?_)
      · replace h := ite_t hc_ h
        exact wp_ls (lsS (lsN (lsS (lsS (lsS (lsS (lsN lsZ))))))) (X12_years_J97_ok h hc he0)
      · replace h := ite_f hc_ h
        refine wp_aload_n dX12_years_72 rfl ?_
        refine wp_aload_n dX12_years_73 rfl ?_
        obtain ⟨q5, e6, h⟩ := bnd h
        refine wp_callV (As := []) dX12_years_74 (sh_X12_zones_ok (d := d + 4) e6) okX12_zones nnX12_zones vvX12_zones ml_RX12_266 rfl (Nat.le_of_ble_eq_true rfl) ?_
        obtain ⟨q7, e8, h⟩ := bnd h
        refine wp_callV (As := [.inl q5]) dX12_years_77 (sh_X12_draw_ok (d := d + 4) e8) okX12_draw nnX12_draw vvX12_draw ml_RX12_422 rfl (Nat.le_of_ble_eq_true rfl) ?_
        refine wp_istore dX12_years_80 (Nat.le_of_ble_eq_true rfl) ?_
        refine wp_aload_n dX12_years_82 rfl ?_
        obtain ⟨v9, e10, h⟩ := bnd h
        refine wp_getR (c := 12) (k := 5) dX12_years_83 e10 (by decide) (by decide) rfl fl_RX12_58 ?_
        refine wp_iconst (v := 5) dX12_years_86 (by decide) ?_
        refine wp_iload dX12_years_87 rfl ?_
        refine wp_iadd dX12_years_89 ?_
        refine wp_aload_n dX12_years_90 rfl ?_
        refine wp_bipush (v := 100) dX12_years_91 (by decide) ?_
        obtain ⟨q11, e12, h⟩ := bnd h
        refine wp_callV (As := [.inl 100]) dX12_years_93 (sh_X12_draw_ok (d := d + 4) e12) okX12_draw nnX12_draw vvX12_draw ml_RX12_422 rfl (Nat.le_of_ble_eq_true rfl) ?_
        obtain ⟨M13, e14, h⟩ := bnd h
        refine wp_iastore dX12_years_96 e14 ?_
        exact wp_ls (lsS (lsN (lsS (lsS (lsS (lsS (lsN lsZ))))))) (X12_years_J97_ok h hc he0)

theorem X12_years_B51_lp {w : Gw} {d : Nat} {x0 : Nat} {x2 : Int32} {x3 : Int32} {o : Go} {M' : Gm} {r : (Int32 × Gm)} : ∀ (n : Nat) (q : Int32 × Int32 × Gm), lp (X12_years_B51 x0 x2 x3) n q = some r → (∀ t : Int32 × Gm, r = t → Wp w mdX12_years (d + 5) 141 [some (.inr x0), none, none, some (.inl x3), some (.inl t.1), none, none] [] t.2 o M') → Wp w mdX12_years (d + 5) 51 [some (.inr x0), none, some (.inl x2), some (.inl x3), some (.inl q.1), some (.inl q.2.1), none] [] q.2.2 o M' := by
  intro n
  induction n with
  | zero => intro q h; cases h
  | succ n ih =>
    intro q h he0
    cases hb : X12_years_B51 x0 x2 x3 q with
    | none => rw [lp_succ, hb] at h; cases h
    | some out =>
      rw [lp_succ, hb] at h
      exact X12_years_B51_ok hb (fun t e => ih t (by rw [e] at h; exact h) he0) (fun t e => he0 t (by rw [e] at h; cases h; rfl))
theorem X12_years_J179_ok {w : Gw} {d : Nat} {x0 : Nat} {s0 : Int32} {M : Gm} {out : Int32 × Gm} (h : X12_years_J179 x0 s0 M = some out) : Wp w mdX12_years (d + 5) 179 [some (.inr x0), none, none, none, none, none, none] [.inl s0] M (.inl (some (.inl out.1))) out.2 := by
  unfold X12_years_J179 at h
  refine wp_istore dX12_years_179 (Nat.le_of_ble_eq_true rfl) ?_
  refine wp_aload_n dX12_years_181 rfl ?_
  obtain ⟨q1, e2, h⟩ := bnd h
  refine wp_callV (As := []) dX12_years_182 (sh_X12_laysBack_ok (d := d + 3) e2) okX12_laysBack nnX12_laysBack vvX12_laysBack ml_RX12_359 rfl (Nat.le_of_ble_eq_true rfl) ?_
  refine wp_iload dX12_years_185 rfl ?_
  cases h
  exact wp_iret dX12_years_187 rfl

theorem X12_years_F_ok {w : Gw} {d : Nat} {x0 : Nat} {x1 : Int32} {x2 : Int32} {x3 : Int32} {M : Gm} {out : Int32 × Gm} (h : X12_years_F x0 x1 x2 x3 M = some out) : Wp w mdX12_years (d + 5) 0 [some (.inr x0), some (.inl x1), some (.inl x2), some (.inl x3), none, none, none] [] M (.inl (some (.inl out.1))) out.2 := by
  unfold X12_years_F at h
  refine wp_aload_n dX12_years_0 rfl ?_
  refine wp_iconst (v := 0) dX12_years_1 (by decide) ?_
  obtain ⟨M1, e2, h⟩ := bnd h
  refine wp_putI (c := 12) (k := 4) dX12_years_2 e2 (by decide) (by decide) rfl fl_RX12_131 (Or.inl rfl) ?_
  refine wp_iload_n dX12_years_5 rfl ?_
  refine wp_iconst (v := 0) dX12_years_6 (by decide) ?_
  refine wp_iconst (v := 2) dX12_years_7 (by decide) ?_
  obtain ⟨q3, e4, h⟩ := bnd h
  refine wp_callS (As := [.inl x3, .inl 0, .inl 2]) dX12_years_8 (sh_X12_isIn_ok (d := d + 4) e4) okX12_isIn nnX12_isIn ssX12_isIn ml_RX12_378 rfl (Nat.le_of_ble_eq_true rfl) ?_
  refine wp_if_ne (tgt := 20) dX12_years_11 (by decide) (fun hc_ => ?_) (fun hc_ => ?_)
  · replace h := ite_f hc_ h
    refine wp_iload_n dX12_years_20 rfl ?_
    refine wp_iconst (v := 0) dX12_years_21 (by decide) ?_
    refine wp_bipush (v := 60) dX12_years_22 (by decide) ?_
    obtain ⟨q5, e6, h⟩ := bnd h
    refine wp_callS (As := [.inl x2, .inl 0, .inl 60]) dX12_years_24 (sh_X12_isIn_ok (d := d + 4) e6) okX12_isIn nnX12_isIn ssX12_isIn ml_RX12_378 rfl (Nat.le_of_ble_eq_true rfl) ?_
    refine wp_if_ne (tgt := 36) dX12_years_27 (by decide) (fun hc_ => ?_) (fun hc_ => ?_)
    · replace h := ite_f hc_ h
      refine wp_aload_n dX12_years_36 rfl ?_
      obtain ⟨q7, e8, h⟩ := bnd h
      refine wp_callV (As := []) dX12_years_37 (sh_X12_tries_ok (d := d + 3) e8) okX12_tries nnX12_tries vvX12_tries ml_RX12_342 rfl (Nat.le_of_ble_eq_true rfl) ?_
      refine wp_aload_n dX12_years_40 rfl ?_
      refine wp_iload_n dX12_years_41 rfl ?_
      obtain ⟨M9, e10, h⟩ := bnd h
      refine wp_putI (c := 12) (k := 34) dX12_years_42 e10 (by decide) (by decide) rfl fl_RX12_418 (Or.inl rfl) ?_
      refine wp_iconst (v := 0) dX12_years_45 (by decide) ?_
      refine wp_istore dX12_years_46 (Nat.le_of_ble_eq_true rfl) ?_
      refine wp_iconst (v := 0) dX12_years_48 (by decide) ?_
      refine wp_istore dX12_years_49 (Nat.le_of_ble_eq_true rfl) ?_
      obtain ⟨r11, e12, h⟩ := bnd h
      refine wp_ls (lsS (lsN (lsS (lsS (lsS (lsS (lsN lsZ))))))) (X12_years_B51_lp FU _ e12 ?_)
      intro t_ ht_; cases ht_
      refine wp_iload_n dX12_years_141 rfl ?_
      refine wp_if_ne (tgt := 150) dX12_years_142 (by decide) (fun hc_ => ?_) (fun hc_ => ?_)
      · replace h := ite_f hc_ h
        refine wp_iload_n dX12_years_150 rfl ?_
        refine wp_iconst (v := 1) dX12_years_151 (by decide) ?_
        refine wp_icmp_ne (tgt := 162) dX12_years_152 (by decide) (fun hc_ => ?_) (fun hc_ => ?_)
        · replace h := ite_f hc_ h
          refine wp_aload_n dX12_years_162 rfl ?_
          obtain ⟨v13, e14, h⟩ := bnd h
          refine wp_getR (c := 12) (k := 5) dX12_years_163 e14 (by decide) (by decide) rfl fl_RX12_58 ?_
          refine wp_sipush (v := 144) dX12_years_166 (by decide) ?_
          obtain ⟨v15, e16, h⟩ := bnd h
          refine wp_iaload dX12_years_169 e16 ?_
          refine wp_aload_n dX12_years_170 rfl ?_
          obtain ⟨v17, e18, h⟩ := bnd h
          refine wp_getR (c := 12) (k := 24) dX12_years_171 e18 (by decide) (by decide) rfl fl_RX12_88 ?_
          refine wp_sipush (v := 144) dX12_years_174 (by decide) ?_
          obtain ⟨v19, e20, h⟩ := bnd h
          refine wp_iaload dX12_years_177 e20 ?_
          refine wp_isub dX12_years_178 ?_
          exact wp_ls (lsS (lsN (lsN (lsN (lsN (lsN (lsN lsZ))))))) (X12_years_J179_ok h)
        · replace h := ite_t hc_ h
          refine wp_aload_n dX12_years_155 rfl ?_
          obtain ⟨q21, e22, h⟩ := bnd h
          refine wp_callV (As := []) dX12_years_156 (sh_X12_shutSet_ok (d := d + 3) e22) okX12_shutSet nnX12_shutSet vvX12_shutSet ml_RX12_345 rfl (Nat.le_of_ble_eq_true rfl) ?_
          refine wp_goto (tgt := 179) dX12_years_159 (by decide) ?_
          exact wp_ls (lsS (lsN (lsN (lsN (lsN (lsN (lsN lsZ))))))) (X12_years_J179_ok h)
      · replace h := ite_t hc_ h
        refine wp_iload dX12_years_145 rfl ?_
        refine wp_goto (tgt := 179) dX12_years_147 (by decide) ?_
        exact wp_ls (lsS (lsN (lsN (lsN (lsN (lsN (lsN lsZ))))))) (X12_years_J179_ok h)
    · replace h := ite_t hc_ h
      refine wp_aload_n dX12_years_30 rfl ?_
      refine wp_iconst (v := 2) dX12_years_31 (by decide) ?_
      obtain ⟨q23, e24, h⟩ := bnd h
      refine wp_callV (As := [.inl 2]) dX12_years_32 (sh_X12_fail_ok (d := d + 4) e24) okX12_fail nnX12_fail vvX12_fail ml_RX12_245 rfl (Nat.le_of_ble_eq_true rfl) ?_
      cases h
      exact wp_iret dX12_years_35 rfl
  · replace h := ite_t hc_ h
    refine wp_aload_n dX12_years_14 rfl ?_
    refine wp_iconst (v := 1) dX12_years_15 (by decide) ?_
    obtain ⟨q25, e26, h⟩ := bnd h
    refine wp_callV (As := [.inl 1]) dX12_years_16 (sh_X12_fail_ok (d := d + 4) e26) okX12_fail nnX12_fail vvX12_fail ml_RX12_245 rfl (Nat.le_of_ble_eq_true rfl) ?_
    cases h
    exact wp_iret dX12_years_19 rfl

theorem sh_X12_years_ok {w : Gw} {d : Nat} {x0 : Nat} {x1 : Int32} {x2 : Int32} {x3 : Int32} {M : Gm} {out : Int32 × Gm} (h : sh_X12_years x0 x1 x2 x3 M = some out) : Ev w mdX12_years (d + 5) [.inr x0, .inl x1, .inl x2, .inl x3] M (.inl (some (.inl out.1))) out.2 := by
  obtain ⟨u, e0, h⟩ := bnd h
  exact ev_of okX12_years ⟨_, _, rfl, isO_of e0 (by decide), by decide⟩ (Nat.le_of_ble_eq_true rfl) (X12_years_F_ok h)

/-! HeatGovernorModel.image()V -/
def X12_image_F (x0 : Nat) (M : Gm) : Option (Gm) :=
  (pfI M x0 12 4 0).bind fun M1 =>
  (pfZ M1 x0 12 35 1).bind fun M3 =>
  (gfI M3 x0 12 26).bind fun v5 =>
  (pfI M3 x0 12 36 v5).bind fun M7 =>
  (gfI M7 x0 12 28).bind fun v9 =>
  (pfI M7 x0 12 37 v9).bind fun M11 =>
  (gfR M11 x0 12 38).bind fun v13 =>
  (gfR M11 x0 12 5).bind fun v15 =>
  (sh_X12_copyTo v13 v15 M11).bind fun q17 =>
  (gfR q17 x0 12 39).bind fun v19 =>
  (gfR q17 x0 12 27).bind fun v21 =>
  (sh_X12_copyTo v19 v21 q17).bind fun q23 =>
  (gfR q23 x0 12 40).bind fun v25 =>
  (gfR q23 x0 12 29).bind fun v27 =>
  (sh_X12_copyTo v25 v27 q23).bind fun q29 =>
  (gfR q29 x0 12 41).bind fun v31 =>
  (gfR q29 x0 12 30).bind fun v33 =>
  (sh_X12_copyTo v31 v33 q29).bind fun q35 =>
  (gfR q35 x0 12 42).bind fun v37 =>
  (gfR q35 x0 12 31).bind fun v39 =>
  (sh_X12_copyTo v37 v39 q35).bind fun q41 =>
  (gfR q41 x0 12 43).bind fun v43 =>
  (gfR q41 x0 12 9).bind fun v45 =>
  (sh_X12_copyTo v43 v45 q41).bind fun q47 =>
  some q47
def sh_X12_image (x0 : Nat) (M : Gm) : Option (Gm) := (isO M x0 12).bind fun _ => X12_image_F x0 M
theorem X12_image_F_ok {w : Gw} {d : Nat} {x0 : Nat} {M : Gm} {out : Gm} (h : X12_image_F x0 M = some out) : Wp w mdX12_image (d + 1) 0 [some (.inr x0)] [] M (.inl none) out := by
  unfold X12_image_F at h
  refine wp_aload_n dX12_image_0 rfl ?_
  refine wp_iconst (v := 0) dX12_image_1 (by decide) ?_
  obtain ⟨M1, e2, h⟩ := bnd h
  refine wp_putI (c := 12) (k := 4) dX12_image_2 e2 (by decide) (by decide) rfl fl_RX12_131 (Or.inl rfl) ?_
  refine wp_aload_n dX12_image_5 rfl ?_
  refine wp_iconst (v := 1) dX12_image_6 (by decide) ?_
  obtain ⟨M3, e4, h⟩ := bnd h
  refine wp_putZ (c := 12) (k := 35) dX12_image_7 e4 (by decide) (by decide) rfl fl_RX12_260 (Or.inl rfl) ?_
  refine wp_aload_n dX12_image_10 rfl ?_
  refine wp_aload_n dX12_image_11 rfl ?_
  obtain ⟨v5, e6, h⟩ := bnd h
  refine wp_getI (c := 12) (k := 26) dX12_image_12 e6 (by decide) (by decide) rfl fl_RX12_254 ?_
  obtain ⟨M7, e8, h⟩ := bnd h
  refine wp_putI (c := 12) (k := 36) dX12_image_15 e8 (by decide) (by decide) rfl fl_RX12_425 (Or.inl rfl) ?_
  refine wp_aload_n dX12_image_18 rfl ?_
  refine wp_aload_n dX12_image_19 rfl ?_
  obtain ⟨v9, e10, h⟩ := bnd h
  refine wp_getI (c := 12) (k := 28) dX12_image_20 e10 (by decide) (by decide) rfl fl_RX12_257 ?_
  obtain ⟨M11, e12, h⟩ := bnd h
  refine wp_putI (c := 12) (k := 37) dX12_image_23 e12 (by decide) (by decide) rfl fl_RX12_428 (Or.inl rfl) ?_
  refine wp_aload_n dX12_image_26 rfl ?_
  obtain ⟨v13, e14, h⟩ := bnd h
  refine wp_getR (c := 12) (k := 38) dX12_image_27 e14 (by decide) (by decide) rfl fl_RX12_109 ?_
  refine wp_aload_n dX12_image_30 rfl ?_
  obtain ⟨v15, e16, h⟩ := bnd h
  refine wp_getR (c := 12) (k := 5) dX12_image_31 e16 (by decide) (by decide) rfl fl_RX12_58 ?_
  obtain ⟨q17, e18, h⟩ := bnd h
  refine wp_callS (As := [.inr v13, .inr v15]) dX12_image_34 (sh_X12_copyTo_ok (d := d) e18) okX12_copyTo nnX12_copyTo ssX12_copyTo ml_RX12_251 rfl (Nat.le_of_ble_eq_true rfl) ?_
  refine wp_aload_n dX12_image_37 rfl ?_
  obtain ⟨v19, e20, h⟩ := bnd h
  refine wp_getR (c := 12) (k := 39) dX12_image_38 e20 (by decide) (by decide) rfl fl_RX12_112 ?_
  refine wp_aload_n dX12_image_41 rfl ?_
  obtain ⟨v21, e22, h⟩ := bnd h
  refine wp_getR (c := 12) (k := 27) dX12_image_42 e22 (by decide) (by decide) rfl fl_RX12_91 ?_
  obtain ⟨q23, e24, h⟩ := bnd h
  refine wp_callS (As := [.inr v19, .inr v21]) dX12_image_45 (sh_X12_copyTo_ok (d := d) e24) okX12_copyTo nnX12_copyTo ssX12_copyTo ml_RX12_251 rfl (Nat.le_of_ble_eq_true rfl) ?_
  refine wp_aload_n dX12_image_48 rfl ?_
  obtain ⟨v25, e26, h⟩ := bnd h
  refine wp_getR (c := 12) (k := 40) dX12_image_49 e26 (by decide) (by decide) rfl fl_RX12_115 ?_
  refine wp_aload_n dX12_image_52 rfl ?_
  obtain ⟨v27, e28, h⟩ := bnd h
  refine wp_getR (c := 12) (k := 29) dX12_image_53 e28 (by decide) (by decide) rfl fl_RX12_94 ?_
  obtain ⟨q29, e30, h⟩ := bnd h
  refine wp_callS (As := [.inr v25, .inr v27]) dX12_image_56 (sh_X12_copyTo_ok (d := d) e30) okX12_copyTo nnX12_copyTo ssX12_copyTo ml_RX12_251 rfl (Nat.le_of_ble_eq_true rfl) ?_
  refine wp_aload_n dX12_image_59 rfl ?_
  obtain ⟨v31, e32, h⟩ := bnd h
  refine wp_getR (c := 12) (k := 41) dX12_image_60 e32 (by decide) (by decide) rfl fl_RX12_118 ?_
  refine wp_aload_n dX12_image_63 rfl ?_
  obtain ⟨v33, e34, h⟩ := bnd h
  refine wp_getR (c := 12) (k := 30) dX12_image_64 e34 (by decide) (by decide) rfl fl_RX12_97 ?_
  obtain ⟨q35, e36, h⟩ := bnd h
  refine wp_callS (As := [.inr v31, .inr v33]) dX12_image_67 (sh_X12_copyTo_ok (d := d) e36) okX12_copyTo nnX12_copyTo ssX12_copyTo ml_RX12_251 rfl (Nat.le_of_ble_eq_true rfl) ?_
  refine wp_aload_n dX12_image_70 rfl ?_
  obtain ⟨v37, e38, h⟩ := bnd h
  refine wp_getR (c := 12) (k := 42) dX12_image_71 e38 (by decide) (by decide) rfl fl_RX12_121 ?_
  refine wp_aload_n dX12_image_74 rfl ?_
  obtain ⟨v39, e40, h⟩ := bnd h
  refine wp_getR (c := 12) (k := 31) dX12_image_75 e40 (by decide) (by decide) rfl fl_RX12_100 ?_
  obtain ⟨q41, e42, h⟩ := bnd h
  refine wp_callS (As := [.inr v37, .inr v39]) dX12_image_78 (sh_X12_copyTo_ok (d := d) e42) okX12_copyTo nnX12_copyTo ssX12_copyTo ml_RX12_251 rfl (Nat.le_of_ble_eq_true rfl) ?_
  refine wp_aload_n dX12_image_81 rfl ?_
  obtain ⟨v43, e44, h⟩ := bnd h
  refine wp_getR (c := 12) (k := 43) dX12_image_82 e44 (by decide) (by decide) rfl fl_RX12_124 ?_
  refine wp_aload_n dX12_image_85 rfl ?_
  obtain ⟨v45, e46, h⟩ := bnd h
  refine wp_getR (c := 12) (k := 9) dX12_image_86 e46 (by decide) (by decide) rfl fl_RX12_71 ?_
  obtain ⟨q47, e48, h⟩ := bnd h
  refine wp_callS (As := [.inr v43, .inr v45]) dX12_image_89 (sh_X12_copyTo_ok (d := d) e48) okX12_copyTo nnX12_copyTo ssX12_copyTo ml_RX12_251 rfl (Nat.le_of_ble_eq_true rfl) ?_
  cases h
  exact wp_ret dX12_image_92 rfl

theorem sh_X12_image_ok {w : Gw} {d : Nat} {x0 : Nat} {M : Gm} {out : Gm} (h : sh_X12_image x0 M = some out) : Ev w mdX12_image (d + 1) [.inr x0] M (.inl none) out := by
  obtain ⟨u, e0, h⟩ := bnd h
  exact ev_of okX12_image ⟨_, _, rfl, isO_of e0 (by decide), by decide⟩ (Nat.le_of_ble_eq_true rfl) (X12_image_F_ok h)

/-! HeatGovernorModel.restore()Z -/
def X12_restore_F (x0 : Nat) (M : Gm) : Option (Int32 × Gm) :=
  (pfI M x0 12 4 0).bind fun M1 =>
  (gfI M1 x0 12 35).bind fun v3 =>
  if v3 = 0 then
    (zck 0).bind fun z51 =>
    some (z51, M1)
  else
    (gfI M1 x0 12 36).bind fun v5 =>
    (pfI M1 x0 12 26 v5).bind fun M7 =>
    (gfI M7 x0 12 37).bind fun v9 =>
    (pfI M7 x0 12 28 v9).bind fun M11 =>
    (gfR M11 x0 12 5).bind fun v13 =>
    (gfR M11 x0 12 38).bind fun v15 =>
    (sh_X12_copyTo v13 v15 M11).bind fun q17 =>
    (gfR q17 x0 12 27).bind fun v19 =>
    (gfR q17 x0 12 39).bind fun v21 =>
    (sh_X12_copyTo v19 v21 q17).bind fun q23 =>
    (gfR q23 x0 12 29).bind fun v25 =>
    (gfR q23 x0 12 40).bind fun v27 =>
    (sh_X12_copyTo v25 v27 q23).bind fun q29 =>
    (gfR q29 x0 12 30).bind fun v31 =>
    (gfR q29 x0 12 41).bind fun v33 =>
    (sh_X12_copyTo v31 v33 q29).bind fun q35 =>
    (gfR q35 x0 12 31).bind fun v37 =>
    (gfR q35 x0 12 42).bind fun v39 =>
    (sh_X12_copyTo v37 v39 q35).bind fun q41 =>
    (gfR q41 x0 12 9).bind fun v43 =>
    (gfR q41 x0 12 43).bind fun v45 =>
    (sh_X12_copyTo v43 v45 q41).bind fun q47 =>
    (zck 1).bind fun z49 =>
    some (z49, q47)
def sh_X12_restore (x0 : Nat) (M : Gm) : Option (Int32 × Gm) := (isO M x0 12).bind fun _ => X12_restore_F x0 M
theorem X12_restore_F_ok {w : Gw} {d : Nat} {x0 : Nat} {M : Gm} {out : Int32 × Gm} (h : X12_restore_F x0 M = some out) : Wp w mdX12_restore (d + 1) 0 [some (.inr x0)] [] M (.inl (some (.inl out.1))) out.2 := by
  unfold X12_restore_F at h
  refine wp_aload_n dX12_restore_0 rfl ?_
  refine wp_iconst (v := 0) dX12_restore_1 (by decide) ?_
  obtain ⟨M1, e2, h⟩ := bnd h
  refine wp_putI (c := 12) (k := 4) dX12_restore_2 e2 (by decide) (by decide) rfl fl_RX12_131 (Or.inl rfl) ?_
  refine wp_aload_n dX12_restore_5 rfl ?_
  obtain ⟨v3, e4, h⟩ := bnd h
  refine wp_getI (c := 12) (k := 35) dX12_restore_6 e4 (by decide) (by decide) rfl fl_RX12_260 ?_
  refine wp_if_ne (tgt := 14) dX12_restore_9 (by decide) (fun hc_ => ?_) (fun hc_ => ?_)
  · replace h := ite_f hc_ h
    refine wp_aload_n dX12_restore_14 rfl ?_
    refine wp_aload_n dX12_restore_15 rfl ?_
    obtain ⟨v5, e6, h⟩ := bnd h
    refine wp_getI (c := 12) (k := 36) dX12_restore_16 e6 (by decide) (by decide) rfl fl_RX12_425 ?_
    obtain ⟨M7, e8, h⟩ := bnd h
    refine wp_putI (c := 12) (k := 26) dX12_restore_19 e8 (by decide) (by decide) rfl fl_RX12_254 (Or.inl rfl) ?_
    refine wp_aload_n dX12_restore_22 rfl ?_
    refine wp_aload_n dX12_restore_23 rfl ?_
    obtain ⟨v9, e10, h⟩ := bnd h
    refine wp_getI (c := 12) (k := 37) dX12_restore_24 e10 (by decide) (by decide) rfl fl_RX12_428 ?_
    obtain ⟨M11, e12, h⟩ := bnd h
    refine wp_putI (c := 12) (k := 28) dX12_restore_27 e12 (by decide) (by decide) rfl fl_RX12_257 (Or.inl rfl) ?_
    refine wp_aload_n dX12_restore_30 rfl ?_
    obtain ⟨v13, e14, h⟩ := bnd h
    refine wp_getR (c := 12) (k := 5) dX12_restore_31 e14 (by decide) (by decide) rfl fl_RX12_58 ?_
    refine wp_aload_n dX12_restore_34 rfl ?_
    obtain ⟨v15, e16, h⟩ := bnd h
    refine wp_getR (c := 12) (k := 38) dX12_restore_35 e16 (by decide) (by decide) rfl fl_RX12_109 ?_
    obtain ⟨q17, e18, h⟩ := bnd h
    refine wp_callS (As := [.inr v13, .inr v15]) dX12_restore_38 (sh_X12_copyTo_ok (d := d) e18) okX12_copyTo nnX12_copyTo ssX12_copyTo ml_RX12_251 rfl (Nat.le_of_ble_eq_true rfl) ?_
    refine wp_aload_n dX12_restore_41 rfl ?_
    obtain ⟨v19, e20, h⟩ := bnd h
    refine wp_getR (c := 12) (k := 27) dX12_restore_42 e20 (by decide) (by decide) rfl fl_RX12_91 ?_
    refine wp_aload_n dX12_restore_45 rfl ?_
    obtain ⟨v21, e22, h⟩ := bnd h
    refine wp_getR (c := 12) (k := 39) dX12_restore_46 e22 (by decide) (by decide) rfl fl_RX12_112 ?_
    obtain ⟨q23, e24, h⟩ := bnd h
    refine wp_callS (As := [.inr v19, .inr v21]) dX12_restore_49 (sh_X12_copyTo_ok (d := d) e24) okX12_copyTo nnX12_copyTo ssX12_copyTo ml_RX12_251 rfl (Nat.le_of_ble_eq_true rfl) ?_
    refine wp_aload_n dX12_restore_52 rfl ?_
    obtain ⟨v25, e26, h⟩ := bnd h
    refine wp_getR (c := 12) (k := 29) dX12_restore_53 e26 (by decide) (by decide) rfl fl_RX12_94 ?_
    refine wp_aload_n dX12_restore_56 rfl ?_
    obtain ⟨v27, e28, h⟩ := bnd h
    refine wp_getR (c := 12) (k := 40) dX12_restore_57 e28 (by decide) (by decide) rfl fl_RX12_115 ?_
    obtain ⟨q29, e30, h⟩ := bnd h
    refine wp_callS (As := [.inr v25, .inr v27]) dX12_restore_60 (sh_X12_copyTo_ok (d := d) e30) okX12_copyTo nnX12_copyTo ssX12_copyTo ml_RX12_251 rfl (Nat.le_of_ble_eq_true rfl) ?_
    refine wp_aload_n dX12_restore_63 rfl ?_
    obtain ⟨v31, e32, h⟩ := bnd h
    refine wp_getR (c := 12) (k := 30) dX12_restore_64 e32 (by decide) (by decide) rfl fl_RX12_97 ?_
    refine wp_aload_n dX12_restore_67 rfl ?_
    obtain ⟨v33, e34, h⟩ := bnd h
    refine wp_getR (c := 12) (k := 41) dX12_restore_68 e34 (by decide) (by decide) rfl fl_RX12_118 ?_
    obtain ⟨q35, e36, h⟩ := bnd h
    refine wp_callS (As := [.inr v31, .inr v33]) dX12_restore_71 (sh_X12_copyTo_ok (d := d) e36) okX12_copyTo nnX12_copyTo ssX12_copyTo ml_RX12_251 rfl (Nat.le_of_ble_eq_true rfl) ?_
    refine wp_aload_n dX12_restore_74 rfl ?_
    obtain ⟨v37, e38, h⟩ := bnd h
    refine wp_getR (c := 12) (k := 31) dX12_restore_75 e38 (by decide) (by decide) rfl fl_RX12_100 ?_
    refine wp_aload_n dX12_restore_78 rfl ?_
    obtain ⟨v39, e40, h⟩ := bnd h
    refine wp_getR (c := 12) (k := 42) dX12_restore_79 e40 (by decide) (by decide) rfl fl_RX12_121 ?_
    obtain ⟨q41, e42, h⟩ := bnd h
    refine wp_callS (As := [.inr v37, .inr v39]) dX12_restore_82 (sh_X12_copyTo_ok (d := d) e42) okX12_copyTo nnX12_copyTo ssX12_copyTo ml_RX12_251 rfl (Nat.le_of_ble_eq_true rfl) ?_
    refine wp_aload_n dX12_restore_85 rfl ?_
    obtain ⟨v43, e44, h⟩ := bnd h
    refine wp_getR (c := 12) (k := 9) dX12_restore_86 e44 (by decide) (by decide) rfl fl_RX12_71 ?_
    refine wp_aload_n dX12_restore_89 rfl ?_
    obtain ⟨v45, e46, h⟩ := bnd h
    refine wp_getR (c := 12) (k := 43) dX12_restore_90 e46 (by decide) (by decide) rfl fl_RX12_124 ?_
    obtain ⟨q47, e48, h⟩ := bnd h
    refine wp_callS (As := [.inr v43, .inr v45]) dX12_restore_93 (sh_X12_copyTo_ok (d := d) e48) okX12_copyTo nnX12_copyTo ssX12_copyTo ml_RX12_251 rfl (Nat.le_of_ble_eq_true rfl) ?_
    refine wp_iconst (v := 1) dX12_restore_96 (by decide) ?_
    obtain ⟨z49, e50, h⟩ := bnd h
    obtain ⟨hz_, rfl⟩ := zck_of e50
    cases h
    exact wp_zret dX12_restore_97 rfl hz_
  · replace h := ite_t hc_ h
    refine wp_iconst (v := 0) dX12_restore_12 (by decide) ?_
    obtain ⟨z51, e52, h⟩ := bnd h
    obtain ⟨hz_, rfl⟩ := zck_of e52
    cases h
    exact wp_zret dX12_restore_13 rfl hz_

theorem sh_X12_restore_ok {w : Gw} {d : Nat} {x0 : Nat} {M : Gm} {out : Int32 × Gm} (h : sh_X12_restore x0 M = some out) : Ev w mdX12_restore (d + 1) [.inr x0] M (.inl (some (.inl out.1))) out.2 := by
  obtain ⟨u, e0, h⟩ := bnd h
  exact ev_of okX12_restore ⟨_, _, rfl, isO_of e0 (by decide), by decide⟩ (Nat.le_of_ble_eq_true rfl) (X12_restore_F_ok h)
