/-! HeatGovernor$State.logCell(II)I -/
def X7_logCell_F (x0 : Nat) (x1 : Int32) (x2 : Int32) (M : Gm) : Option (Int32) :=
  (gfI M x0 7 17).bind fun v1 =>
  (sh_J9_floorMod_7cf53 ((v1 - 1) - x1) 40 M).bind fun q3 =>
  (gfR M x0 7 16).bind fun v5 =>
  (ldA M 0 v5 ((q3 * 4) + x2)).bind fun v7 =>
  some v7
def sh_X7_logCell (x0 : Nat) (x1 : Int32) (x2 : Int32) (M : Gm) : Option (Int32) := (isO M x0 7).bind fun _ => X7_logCell_F x0 x1 x2 M
theorem X7_logCell_F_ok {w : Gw} {d : Nat} {x0 : Nat} {x1 : Int32} {x2 : Int32} {M : Gm} {out : Int32} (h : X7_logCell_F x0 x1 x2 M = some out) : Wp w mdX7_logCell (d + 1) 0 [some (.inr x0), some (.inl x1), some (.inl x2), none] [] M (.inl (some (.inl out))) M := by
  unfold X7_logCell_F at h
  refine wp_aload_n dX7_logCell_0 rfl ?_
  obtain ⟨v1, e2, h⟩ := bnd h
  refine wp_getI (c := 7) (k := 17) dX7_logCell_1 e2 (by decide) (by decide) rfl fl_RX7_61 ?_
  refine wp_iconst (v := 1) dX7_logCell_4 (by decide) ?_
  refine wp_isub dX7_logCell_5 ?_
  refine wp_iload_n dX7_logCell_6 rfl ?_
  refine wp_isub dX7_logCell_7 ?_
  refine wp_bipush (v := 40) dX7_logCell_8 (by decide) ?_
  obtain ⟨q3, e4, h⟩ := bnd h
  refine wp_callS (As := [.inl ((v1 - 1) - x1), .inl 40]) dX7_logCell_10 (sh_J9_floorMod_7cf53_ok (d := d) e4) okJ9_floorMod_7cf53 nnJ9_floorMod_7cf53 ssJ9_floorMod_7cf53 ml_RX7_181 rfl (Nat.le_of_ble_eq_true rfl) ?_
  refine wp_istore_n dX7_logCell_13 (Nat.le_of_ble_eq_true rfl) ?_
  refine wp_aload_n dX7_logCell_14 rfl ?_
  obtain ⟨v5, e6, h⟩ := bnd h
  refine wp_getR (c := 7) (k := 16) dX7_logCell_15 e6 (by decide) (by decide) rfl fl_RX7_58 ?_
  refine wp_iload_n dX7_logCell_18 rfl ?_
  refine wp_iconst (v := 4) dX7_logCell_19 (by decide) ?_
  refine wp_imul dX7_logCell_20 ?_
  refine wp_iload_n dX7_logCell_21 rfl ?_
  refine wp_iadd dX7_logCell_22 ?_
  obtain ⟨v7, e8, h⟩ := bnd h
  refine wp_iaload dX7_logCell_23 e8 ?_
  cases h
  exact wp_iret dX7_logCell_24 rfl

theorem sh_X7_logCell_ok {w : Gw} {d : Nat} {x0 : Nat} {x1 : Int32} {x2 : Int32} {M : Gm} {out : Int32} (h : sh_X7_logCell x0 x1 x2 M = some out) : Ev w mdX7_logCell (d + 1) [.inr x0, .inl x1, .inl x2] M (.inl (some (.inl out))) M := by
  obtain ⟨u, e0, h⟩ := bnd h
  exact ev_of okX7_logCell ⟨_, _, rfl, isO_of e0 (by decide), by decide⟩ (Nat.le_of_ble_eq_true rfl) (X7_logCell_F_ok h)

/-! HeatGovernor.log(II)I -/
def X11_log_J25 (M : Gm) : Option (Int32 ⊕ (Nat × Gm)) :=
  some (.inr (1, nwM M (13, 0)))
def X11_log_F (x0 : Nat) (x1 : Int32) (x2 : Int32) (M : Gm) : Option (Int32 ⊕ (Nat × Gm)) :=
  (sh_X11_needWhat x2 3 M).bind fun q1 =>
  Sum.elim (fun u3 =>
    (gfR M x0 11 6).bind fun v5 =>
    (gfR M v5 4 0).bind fun v7 =>
    if x1 < 0 then
      X11_log_J25 M
    else
      (gfI M v7 7 18).bind fun v9 =>
      if x1 < v9 then
        (sh_X7_logCell v7 x1 x2 M).bind fun q11 =>
        some (.inl q11)
      else
        X11_log_J25 M) (fun u4 =>
      some (.inr u4)) q1
def sh_X11_log (x0 : Nat) (x1 : Int32) (x2 : Int32) (M : Gm) : Option (Int32 ⊕ (Nat × Gm)) := (isO M x0 11).bind fun _ => X11_log_F x0 x1 x2 M
theorem X11_log_J25_ok {w : Gw} {d : Nat} {M : Gm} {out : Int32 ⊕ (Nat × Gm)} (h : X11_log_J25 M = some out) : Wp w mdX11_log (d + 7) 25 [none, none, none, none] [] M (xoI out) (xmI M out) := by
  unfold X11_log_J25 at h
  cases h
  exact wp_throwNW (tx := "no such row") (sid := 23) rfl rfl dX11_log_25 dX11_log_28 dX11_log_29 dX11_log_32 dX11_log_35 cl_RX11_151 ini_NSE (by decide +kernel) (Nat.le_of_ble_eq_true rfl) (by omega)

theorem X11_log_F_ok {w : Gw} {d : Nat} {x0 : Nat} {x1 : Int32} {x2 : Int32} {M : Gm} {out : Int32 ⊕ (Nat × Gm)} (h : X11_log_F x0 x1 x2 M = some out) : Wp w mdX11_log (d + 7) 0 [some (.inr x0), some (.inl x1), some (.inl x2), none] [] M (xoI out) (xmI M out) := by
  unfold X11_log_F at h
  refine wp_iload_n dX11_log_0 rfl ?_
  refine wp_iconst (v := 3) dX11_log_1 (by decide) ?_
  obtain ⟨q1, e2, h⟩ := bnd h
  cases q1 with
  | inl u3 =>
    replace h := elim_l h
    refine wp_callS (As := [.inl x2, .inl 3]) dX11_log_2 (sh_X11_needWhat_ok (d := d) e2) okX11_needWhat nnX11_needWhat ssX11_needWhat ml_RX11_264 rfl (Nat.le_of_ble_eq_true rfl) ?_
    refine wp_aload_n dX11_log_5 rfl ?_
    obtain ⟨v5, e6, h⟩ := bnd h
    refine wp_getR (c := 11) (k := 6) dX11_log_6 e6 (by decide) (by decide) rfl fl_RX11_44 ?_
    obtain ⟨v7, e8, h⟩ := bnd h
    refine wp_getR (c := 4) (k := 0) dX11_log_9 e8 (by decide) (by decide) rfl fl_RX11_96 ?_
    refine wp_astore_n dX11_log_12 (Nat.le_of_ble_eq_true rfl) ?_
    refine wp_iload_n dX11_log_13 rfl ?_
    refine wp_if_lt (tgt := 25) dX11_log_14 (by decide) (fun hc_ => ?_) (fun hc_ => ?_)
    · replace h := ite_t hc_ h
      exact wp_ls (lsN (lsN (lsN (lsN lsZ)))) (X11_log_J25_ok h)
    · replace h := ite_f hc_ h
      refine wp_iload_n dX11_log_17 rfl ?_
      refine wp_aload_n dX11_log_18 rfl ?_
      obtain ⟨v9, e10, h⟩ := bnd h
      refine wp_getI (c := 7) (k := 18) dX11_log_19 e10 (by decide) (by decide) rfl fl_RX11_142 ?_
      refine wp_icmp_lt (tgt := 36) dX11_log_22 (by decide) (fun hc_ => ?_) (fun hc_ => ?_)
      · replace h := ite_t hc_ h
        refine wp_aload_n dX11_log_36 rfl ?_
        refine wp_iload_n dX11_log_37 rfl ?_
        refine wp_iload_n dX11_log_38 rfl ?_
        obtain ⟨q11, e12, h⟩ := bnd h
        refine wp_callV (As := [.inl x1, .inl x2]) dX11_log_39 (sh_X7_logCell_ok (d := d + 5) e12) okX7_logCell nnX7_logCell vvX7_logCell ml_RX11_286 rfl (Nat.le_of_ble_eq_true rfl) ?_
        cases h
        exact wp_iret dX11_log_42 rfl
      · replace h := ite_f hc_ h
        exact wp_ls (lsN (lsN (lsN (lsN lsZ)))) (X11_log_J25_ok h)
  | inr u4 =>
    replace h := elim_r h
    cases h
    exact wp_callSx (As := [.inl x2, .inl 3]) dX11_log_2 (sh_X11_needWhat_ok (d := d) e2) okX11_needWhat nnX11_needWhat ssX11_needWhat ml_RX11_264 rfl (Nat.le_of_ble_eq_true rfl) rfl

theorem sh_X11_log_ok {w : Gw} {d : Nat} {x0 : Nat} {x1 : Int32} {x2 : Int32} {M : Gm} {out : Int32 ⊕ (Nat × Gm)} (h : sh_X11_log x0 x1 x2 M = some out) : Ev w mdX11_log (d + 7) [.inr x0, .inl x1, .inl x2] M (xoI out) (xmI M out) := by
  obtain ⟨u, e0, h⟩ := bnd h
  exact ev_of okX11_log ⟨_, _, rfl, isO_of e0 (by decide), by decide⟩ (Nat.le_of_ble_eq_true rfl) (X11_log_F_ok h)

/-! HeatGovernor.needMinutes(III)V -/
def X11_needMinutes_J10 (M : Gm) : Option (Unit ⊕ (Nat × Gm)) :=
  some (.inr (2, nwM M (14, 0)))
def X11_needMinutes_F (x0 : Int32) (x1 : Int32) (x2 : Int32) (M : Gm) : Option (Unit ⊕ (Nat × Gm)) :=
  if x0 < x1 then
    X11_needMinutes_J10 M
  else
    if x0 ≤ x2 then
      some (.inl ())
    else
      X11_needMinutes_J10 M
def sh_X11_needMinutes (x0 : Int32) (x1 : Int32) (x2 : Int32) (M : Gm) : Option (Unit ⊕ (Nat × Gm)) := X11_needMinutes_F x0 x1 x2 M
theorem X11_needMinutes_J10_ok {w : Gw} {d : Nat} {M : Gm} {out : Unit ⊕ (Nat × Gm)} (h : X11_needMinutes_J10 M = some out) : Wp w mdX11_needMinutes (d + 6) 10 [none, none, none] [] M (xoV out) (xmV M out) := by
  unfold X11_needMinutes_J10 at h
  cases h
  exact wp_throwSW (tx := "not so many minutes") (sid := 24) ⟨rfl, rfl, rfl⟩ rfl rfl dX11_needMinutes_10 dX11_needMinutes_13 dX11_needMinutes_14 dX11_needMinutes_17 dX11_needMinutes_20 cl_RX11_75 ini_IAE (by decide +kernel) (Nat.le_of_ble_eq_true rfl) (by omega)

theorem X11_needMinutes_F_ok {w : Gw} {d : Nat} {x0 : Int32} {x1 : Int32} {x2 : Int32} {M : Gm} {out : Unit ⊕ (Nat × Gm)} (h : X11_needMinutes_F x0 x1 x2 M = some out) : Wp w mdX11_needMinutes (d + 6) 0 [some (.inl x0), some (.inl x1), some (.inl x2)] [] M (xoV out) (xmV M out) := by
  unfold X11_needMinutes_F at h
  refine wp_iload_n dX11_needMinutes_0 rfl ?_
  refine wp_iload_n dX11_needMinutes_1 rfl ?_
  refine wp_icmp_lt (tgt := 10) dX11_needMinutes_2 (by decide) (fun hc_ => ?_) (fun hc_ => ?_)
  · replace h := ite_t hc_ h
    exact wp_ls (lsN (lsN (lsN lsZ))) (X11_needMinutes_J10_ok h)
  · replace h := ite_f hc_ h
    refine wp_iload_n dX11_needMinutes_5 rfl ?_
    refine wp_iload_n dX11_needMinutes_6 rfl ?_
    refine wp_icmp_le (tgt := 21) dX11_needMinutes_7 (by decide) (fun hc_ => ?_) (fun hc_ => ?_)
    · replace h := ite_t hc_ h
      cases h
      exact wp_ret dX11_needMinutes_21 rfl
    · replace h := ite_f hc_ h
      exact wp_ls (lsN (lsN (lsN lsZ))) (X11_needMinutes_J10_ok h)

theorem sh_X11_needMinutes_ok {w : Gw} {d : Nat} {x0 : Int32} {x1 : Int32} {x2 : Int32} {M : Gm} {out : Unit ⊕ (Nat × Gm)} (h : sh_X11_needMinutes x0 x1 x2 M = some out) : Ev w mdX11_needMinutes (d + 6) [.inl x0, .inl x1, .inl x2] M (xoV out) (xmV M out) := ev_of okX11_needMinutes trivial (Nat.le_of_ble_eq_true rfl) (X11_needMinutes_F_ok h)

/-! HeatGovernor$Foresight.stateAhead(LHeatGovernor$State;I)LHeatGovernor$State; -/
def X3_stateAhead_B10 (x0 : Nat) (x2 : Int32) (q : Int32 × Gm) : Option ((Int32 × Gm) ⊕ Gm) :=
  if x2 ≤ q.1 then
    some (.inr q.2)
  else
    (gfR q.2 x0 3 5).bind fun v1 =>
    (gfR q.2 x0 3 0).bind fun v3 =>
    (sh_X1_passMinute v1 v3 q.2).bind fun q5 =>
    some (.inl (q.1 + 1, q5))
def X3_stateAhead_F (x0 : Nat) (x1 : Nat) (x2 : Int32) (M : Gm) : Option (Nat × Gm) :=
  (gfR M x0 3 0).bind fun v1 =>
  (sh_X7_copyFrom v1 x1 M).bind fun q3 =>
  (lp (X3_stateAhead_B10 x0 x2) FU (0, q3)).bind fun r5 =>
  (gfR r5 x0 3 0).bind fun v7 =>
  some (v7, r5)
def sh_X3_stateAhead (x0 : Nat) (x1 : Nat) (x2 : Int32) (M : Gm) : Option (Nat × Gm) := (isO M x0 3).bind fun _ => X3_stateAhead_F x0 x1 x2 M
theorem X3_stateAhead_B10_ok {w : Gw} {d : Nat} {x0 : Nat} {x2 : Int32} {q : Int32 × Gm} {o : Go} {M' : Gm} {out : (Int32 × Gm) ⊕ Gm} (h : X3_stateAhead_B10 x0 x2 q = some out) (hc : ∀ t : Int32 × Gm, out = .inl t → Wp w mdX3_stateAhead (d + 5) 10 [some (.inr x0), none, some (.inl x2), some (.inl t.1)] [] t.2 o M') (he0 : ∀ t : Gm, out = .inr t → Wp w mdX3_stateAhead (d + 5) 32 [some (.inr x0), none, none, none] [] t o M') : Wp w mdX3_stateAhead (d + 5) 10 [some (.inr x0), none, some (.inl x2), some (.inl q.1)] [] q.2 o M' := by
  unfold X3_stateAhead_B10 at h
  refine wp_iload_n dX3_stateAhead_10 rfl ?_
  refine wp_iload_n dX3_stateAhead_11 rfl ?_
  refine wp_icmp_ge (tgt := 32) dX3_stateAhead_12 (by decide) (fun hc_ => ?_) (fun hc_ => ?_)
  · replace h := ite_t hc_ h
    cases h
    exact wp_ls (lsS (lsN (lsN (lsN lsZ)))) (he0 q.2 rfl)
  · replace h := ite_f hc_ h
    refine wp_aload_n dX3_stateAhead_15 rfl ?_
    obtain ⟨v1, e2, h⟩ := bnd h
    refine wp_getR (c := 3) (k := 5) dX3_stateAhead_16 e2 (by decide) (by decide) rfl fl_RX3_40 ?_
    refine wp_aload_n dX3_stateAhead_19 rfl ?_
    obtain ⟨v3, e4, h⟩ := bnd h
    refine wp_getR (c := 3) (k := 0) dX3_stateAhead_20 e4 (by decide) (by decide) rfl fl_RX3_36 ?_
    obtain ⟨q5, e6, h⟩ := bnd h
    refine wp_callV (As := [.inr v3]) dX3_stateAhead_23 (sh_X1_passMinute_ok (d := d) e6) okX1_passMinute nnX1_passMinute vvX1_passMinute ml_RX3_48 rfl (Nat.le_of_ble_eq_true rfl) ?_
    refine wp_iinc (v := q.1 + 1) dX3_stateAhead_26 rfl rfl ?_
    refine wp_goto (tgt := 10) dX3_stateAhead_29 (by decide) ?_
    cases h
    exact wp_ls (lsS (lsN (lsS (lsS lsZ)))) (hc (q.1 + 1, q5) rfl)

theorem X3_stateAhead_B10_lp {w : Gw} {d : Nat} {x0 : Nat} {x2 : Int32} {o : Go} {M' : Gm} {r : Gm} : ∀ (n : Nat) (q : Int32 × Gm), lp (X3_stateAhead_B10 x0 x2) n q = some r → (∀ t : Gm, r = t → Wp w mdX3_stateAhead (d + 5) 32 [some (.inr x0), none, none, none] [] t o M') → Wp w mdX3_stateAhead (d + 5) 10 [some (.inr x0), none, some (.inl x2), some (.inl q.1)] [] q.2 o M' := by
  intro n
  induction n with
  | zero => intro q h; cases h
  | succ n ih =>
    intro q h he0
    cases hb : X3_stateAhead_B10 x0 x2 q with
    | none => rw [lp_succ, hb] at h; cases h
    | some out =>
      rw [lp_succ, hb] at h
      exact X3_stateAhead_B10_ok hb (fun t e => ih t (by rw [e] at h; exact h) he0) (fun t e => he0 t (by rw [e] at h; cases h; rfl))
theorem X3_stateAhead_F_ok {w : Gw} {d : Nat} {x0 : Nat} {x1 : Nat} {x2 : Int32} {M : Gm} {out : Nat × Gm} (h : X3_stateAhead_F x0 x1 x2 M = some out) : Wp w mdX3_stateAhead (d + 5) 0 [some (.inr x0), some (.inr x1), some (.inl x2), none] [] M (.inl (some (.inr out.1))) out.2 := by
  unfold X3_stateAhead_F at h
  refine wp_aload_n dX3_stateAhead_0 rfl ?_
  obtain ⟨v1, e2, h⟩ := bnd h
  refine wp_getR (c := 3) (k := 0) dX3_stateAhead_1 e2 (by decide) (by decide) rfl fl_RX3_36 ?_
  refine wp_aload_n dX3_stateAhead_4 rfl ?_
  obtain ⟨q3, e4, h⟩ := bnd h
  refine wp_callV (As := [.inr x1]) dX3_stateAhead_5 (sh_X7_copyFrom_ok (d := d + 2) e4) okX7_copyFrom nnX7_copyFrom vvX7_copyFrom ml_RX3_44 rfl (Nat.le_of_ble_eq_true rfl) ?_
  refine wp_iconst (v := 0) dX3_stateAhead_8 (by decide) ?_
  refine wp_istore_n dX3_stateAhead_9 (Nat.le_of_ble_eq_true rfl) ?_
  obtain ⟨r5, e6, h⟩ := bnd h
  refine wp_ls (lsS (lsN (lsS (lsS lsZ)))) (X3_stateAhead_B10_lp FU _ e6 ?_)
  intro t_ ht_; cases ht_
  refine wp_aload_n dX3_stateAhead_32 rfl ?_
  obtain ⟨v7, e8, h⟩ := bnd h
  refine wp_getR (c := 3) (k := 0) dX3_stateAhead_33 e8 (by decide) (by decide) rfl fl_RX3_36 ?_
  cases h
  exact wp_aret dX3_stateAhead_36 rfl

theorem sh_X3_stateAhead_ok {w : Gw} {d : Nat} {x0 : Nat} {x1 : Nat} {x2 : Int32} {M : Gm} {out : Nat × Gm} (h : sh_X3_stateAhead x0 x1 x2 M = some out) : Ev w mdX3_stateAhead (d + 5) [.inr x0, .inr x1, .inl x2] M (.inl (some (.inr out.1))) out.2 := by
  obtain ⟨u, e0, h⟩ := bnd h
  exact ev_of okX3_stateAhead ⟨_, _, rfl, isO_of e0 (by decide), by decide⟩ (Nat.le_of_ble_eq_true rfl) (X3_stateAhead_F_ok h)

/-! HeatGovernor.ahead(III)I -/
def X11_ahead_J94 (s0 : Int32) (M : Gm) : Option ((Int32 × Gm) ⊕ (Nat × Gm)) :=
  some (.inl (s0, M))
def X11_ahead_F (x0 : Nat) (x1 : Int32) (x2 : Int32) (x3 : Int32) (M : Gm) : Option ((Int32 × Gm) ⊕ (Nat × Gm)) :=
  (sh_X11_needZone x0 x1 M).bind fun q1 =>
  Sum.elim (fun u3 =>
    (sh_X11_needWhat x3 2 M).bind fun q5 =>
    Sum.elim (fun u7 =>
      (sh_X11_needMinutes x2 0 200 M).bind fun q9 =>
      Sum.elim (fun u11 =>
        (gfR M x0 11 10).bind fun v13 =>
        (gfR M x0 11 6).bind fun v15 =>
        (gfR M v15 4 0).bind fun v17 =>
        (sh_X3_stateAhead v13 v17 x2 M).bind fun q19 =>
        if x3 = 0 then
          (gfR q19.2 q19.1 7 3).bind fun v21 =>
          (ldA q19.2 0 v21 x1).bind fun v23 =>
          some (.inl (v23, q19.2))
        else if x3 = 1 then
          (gfR q19.2 q19.1 7 6).bind fun v25 =>
          (ldA q19.2 0 v25 x1).bind fun v27 =>
          some (.inl (v27, q19.2))
        else
          (sh_X7_isShut q19.1 x1 q19.2).bind fun q29 =>
          if q29 = 0 then
            X11_ahead_J94 0 q19.2
          else
            X11_ahead_J94 1 q19.2) (fun u12 =>
          some (.inr u12)) q9) (fun u8 =>
        some (.inr u8)) q5) (fun u4 =>
      some (.inr u4)) q1
def sh_X11_ahead (x0 : Nat) (x1 : Int32) (x2 : Int32) (x3 : Int32) (M : Gm) : Option ((Int32 × Gm) ⊕ (Nat × Gm)) := (isO M x0 11).bind fun _ => X11_ahead_F x0 x1 x2 x3 M
theorem X11_ahead_J94_ok {w : Gw} {d : Nat} {s0 : Int32} {M : Gm} {out : (Int32 × Gm) ⊕ (Nat × Gm)} (h : X11_ahead_J94 s0 M = some out) : Wp w mdX11_ahead (d + 7) 94 [none, none, none, none, none] [.inl s0] M (xoP out) (xmP out) := by
  unfold X11_ahead_J94 at h
  cases h
  exact wp_iret dX11_ahead_94 rfl

theorem X11_ahead_F_ok {w : Gw} {d : Nat} {x0 : Nat} {x1 : Int32} {x2 : Int32} {x3 : Int32} {M : Gm} {out : (Int32 × Gm) ⊕ (Nat × Gm)} (h : X11_ahead_F x0 x1 x2 x3 M = some out) : Wp w mdX11_ahead (d + 7) 0 [some (.inr x0), some (.inl x1), some (.inl x2), some (.inl x3), none] [] M (xoP out) (xmP out) := by
  unfold X11_ahead_F at h
  refine wp_aload_n dX11_ahead_0 rfl ?_
  refine wp_iload_n dX11_ahead_1 rfl ?_
  obtain ⟨q1, e2, h⟩ := bnd h
  cases q1 with
  | inl u3 =>
    replace h := elim_l h
    refine wp_callV (As := [.inl x1]) dX11_ahead_2 (sh_X11_needZone_ok (d := d) e2) okX11_needZone nnX11_needZone vvX11_needZone ml_RX11_156 rfl (Nat.le_of_ble_eq_true rfl) ?_
    refine wp_iload_n dX11_ahead_5 rfl ?_
    refine wp_iconst (v := 2) dX11_ahead_6 (by decide) ?_
    obtain ⟨q5, e6, h⟩ := bnd h
    cases q5 with
    | inl u7 =>
      replace h := elim_l h
      refine wp_callS (As := [.inl x3, .inl 2]) dX11_ahead_7 (sh_X11_needWhat_ok (d := d) e6) okX11_needWhat nnX11_needWhat ssX11_needWhat ml_RX11_264 rfl (Nat.le_of_ble_eq_true rfl) ?_
      refine wp_iload_n dX11_ahead_10 rfl ?_
      refine wp_iconst (v := 0) dX11_ahead_11 (by decide) ?_
      refine wp_sipush (v := 200) dX11_ahead_12 (by decide) ?_
      obtain ⟨q9, e10, h⟩ := bnd h
      cases q9 with
      | inl u11 =>
        replace h := elim_l h
        refine wp_callS (As := [.inl x2, .inl 0, .inl 200]) dX11_ahead_15 (sh_X11_needMinutes_ok (d := d) e10) okX11_needMinutes nnX11_needMinutes ssX11_needMinutes ml_RX11_289 rfl (Nat.le_of_ble_eq_true rfl) ?_
        refine wp_aload_n dX11_ahead_18 rfl ?_
        obtain ⟨v13, e14, h⟩ := bnd h
        refine wp_getR (c := 11) (k := 10) dX11_ahead_19 e14 (by decide) (by decide) rfl fl_RX11_67 ?_
        refine wp_aload_n dX11_ahead_22 rfl ?_
        obtain ⟨v15, e16, h⟩ := bnd h
        refine wp_getR (c := 11) (k := 6) dX11_ahead_23 e16 (by decide) (by decide) rfl fl_RX11_44 ?_
        obtain ⟨v17, e18, h⟩ := bnd h
        refine wp_getR (c := 4) (k := 0) dX11_ahead_26 e18 (by decide) (by decide) rfl fl_RX11_96 ?_
        refine wp_iload_n dX11_ahead_29 rfl ?_
        obtain ⟨q19, e20, h⟩ := bnd h
        refine wp_callV (As := [.inr v17, .inl x2]) dX11_ahead_30 (sh_X3_stateAhead_ok (d := d + 1) e20) okX3_stateAhead nnX3_stateAhead vvX3_stateAhead ml_RX11_293 rfl (Nat.le_of_ble_eq_true rfl) ?_
        refine wp_astore dX11_ahead_33 (Nat.le_of_ble_eq_true rfl) ?_
        refine wp_iload_n dX11_ahead_35 rfl ?_
        by_cases cz0 : x3 = 0
        · replace h := ite_t cz0 h
          refine wp_lookup (tgt := 64) (off := 28) dX11_ahead_36 (by decide) (by rw [cz0]; decide) (by decide) ?_
          refine wp_aload dX11_ahead_64 rfl ?_
          obtain ⟨v21, e22, h⟩ := bnd h
          refine wp_getR (c := 7) (k := 3) dX11_ahead_66 e22 (by decide) (by decide) rfl fl_RX11_159 ?_
          refine wp_iload_n dX11_ahead_69 rfl ?_
          obtain ⟨v23, e24, h⟩ := bnd h
          refine wp_iaload dX11_ahead_70 e24 ?_
          cases h
          exact wp_iret dX11_ahead_71 rfl
        replace h := ite_f cz0 h
        by_cases cz1 : x3 = 1
        · replace h := ite_t cz1 h
          refine wp_lookup (tgt := 72) (off := 36) dX11_ahead_36 (by decide) (by rw [cz1]; decide) (by decide) ?_
          refine wp_aload dX11_ahead_72 rfl ?_
          obtain ⟨v25, e26, h⟩ := bnd h
          refine wp_getR (c := 7) (k := 6) dX11_ahead_74 e26 (by decide) (by decide) rfl fl_RX11_162 ?_
          refine wp_iload_n dX11_ahead_77 rfl ?_
          obtain ⟨v27, e28, h⟩ := bnd h
          refine wp_iaload dX11_ahead_78 e28 ?_
          cases h
          exact wp_iret dX11_ahead_79 rfl
        replace h := ite_f cz1 h
        refine wp_lookup (tgt := 80) (off := 44) dX11_ahead_36 (by decide) (by rw [lv_osw cz0 (show (0 : Int32).toInt = 0 by decide)]; rw [lv_osw cz1 (show (1 : Int32).toInt = 1 by decide)]; rfl) (by decide) ?_
        refine wp_aload dX11_ahead_80 rfl ?_
        refine wp_iload_n dX11_ahead_82 rfl ?_
        obtain ⟨q29, e30, h⟩ := bnd h
        refine wp_callV (As := [.inl x1]) dX11_ahead_83 (sh_X7_isShut_ok (d := d + 6) e30) okX7_isShut nnX7_isShut vvX7_isShut ml_RX11_186 rfl (Nat.le_of_ble_eq_true rfl) ?_
        refine wp_if_eq (tgt := 93) dX11_ahead_86 (by decide) (fun hc_ => ?_) (fun hc_ => ?_)
        · replace h := ite_t hc_ h
          refine wp_iconst (v := 0) dX11_ahead_93 (by decide) ?_
          exact wp_ls (lsN (lsN (lsN (lsN (lsN lsZ))))) (X11_ahead_J94_ok h)
        · replace h := ite_f hc_ h
          refine wp_iconst (v := 1) dX11_ahead_89 (by decide) ?_
          refine wp_goto (tgt := 94) dX11_ahead_90 (by decide) ?_
          exact wp_ls (lsN (lsN (lsN (lsN (lsN lsZ))))) (X11_ahead_J94_ok h)
      | inr u12 =>
        replace h := elim_r h
        cases h
        exact wp_callSx (As := [.inl x2, .inl 0, .inl 200]) dX11_ahead_15 (sh_X11_needMinutes_ok (d := d) e10) okX11_needMinutes nnX11_needMinutes ssX11_needMinutes ml_RX11_289 rfl (Nat.le_of_ble_eq_true rfl) rfl
    | inr u8 =>
      replace h := elim_r h
      cases h
      exact wp_callSx (As := [.inl x3, .inl 2]) dX11_ahead_7 (sh_X11_needWhat_ok (d := d) e6) okX11_needWhat nnX11_needWhat ssX11_needWhat ml_RX11_264 rfl (Nat.le_of_ble_eq_true rfl) rfl
  | inr u4 =>
    replace h := elim_r h
    cases h
    exact wp_callVx (As := [.inl x1]) dX11_ahead_2 (sh_X11_needZone_ok (d := d) e2) okX11_needZone nnX11_needZone vvX11_needZone ml_RX11_156 rfl (Nat.le_of_ble_eq_true rfl) rfl

theorem sh_X11_ahead_ok {w : Gw} {d : Nat} {x0 : Nat} {x1 : Int32} {x2 : Int32} {x3 : Int32} {M : Gm} {out : (Int32 × Gm) ⊕ (Nat × Gm)} (h : sh_X11_ahead x0 x1 x2 x3 M = some out) : Ev w mdX11_ahead (d + 7) [.inr x0, .inl x1, .inl x2, .inl x3] M (xoP out) (xmP out) := by
  obtain ⟨u, e0, h⟩ := bnd h
  exact ev_of okX11_ahead ⟨_, _, rfl, isO_of e0 (by decide), by decide⟩ (Nat.le_of_ble_eq_true rfl) (X11_ahead_F_ok h)

/-! HeatGovernor$Foresight.staysOpen(II)Z -/
def X3_staysOpen_B2 (x0 : Nat) (x1 : Int32) (x2 : Int32) (q : Int32 × Gm) : Option ((Int32 × Gm) ⊕ Gm) :=
  if x2 ≤ q.1 then
    some (.inr q.2)
  else
    (gfR q.2 x0 3 0).bind fun v1 =>
    (sh_X7_isShut v1 x1 q.2).bind fun q3 =>
    if q3 = 0 then
      (gfR q.2 x0 3 5).bind fun v5 =>
      (gfR q.2 x0 3 0).bind fun v7 =>
      (sh_X1_passMinute v5 v7 q.2).bind fun q9 =>
      some (.inl (q.1 + 1, q9))
    else
      some (.inr q.2)
def X3_staysOpen_J51 (s0 : Int32) (M : Gm) : Option (Int32 × Gm) :=
  (zck s0).bind fun z1 =>
  some (z1, M)
def X3_staysOpen_J35 (x0 : Nat) (x1 : Int32) (M : Gm) : Option (Int32 × Gm) :=
  (gfR M x0 3 0).bind fun v1 =>
  (sh_X7_isShut v1 x1 M).bind fun q3 =>
  if q3 = 0 then
    X3_staysOpen_J51 1 M
  else
    X3_staysOpen_J51 0 M
def X3_staysOpen_F (x0 : Nat) (x1 : Int32) (x2 : Int32) (M : Gm) : Option (Int32 × Gm) :=
  (lp (X3_staysOpen_B2 x0 x1 x2) FU (0, M)).bind fun r1 =>
  X3_staysOpen_J35 x0 x1 r1
def sh_X3_staysOpen (x0 : Nat) (x1 : Int32) (x2 : Int32) (M : Gm) : Option (Int32 × Gm) := (isO M x0 3).bind fun _ => X3_staysOpen_F x0 x1 x2 M
theorem X3_staysOpen_B2_ok {w : Gw} {d : Nat} {x0 : Nat} {x1 : Int32} {x2 : Int32} {q : Int32 × Gm} {o : Go} {M' : Gm} {out : (Int32 × Gm) ⊕ Gm} (h : X3_staysOpen_B2 x0 x1 x2 q = some out) (hc : ∀ t : Int32 × Gm, out = .inl t → Wp w mdX3_staysOpen (d + 5) 2 [some (.inr x0), some (.inl x1), some (.inl x2), some (.inl t.1)] [] t.2 o M') (he0 : ∀ t : Gm, out = .inr t → Wp w mdX3_staysOpen (d + 5) 35 [some (.inr x0), some (.inl x1), none, none] [] t o M') : Wp w mdX3_staysOpen (d + 5) 2 [some (.inr x0), some (.inl x1), some (.inl x2), some (.inl q.1)] [] q.2 o M' := by
  unfold X3_staysOpen_B2 at h
  refine wp_iload_n dX3_staysOpen_2 rfl ?_
  refine wp_iload_n dX3_staysOpen_3 rfl ?_
  refine wp_icmp_ge (tgt := 35) dX3_staysOpen_4 (by decide) (fun hc_ => ?_) (fun hc_ => ?_)
  · replace h := ite_t hc_ h
    cases h
    exact wp_ls (lsS (lsS (lsN (lsN lsZ)))) (he0 q.2 rfl)
  · replace h := ite_f hc_ h
    refine wp_aload_n dX3_staysOpen_7 rfl ?_
    obtain ⟨v1, e2, h⟩ := bnd h
    refine wp_getR (c := 3) (k := 0) dX3_staysOpen_8 e2 (by decide) (by decide) rfl fl_RX3_36 ?_
    refine wp_iload_n dX3_staysOpen_11 rfl ?_
    obtain ⟨q3, e4, h⟩ := bnd h
    refine wp_callV (As := [.inl x1]) dX3_staysOpen_12 (sh_X7_isShut_ok (d := d + 4) e4) okX7_isShut nnX7_isShut vvX7_isShut ml_RX3_78 rfl (Nat.le_of_ble_eq_true rfl) ?_
    refine wp_if_ne (tgt := 35) dX3_staysOpen_15 (by decide) (fun hc_ => ?_) (fun hc_ => ?_)
    · replace h := ite_f hc_ h
      cases h
      exact wp_ls (lsS (lsS (lsN (lsN lsZ)))) (he0 q.2 rfl)
    · replace h := ite_t hc_ h
      refine wp_aload_n dX3_staysOpen_18 rfl ?_
      obtain ⟨v5, e6, h⟩ := bnd h
      refine wp_getR (c := 3) (k := 5) dX3_staysOpen_19 e6 (by decide) (by decide) rfl fl_RX3_40 ?_
      refine wp_aload_n dX3_staysOpen_22 rfl ?_
      obtain ⟨v7, e8, h⟩ := bnd h
      refine wp_getR (c := 3) (k := 0) dX3_staysOpen_23 e8 (by decide) (by decide) rfl fl_RX3_36 ?_
      obtain ⟨q9, e10, h⟩ := bnd h
      refine wp_callV (As := [.inr v7]) dX3_staysOpen_26 (sh_X1_passMinute_ok (d := d) e10) okX1_passMinute nnX1_passMinute vvX1_passMinute ml_RX3_48 rfl (Nat.le_of_ble_eq_true rfl) ?_
      refine wp_iinc (v := q.1 + 1) dX3_staysOpen_29 rfl rfl ?_
      refine wp_goto (tgt := 2) dX3_staysOpen_32 (by decide) ?_
      cases h
      exact wp_ls (lsS (lsS (lsS (lsS lsZ)))) (hc (q.1 + 1, q9) rfl)

theorem X3_staysOpen_B2_lp {w : Gw} {d : Nat} {x0 : Nat} {x1 : Int32} {x2 : Int32} {o : Go} {M' : Gm} {r : Gm} : ∀ (n : Nat) (q : Int32 × Gm), lp (X3_staysOpen_B2 x0 x1 x2) n q = some r → (∀ t : Gm, r = t → Wp w mdX3_staysOpen (d + 5) 35 [some (.inr x0), some (.inl x1), none, none] [] t o M') → Wp w mdX3_staysOpen (d + 5) 2 [some (.inr x0), some (.inl x1), some (.inl x2), some (.inl q.1)] [] q.2 o M' := by
  intro n
  induction n with
  | zero => intro q h; cases h
  | succ n ih =>
    intro q h he0
    cases hb : X3_staysOpen_B2 x0 x1 x2 q with
    | none => rw [lp_succ, hb] at h; cases h
    | some out =>
      rw [lp_succ, hb] at h
      exact X3_staysOpen_B2_ok hb (fun t e => ih t (by rw [e] at h; exact h) he0) (fun t e => he0 t (by rw [e] at h; cases h; rfl))
theorem X3_staysOpen_J51_ok {w : Gw} {d : Nat} {s0 : Int32} {M : Gm} {out : Int32 × Gm} (h : X3_staysOpen_J51 s0 M = some out) : Wp w mdX3_staysOpen (d + 5) 51 [none, none, none, none] [.inl s0] M (.inl (some (.inl out.1))) out.2 := by
  unfold X3_staysOpen_J51 at h
  obtain ⟨z1, e2, h⟩ := bnd h
  obtain ⟨hz_, rfl⟩ := zck_of e2
  cases h
  exact wp_zret dX3_staysOpen_51 rfl hz_

theorem X3_staysOpen_J35_ok {w : Gw} {d : Nat} {x0 : Nat} {x1 : Int32} {M : Gm} {out : Int32 × Gm} (h : X3_staysOpen_J35 x0 x1 M = some out) : Wp w mdX3_staysOpen (d + 5) 35 [some (.inr x0), some (.inl x1), none, none] [] M (.inl (some (.inl out.1))) out.2 := by
  unfold X3_staysOpen_J35 at h
  refine wp_aload_n dX3_staysOpen_35 rfl ?_
  obtain ⟨v1, e2, h⟩ := bnd h
  refine wp_getR (c := 3) (k := 0) dX3_staysOpen_36 e2 (by decide) (by decide) rfl fl_RX3_36 ?_
  refine wp_iload_n dX3_staysOpen_39 rfl ?_
  obtain ⟨q3, e4, h⟩ := bnd h
  refine wp_callV (As := [.inl x1]) dX3_staysOpen_40 (sh_X7_isShut_ok (d := d + 4) e4) okX7_isShut nnX7_isShut vvX7_isShut ml_RX3_78 rfl (Nat.le_of_ble_eq_true rfl) ?_
  refine wp_if_ne (tgt := 50) dX3_staysOpen_43 (by decide) (fun hc_ => ?_) (fun hc_ => ?_)
  · replace h := ite_f hc_ h
    refine wp_iconst (v := 0) dX3_staysOpen_50 (by decide) ?_
    exact wp_ls (lsN (lsN (lsN (lsN lsZ)))) (X3_staysOpen_J51_ok h)
  · replace h := ite_t hc_ h
    refine wp_iconst (v := 1) dX3_staysOpen_46 (by decide) ?_
    refine wp_goto (tgt := 51) dX3_staysOpen_47 (by decide) ?_
    exact wp_ls (lsN (lsN (lsN (lsN lsZ)))) (X3_staysOpen_J51_ok h)

theorem X3_staysOpen_F_ok {w : Gw} {d : Nat} {x0 : Nat} {x1 : Int32} {x2 : Int32} {M : Gm} {out : Int32 × Gm} (h : X3_staysOpen_F x0 x1 x2 M = some out) : Wp w mdX3_staysOpen (d + 5) 0 [some (.inr x0), some (.inl x1), some (.inl x2), none] [] M (.inl (some (.inl out.1))) out.2 := by
  unfold X3_staysOpen_F at h
  refine wp_iconst (v := 0) dX3_staysOpen_0 (by decide) ?_
  refine wp_istore_n dX3_staysOpen_1 (Nat.le_of_ble_eq_true rfl) ?_
  obtain ⟨r1, e2, h⟩ := bnd h
  refine wp_ls (lsS (lsS (lsS (lsS lsZ)))) (X3_staysOpen_B2_lp FU _ e2 ?_)
  intro t_ ht_; cases ht_
  exact wp_ls (lsS (lsS (lsN (lsN lsZ)))) (X3_staysOpen_J35_ok h)

theorem sh_X3_staysOpen_ok {w : Gw} {d : Nat} {x0 : Nat} {x1 : Int32} {x2 : Int32} {M : Gm} {out : Int32 × Gm} (h : sh_X3_staysOpen x0 x1 x2 M = some out) : Ev w mdX3_staysOpen (d + 5) [.inr x0, .inl x1, .inl x2] M (.inl (some (.inl out.1))) out.2 := by
  obtain ⟨u, e0, h⟩ := bnd h
  exact ev_of okX3_staysOpen ⟨_, _, rfl, isO_of e0 (by decide), by decide⟩ (Nat.le_of_ble_eq_true rfl) (X3_staysOpen_F_ok h)

/-! HeatGovernor$Foresight.greatestLoad(LHeatGovernor$State;II)I -/
def X3_greatestLoad_B4 (x0 : Nat) (x1 : Nat) (x2 : Int32) (x3 : Int32) (q : Int32 × Gm) : Option ((Int32 × Gm) ⊕ Gm ⊕ (Int32 × Gm)) :=
  if q.1 < 0 then
    some (.inr (.inl q.2))
  else
    (sh_X7_isShut x1 x2 q.2).bind fun q1 =>
    if q1 = 0 then
      (gfR q.2 x0 3 0).bind fun v3 =>
      (sh_X7_copyFrom v3 x1 q.2).bind fun q5 =>
      (gfR q5 x0 3 0).bind fun v7 =>
      (gfR q5 v7 7 4).bind fun v9 =>
      (stA q5 0 v9 x2 q.1).bind fun M11 =>
      (sh_X3_staysOpen x0 x2 x3 M11).bind fun q13 =>
      if q13.1 = 0 then
        some (.inl (q.1 + (-1), q13.2))
      else
        some (.inr (.inr ((q.1, q13.2))))
    else
      some (.inr (.inl q.2))
def X3_greatestLoad_J54 (M : Gm) : Option (Int32 × Gm) :=
  some ((-1), M)
def X3_greatestLoad_F (x0 : Nat) (x1 : Nat) (x2 : Int32) (x3 : Int32) (M : Gm) : Option (Int32 × Gm) :=
  (lp (X3_greatestLoad_B4 x0 x1 x2 x3) FU (99, M)).bind fun r1 =>
  Sum.elim (fun u3 =>
    X3_greatestLoad_J54 u3) (fun u4 =>
    some (u4.1, u4.2)) r1
def sh_X3_greatestLoad (x0 : Nat) (x1 : Nat) (x2 : Int32) (x3 : Int32) (M : Gm) : Option (Int32 × Gm) := (isO M x0 3).bind fun _ => X3_greatestLoad_F x0 x1 x2 x3 M
theorem X3_greatestLoad_B4_ok {w : Gw} {d : Nat} {x0 : Nat} {x1 : Nat} {x2 : Int32} {x3 : Int32} {q : Int32 × Gm} {o : Go} {M' : Gm} {out : (Int32 × Gm) ⊕ Gm ⊕ (Int32 × Gm)} (h : X3_greatestLoad_B4 x0 x1 x2 x3 q = some out) (hc : ∀ t : Int32 × Gm, out = .inl t → Wp w mdX3_greatestLoad (d + 6) 4 [some (.inr x0), some (.inr x1), some (.inl x2), some (.inl x3), some (.inl t.1)] [] t.2 o M') (he0 : ∀ t : Gm, out = .inr (.inl t) → Wp w mdX3_greatestLoad (d + 6) 54 [none, none, none, none, none] [] t o M') (he1 : ∀ t : Int32 × Gm, out = .inr (.inr t) → Wp w mdX3_greatestLoad (d + 6) 45 [none, none, none, none, some (.inl t.1)] [] t.2 o M') : Wp w mdX3_greatestLoad (d + 6) 4 [some (.inr x0), some (.inr x1), some (.inl x2), some (.inl x3), some (.inl q.1)] [] q.2 o M' := by
  unfold X3_greatestLoad_B4 at h
  refine wp_iload dX3_greatestLoad_4 rfl ?_
  refine wp_if_lt (tgt := 54) dX3_greatestLoad_6 (by decide) (fun hc_ => ?_) (fun hc_ => ?_)
  · replace h := ite_t hc_ h
    cases h
    exact wp_ls (lsN (lsN (lsN (lsN (lsN lsZ))))) (he0 q.2 rfl)
  · replace h := ite_f hc_ h
    refine wp_aload_n dX3_greatestLoad_9 rfl ?_
    refine wp_iload_n dX3_greatestLoad_10 rfl ?_
    obtain ⟨q1, e2, h⟩ := bnd h
    refine wp_callV (As := [.inl x2]) dX3_greatestLoad_11 (sh_X7_isShut_ok (d := d + 5) e2) okX7_isShut nnX7_isShut vvX7_isShut ml_RX3_78 rfl (Nat.le_of_ble_eq_true rfl) ?_
    refine wp_if_ne (tgt := 54) dX3_greatestLoad_14 (by decide) (fun hc_ => ?_) (fun hc_ => ?_)
    · replace h := ite_f hc_ h
      cases h
      exact wp_ls (lsN (lsN (lsN (lsN (lsN lsZ))))) (he0 q.2 rfl)
    · replace h := ite_t hc_ h
      refine wp_aload_n dX3_greatestLoad_17 rfl ?_
      obtain ⟨v3, e4, h⟩ := bnd h
      refine wp_getR (c := 3) (k := 0) dX3_greatestLoad_18 e4 (by decide) (by decide) rfl fl_RX3_36 ?_
      refine wp_aload_n dX3_greatestLoad_21 rfl ?_
      obtain ⟨q5, e6, h⟩ := bnd h
      refine wp_callV (As := [.inr x1]) dX3_greatestLoad_22 (sh_X7_copyFrom_ok (d := d + 3) e6) okX7_copyFrom nnX7_copyFrom vvX7_copyFrom ml_RX3_44 rfl (Nat.le_of_ble_eq_true rfl) ?_
      refine wp_aload_n dX3_greatestLoad_25 rfl ?_
      obtain ⟨v7, e8, h⟩ := bnd h
      refine wp_getR (c := 3) (k := 0) dX3_greatestLoad_26 e8 (by decide) (by decide) rfl fl_RX3_36 ?_
      obtain ⟨v9, e10, h⟩ := bnd h
      refine wp_getR (c := 7) (k := 4) dX3_greatestLoad_29 e10 (by decide) (by decide) rfl fl_RX3_95 ?_
      refine wp_iload_n dX3_greatestLoad_32 rfl ?_
      refine wp_iload dX3_greatestLoad_33 rfl ?_
      obtain ⟨M11, e12, h⟩ := bnd h
      refine wp_iastore dX3_greatestLoad_35 e12 ?_
      refine wp_aload_n dX3_greatestLoad_36 rfl ?_
      refine wp_iload_n dX3_greatestLoad_37 rfl ?_
      refine wp_iload_n dX3_greatestLoad_38 rfl ?_
      obtain ⟨q13, e14, h⟩ := bnd h
      refine wp_callV (As := [.inl x2, .inl x3]) dX3_greatestLoad_39 (sh_X3_staysOpen_ok (d := d) e14) okX3_staysOpen nnX3_staysOpen vvX3_staysOpen ml_RX3_98 rfl (Nat.le_of_ble_eq_true rfl) ?_
      refine wp_if_eq (tgt := 48) dX3_greatestLoad_42 (by decide) (fun hc_ => ?_) (fun hc_ => ?_)
      · replace h := ite_t hc_ h
        refine wp_iinc (v := q.1 + (-1)) dX3_greatestLoad_48 rfl rfl ?_
        refine wp_goto (tgt := 4) dX3_greatestLoad_51 (by decide) ?_
        cases h
        exact wp_ls (lsS (lsS (lsS (lsS (lsS lsZ))))) (hc (q.1 + (-1), q13.2) rfl)
      · replace h := ite_f hc_ h
        cases h
        exact wp_ls (lsN (lsN (lsN (lsN (lsS lsZ))))) (he1 (q.1, q13.2) rfl)

theorem X3_greatestLoad_B4_lp {w : Gw} {d : Nat} {x0 : Nat} {x1 : Nat} {x2 : Int32} {x3 : Int32} {o : Go} {M' : Gm} {r : Gm ⊕ (Int32 × Gm)} : ∀ (n : Nat) (q : Int32 × Gm), lp (X3_greatestLoad_B4 x0 x1 x2 x3) n q = some r → (∀ t : Gm, r = (.inl t) → Wp w mdX3_greatestLoad (d + 6) 54 [none, none, none, none, none] [] t o M') → (∀ t : Int32 × Gm, r = (.inr t) → Wp w mdX3_greatestLoad (d + 6) 45 [none, none, none, none, some (.inl t.1)] [] t.2 o M') → Wp w mdX3_greatestLoad (d + 6) 4 [some (.inr x0), some (.inr x1), some (.inl x2), some (.inl x3), some (.inl q.1)] [] q.2 o M' := by
  intro n
  induction n with
  | zero => intro q h; cases h
  | succ n ih =>
    intro q h he0 he1
    cases hb : X3_greatestLoad_B4 x0 x1 x2 x3 q with
    | none => rw [lp_succ, hb] at h; cases h
    | some out =>
      rw [lp_succ, hb] at h
      exact X3_greatestLoad_B4_ok hb (fun t e => ih t (by rw [e] at h; exact h) he0 he1) (fun t e => he0 t (by rw [e] at h; cases h; rfl)) (fun t e => he1 t (by rw [e] at h; cases h; rfl))
theorem X3_greatestLoad_J54_ok {w : Gw} {d : Nat} {M : Gm} {out : Int32 × Gm} (h : X3_greatestLoad_J54 M = some out) : Wp w mdX3_greatestLoad (d + 6) 54 [none, none, none, none, none] [] M (.inl (some (.inl out.1))) out.2 := by
  unfold X3_greatestLoad_J54 at h
  refine wp_iconst (v := (-1)) dX3_greatestLoad_54 (by decide) ?_
  cases h
  exact wp_iret dX3_greatestLoad_55 rfl

theorem X3_greatestLoad_F_ok {w : Gw} {d : Nat} {x0 : Nat} {x1 : Nat} {x2 : Int32} {x3 : Int32} {M : Gm} {out : Int32 × Gm} (h : X3_greatestLoad_F x0 x1 x2 x3 M = some out) : Wp w mdX3_greatestLoad (d + 6) 0 [some (.inr x0), some (.inr x1), some (.inl x2), some (.inl x3), none] [] M (.inl (some (.inl out.1))) out.2 := by
  unfold X3_greatestLoad_F at h
  refine wp_bipush (v := 99) dX3_greatestLoad_0 (by decide) ?_
  refine wp_istore dX3_greatestLoad_2 (Nat.le_of_ble_eq_true rfl) ?_
  obtain ⟨r1, e2, h⟩ := bnd h
  refine wp_ls (lsS (lsS (lsS (lsS (lsS lsZ))))) (X3_greatestLoad_B4_lp FU _ e2 ?_ ?_)
  · intro y3 ht_; subst ht_
    replace h := elim_l h
    exact wp_ls (lsN (lsN (lsN (lsN (lsN lsZ))))) (X3_greatestLoad_J54_ok h)
  · intro y4 ht_; subst ht_
    replace h := elim_r h
    refine wp_iload dX3_greatestLoad_45 rfl ?_
    cases h
    exact wp_iret dX3_greatestLoad_47 rfl

theorem sh_X3_greatestLoad_ok {w : Gw} {d : Nat} {x0 : Nat} {x1 : Nat} {x2 : Int32} {x3 : Int32} {M : Gm} {out : Int32 × Gm} (h : sh_X3_greatestLoad x0 x1 x2 x3 M = some out) : Ev w mdX3_greatestLoad (d + 6) [.inr x0, .inr x1, .inl x2, .inl x3] M (.inl (some (.inl out.1))) out.2 := by
  obtain ⟨u, e0, h⟩ := bnd h
  exact ev_of okX3_greatestLoad ⟨_, _, rfl, isO_of e0 (by decide), by decide⟩ (Nat.le_of_ble_eq_true rfl) (X3_greatestLoad_F_ok h)

/-! HeatGovernor$Foresight.peakHeat(LHeatGovernor$State;II)I -/
def X3_peakHeat_B14 (x0 : Nat) (x2 : Int32) (x3 : Int32) (q : Int32 × Int32 × Gm) : Option ((Int32 × Int32 × Gm) ⊕ (Int32 × Gm)) :=
  if x3 ≤ q.2.1 then
    some (.inr (q.1, q.2.2))
  else
    (gfR q.2.2 x0 3 5).bind fun v1 =>
    (gfR q.2.2 x0 3 0).bind fun v3 =>
    (sh_X1_passMinute v1 v3 q.2.2).bind fun q5 =>
    (gfR q5 x0 3 0).bind fun v7 =>
    (gfR q5 v7 7 3).bind fun v9 =>
    (ldA q5 0 v9 x2).bind fun v11 =>
    (sh_J9_max_7cf53 q.1 v11 q5).bind fun q13 =>
    some (.inl (q13, q.2.1 + 1, q5))
def X3_peakHeat_F (x0 : Nat) (x1 : Nat) (x2 : Int32) (x3 : Int32) (M : Gm) : Option (Int32 × Gm) :=
  (gfR M x0 3 0).bind fun v1 =>
  (sh_X7_copyFrom v1 x1 M).bind fun q3 =>
  (lp (X3_peakHeat_B14 x0 x2 x3) FU (0, 0, q3)).bind fun r5 =>
  some (r5.1, r5.2)
def sh_X3_peakHeat (x0 : Nat) (x1 : Nat) (x2 : Int32) (x3 : Int32) (M : Gm) : Option (Int32 × Gm) := (isO M x0 3).bind fun _ => X3_peakHeat_F x0 x1 x2 x3 M
theorem X3_peakHeat_B14_ok {w : Gw} {d : Nat} {x0 : Nat} {x2 : Int32} {x3 : Int32} {q : Int32 × Int32 × Gm} {o : Go} {M' : Gm} {out : (Int32 × Int32 × Gm) ⊕ (Int32 × Gm)} (h : X3_peakHeat_B14 x0 x2 x3 q = some out) (hc : ∀ t : Int32 × Int32 × Gm, out = .inl t → Wp w mdX3_peakHeat (d + 5) 14 [some (.inr x0), none, some (.inl x2), some (.inl x3), some (.inl t.1), some (.inl t.2.1)] [] t.2.2 o M') (he0 : ∀ t : Int32 × Gm, out = .inr t → Wp w mdX3_peakHeat (d + 5) 53 [none, none, none, none, some (.inl t.1), none] [] t.2 o M') : Wp w mdX3_peakHeat (d + 5) 14 [some (.inr x0), none, some (.inl x2), some (.inl x3), some (.inl q.1), some (.inl q.2.1)] [] q.2.2 o M' := by
  unfold X3_peakHeat_B14 at h
  refine wp_iload dX3_peakHeat_14 rfl ?_
  refine wp_iload_n dX3_peakHeat_16 rfl ?_
  refine wp_icmp_ge (tgt := 53) dX3_peakHeat_17 (by decide) (fun hc_ => ?_) (fun hc_ => ?_)
  · replace h := ite_t hc_ h
    cases h
    exact wp_ls (lsN (lsN (lsN (lsN (lsS (lsN lsZ)))))) (he0 (q.1, q.2.2) rfl)
  · replace h := ite_f hc_ h
    refine wp_aload_n dX3_peakHeat_20 rfl ?_
    obtain ⟨v1, e2, h⟩ := bnd h
    refine wp_getR (c := 3) (k := 5) dX3_peakHeat_21 e2 (by decide) (by decide) rfl fl_RX3_40 ?_
    refine wp_aload_n dX3_peakHeat_24 rfl ?_
    obtain ⟨v3, e4, h⟩ := bnd h
    refine wp_getR (c := 3) (k := 0) dX3_peakHeat_25 e4 (by decide) (by decide) rfl fl_RX3_36 ?_
    obtain ⟨q5, e6, h⟩ := bnd h
    refine wp_callV (As := [.inr v3]) dX3_peakHeat_28 (sh_X1_passMinute_ok (d := d) e6) okX1_passMinute nnX1_passMinute vvX1_passMinute ml_RX3_48 rfl (Nat.le_of_ble_eq_true rfl) ?_
    refine wp_iload dX3_peakHeat_31 rfl ?_
    refine wp_aload_n dX3_peakHeat_33 rfl ?_
    obtain ⟨v7, e8, h⟩ := bnd h
    refine wp_getR (c := 3) (k := 0) dX3_peakHeat_34 e8 (by decide) (by decide) rfl fl_RX3_36 ?_
    obtain ⟨v9, e10, h⟩ := bnd h
    refine wp_getR (c := 7) (k := 3) dX3_peakHeat_37 e10 (by decide) (by decide) rfl fl_RX3_53 ?_
    refine wp_iload_n dX3_peakHeat_40 rfl ?_
    obtain ⟨v11, e12, h⟩ := bnd h
    refine wp_iaload dX3_peakHeat_41 e12 ?_
    obtain ⟨q13, e14, h⟩ := bnd h
    refine wp_callS (As := [.inl q.1, .inl v11]) dX3_peakHeat_42 (sh_J9_max_7cf53_ok (d := d + 4) e14) okJ9_max_7cf53 nnJ9_max_7cf53 ssJ9_max_7cf53 ml_RX3_56 rfl (Nat.le_of_ble_eq_true rfl) ?_
    refine wp_istore dX3_peakHeat_45 (Nat.le_of_ble_eq_true rfl) ?_
    refine wp_iinc (v := q.2.1 + 1) dX3_peakHeat_47 rfl rfl ?_
    refine wp_goto (tgt := 14) dX3_peakHeat_50 (by decide) ?_
    cases h
    exact wp_ls (lsS (lsN (lsS (lsS (lsS (lsS lsZ)))))) (hc (q13, q.2.1 + 1, q5) rfl)

theorem X3_peakHeat_B14_lp {w : Gw} {d : Nat} {x0 : Nat} {x2 : Int32} {x3 : Int32} {o : Go} {M' : Gm} {r : (Int32 × Gm)} : ∀ (n : Nat) (q : Int32 × Int32 × Gm), lp (X3_peakHeat_B14 x0 x2 x3) n q = some r → (∀ t : Int32 × Gm, r = t → Wp w mdX3_peakHeat (d + 5) 53 [none, none, none, none, some (.inl t.1), none] [] t.2 o M') → Wp w mdX3_peakHeat (d + 5) 14 [some (.inr x0), none, some (.inl x2), some (.inl x3), some (.inl q.1), some (.inl q.2.1)] [] q.2.2 o M' := by
  intro n
  induction n with
  | zero => intro q h; cases h
  | succ n ih =>
    intro q h he0
    cases hb : X3_peakHeat_B14 x0 x2 x3 q with
    | none => rw [lp_succ, hb] at h; cases h
    | some out =>
      rw [lp_succ, hb] at h
      exact X3_peakHeat_B14_ok hb (fun t e => ih t (by rw [e] at h; exact h) he0) (fun t e => he0 t (by rw [e] at h; cases h; rfl))
theorem X3_peakHeat_F_ok {w : Gw} {d : Nat} {x0 : Nat} {x1 : Nat} {x2 : Int32} {x3 : Int32} {M : Gm} {out : Int32 × Gm} (h : X3_peakHeat_F x0 x1 x2 x3 M = some out) : Wp w mdX3_peakHeat (d + 5) 0 [some (.inr x0), some (.inr x1), some (.inl x2), some (.inl x3), none, none] [] M (.inl (some (.inl out.1))) out.2 := by
  unfold X3_peakHeat_F at h
  refine wp_aload_n dX3_peakHeat_0 rfl ?_
  obtain ⟨v1, e2, h⟩ := bnd h
  refine wp_getR (c := 3) (k := 0) dX3_peakHeat_1 e2 (by decide) (by decide) rfl fl_RX3_36 ?_
  refine wp_aload_n dX3_peakHeat_4 rfl ?_
  obtain ⟨q3, e4, h⟩ := bnd h
  refine wp_callV (As := [.inr x1]) dX3_peakHeat_5 (sh_X7_copyFrom_ok (d := d + 2) e4) okX7_copyFrom nnX7_copyFrom vvX7_copyFrom ml_RX3_44 rfl (Nat.le_of_ble_eq_true rfl) ?_
  refine wp_iconst (v := 0) dX3_peakHeat_8 (by decide) ?_
  refine wp_istore dX3_peakHeat_9 (Nat.le_of_ble_eq_true rfl) ?_
  refine wp_iconst (v := 0) dX3_peakHeat_11 (by decide) ?_
  refine wp_istore dX3_peakHeat_12 (Nat.le_of_ble_eq_true rfl) ?_
  obtain ⟨r5, e6, h⟩ := bnd h
  refine wp_ls (lsS (lsN (lsS (lsS (lsS (lsS lsZ)))))) (X3_peakHeat_B14_lp FU _ e6 ?_)
  intro t_ ht_; cases ht_
  refine wp_iload dX3_peakHeat_53 rfl ?_
  cases h
  exact wp_iret dX3_peakHeat_55 rfl

theorem sh_X3_peakHeat_ok {w : Gw} {d : Nat} {x0 : Nat} {x1 : Nat} {x2 : Int32} {x3 : Int32} {M : Gm} {out : Int32 × Gm} (h : sh_X3_peakHeat x0 x1 x2 x3 M = some out) : Ev w mdX3_peakHeat (d + 5) [.inr x0, .inr x1, .inl x2, .inl x3] M (.inl (some (.inl out.1))) out.2 := by
  obtain ⟨u, e0, h⟩ := bnd h
  exact ev_of okX3_peakHeat ⟨_, _, rfl, isO_of e0 (by decide), by decide⟩ (Nat.le_of_ble_eq_true rfl) (X3_peakHeat_F_ok h)

/-! HeatGovernor.bears(III)I -/
def X11_bears_J66 (s0 : Int32) (M : Gm) : Option ((Int32 × Gm) ⊕ (Nat × Gm)) :=
  some (.inl (s0, M))
def X11_bears_J24 (x0 : Nat) (x1 : Int32) (x2 : Int32) (x3 : Int32) (s0 : Int32) (s1 : Int32) (s2 : Int32) (M : Gm) : Option ((Int32 × Gm) ⊕ (Nat × Gm)) :=
  (sh_X11_needMinutes s0 s1 s2 M).bind fun q1 =>
  Sum.elim (fun u3 =>
    if x3 = 0 then
      (gfR M x0 11 10).bind fun v13 =>
      (gfR M x0 11 6).bind fun v15 =>
      (gfR M v15 4 0).bind fun v17 =>
      (sh_X3_peakHeat v13 v17 x1 x2 M).bind fun q19 =>
      X11_bears_J66 q19.1 q19.2
    else
      (gfR M x0 11 10).bind fun v5 =>
      (gfR M x0 11 6).bind fun v7 =>
      (gfR M v7 4 0).bind fun v9 =>
      (sh_X3_greatestLoad v5 v9 x1 x2 M).bind fun q11 =>
      X11_bears_J66 q11.1 q11.2) (fun u4 =>
      some (.inr u4)) q1
def X11_bears_F (x0 : Nat) (x1 : Int32) (x2 : Int32) (x3 : Int32) (M : Gm) : Option ((Int32 × Gm) ⊕ (Nat × Gm)) :=
  (sh_X11_needZone x0 x1 M).bind fun q1 =>
  Sum.elim (fun u3 =>
    (sh_X11_needWhat x3 1 M).bind fun q5 =>
    Sum.elim (fun u7 =>
      if x3 = 0 then
        X11_bears_J24 x0 x1 x2 x3 x2 1 200 M
      else
        X11_bears_J24 x0 x1 x2 x3 x2 1 60 M) (fun u8 =>
        some (.inr u8)) q5) (fun u4 =>
      some (.inr u4)) q1
def sh_X11_bears (x0 : Nat) (x1 : Int32) (x2 : Int32) (x3 : Int32) (M : Gm) : Option ((Int32 × Gm) ⊕ (Nat × Gm)) := (isO M x0 11).bind fun _ => X11_bears_F x0 x1 x2 x3 M
theorem X11_bears_J66_ok {w : Gw} {d : Nat} {s0 : Int32} {M : Gm} {out : (Int32 × Gm) ⊕ (Nat × Gm)} (h : X11_bears_J66 s0 M = some out) : Wp w mdX11_bears (d + 7) 66 [none, none, none, none] [.inl s0] M (xoP out) (xmP out) := by
  unfold X11_bears_J66 at h
  cases h
  exact wp_iret dX11_bears_66 rfl

theorem X11_bears_J24_ok {w : Gw} {d : Nat} {x0 : Nat} {x1 : Int32} {x2 : Int32} {x3 : Int32} {s0 : Int32} {s1 : Int32} {s2 : Int32} {M : Gm} {out : (Int32 × Gm) ⊕ (Nat × Gm)} (h : X11_bears_J24 x0 x1 x2 x3 s0 s1 s2 M = some out) : Wp w mdX11_bears (d + 7) 24 [some (.inr x0), some (.inl x1), some (.inl x2), some (.inl x3)] [.inl s2, .inl s1, .inl s0] M (xoP out) (xmP out) := by
  unfold X11_bears_J24 at h
  obtain ⟨q1, e2, h⟩ := bnd h
  cases q1 with
  | inl u3 =>
    replace h := elim_l h
    refine wp_callS (As := [.inl s0, .inl s1, .inl s2]) dX11_bears_24 (sh_X11_needMinutes_ok (d := d) e2) okX11_needMinutes nnX11_needMinutes ssX11_needMinutes ml_RX11_289 rfl (Nat.le_of_ble_eq_true rfl) ?_
    refine wp_iload_n dX11_bears_27 rfl ?_
    refine wp_if_ne (tgt := 50) dX11_bears_28 (by decide) (fun hc_ => ?_) (fun hc_ => ?_)
    · replace h := ite_f hc_ h
      refine wp_aload_n dX11_bears_50 rfl ?_
      obtain ⟨v5, e6, h⟩ := bnd h
      refine wp_getR (c := 11) (k := 10) dX11_bears_51 e6 (by decide) (by decide) rfl fl_RX11_67 ?_
      refine wp_aload_n dX11_bears_54 rfl ?_
      obtain ⟨v7, e8, h⟩ := bnd h
      refine wp_getR (c := 11) (k := 6) dX11_bears_55 e8 (by decide) (by decide) rfl fl_RX11_44 ?_
      obtain ⟨v9, e10, h⟩ := bnd h
      refine wp_getR (c := 4) (k := 0) dX11_bears_58 e10 (by decide) (by decide) rfl fl_RX11_96 ?_
      refine wp_iload_n dX11_bears_61 rfl ?_
      refine wp_iload_n dX11_bears_62 rfl ?_
      obtain ⟨q11, e12, h⟩ := bnd h
      refine wp_callV (As := [.inr v9, .inl x1, .inl x2]) dX11_bears_63 (sh_X3_greatestLoad_ok (d := d) e12) okX3_greatestLoad nnX3_greatestLoad vvX3_greatestLoad ml_RX11_301 rfl (Nat.le_of_ble_eq_true rfl) ?_
      exact wp_ls (lsN (lsN (lsN (lsN lsZ)))) (X11_bears_J66_ok h)
    · replace h := ite_t hc_ h
      refine wp_aload_n dX11_bears_31 rfl ?_
      obtain ⟨v13, e14, h⟩ := bnd h
      refine wp_getR (c := 11) (k := 10) dX11_bears_32 e14 (by decide) (by decide) rfl fl_RX11_67 ?_
      refine wp_aload_n dX11_bears_35 rfl ?_
      obtain ⟨v15, e16, h⟩ := bnd h
      refine wp_getR (c := 11) (k := 6) dX11_bears_36 e16 (by decide) (by decide) rfl fl_RX11_44 ?_
      obtain ⟨v17, e18, h⟩ := bnd h
      refine wp_getR (c := 4) (k := 0) dX11_bears_39 e18 (by decide) (by decide) rfl fl_RX11_96 ?_
      refine wp_iload_n dX11_bears_42 rfl ?_
      refine wp_iload_n dX11_bears_43 rfl ?_
      obtain ⟨q19, e20, h⟩ := bnd h
      refine wp_callV (As := [.inr v17, .inl x1, .inl x2]) dX11_bears_44 (sh_X3_peakHeat_ok (d := d + 1) e20) okX3_peakHeat nnX3_peakHeat vvX3_peakHeat ml_RX11_297 rfl (Nat.le_of_ble_eq_true rfl) ?_
      refine wp_goto (tgt := 66) dX11_bears_47 (by decide) ?_
      exact wp_ls (lsN (lsN (lsN (lsN lsZ)))) (X11_bears_J66_ok h)
  | inr u4 =>
    replace h := elim_r h
    cases h
    exact wp_callSx (As := [.inl s0, .inl s1, .inl s2]) dX11_bears_24 (sh_X11_needMinutes_ok (d := d) e2) okX11_needMinutes nnX11_needMinutes ssX11_needMinutes ml_RX11_289 rfl (Nat.le_of_ble_eq_true rfl) rfl

theorem X11_bears_F_ok {w : Gw} {d : Nat} {x0 : Nat} {x1 : Int32} {x2 : Int32} {x3 : Int32} {M : Gm} {out : (Int32 × Gm) ⊕ (Nat × Gm)} (h : X11_bears_F x0 x1 x2 x3 M = some out) : Wp w mdX11_bears (d + 7) 0 [some (.inr x0), some (.inl x1), some (.inl x2), some (.inl x3)] [] M (xoP out) (xmP out) := by
  unfold X11_bears_F at h
  refine wp_aload_n dX11_bears_0 rfl ?_
  refine wp_iload_n dX11_bears_1 rfl ?_
  obtain ⟨q1, e2, h⟩ := bnd h
  cases q1 with
  | inl u3 =>
    replace h := elim_l h
    refine wp_callV (As := [.inl x1]) dX11_bears_2 (sh_X11_needZone_ok (d := d) e2) okX11_needZone nnX11_needZone vvX11_needZone ml_RX11_156 rfl (Nat.le_of_ble_eq_true rfl) ?_
    refine wp_iload_n dX11_bears_5 rfl ?_
    refine wp_iconst (v := 1) dX11_bears_6 (by decide) ?_
    obtain ⟨q5, e6, h⟩ := bnd h
    cases q5 with
    | inl u7 =>
      replace h := elim_l h
      refine wp_callS (As := [.inl x3, .inl 1]) dX11_bears_7 (sh_X11_needWhat_ok (d := d) e6) okX11_needWhat nnX11_needWhat ssX11_needWhat ml_RX11_264 rfl (Nat.le_of_ble_eq_true rfl) ?_
      refine wp_iload_n dX11_bears_10 rfl ?_
      refine wp_iconst (v := 1) dX11_bears_11 (by decide) ?_
      refine wp_iload_n dX11_bears_12 rfl ?_
      refine wp_if_ne (tgt := 22) dX11_bears_13 (by decide) (fun hc_ => ?_) (fun hc_ => ?_)
      · replace h := ite_f hc_ h
        refine wp_bipush (v := 60) dX11_bears_22 (by decide) ?_
        exact wp_ls (lsS (lsS (lsS (lsS lsZ)))) (X11_bears_J24_ok h)
      · replace h := ite_t hc_ h
        refine wp_sipush (v := 200) dX11_bears_16 (by decide) ?_
        refine wp_goto (tgt := 24) dX11_bears_19 (by decide) ?_
        exact wp_ls (lsS (lsS (lsS (lsS lsZ)))) (X11_bears_J24_ok h)
    | inr u8 =>
      replace h := elim_r h
      cases h
      exact wp_callSx (As := [.inl x3, .inl 1]) dX11_bears_7 (sh_X11_needWhat_ok (d := d) e6) okX11_needWhat nnX11_needWhat ssX11_needWhat ml_RX11_264 rfl (Nat.le_of_ble_eq_true rfl) rfl
  | inr u4 =>
    replace h := elim_r h
    cases h
    exact wp_callVx (As := [.inl x1]) dX11_bears_2 (sh_X11_needZone_ok (d := d) e2) okX11_needZone nnX11_needZone vvX11_needZone ml_RX11_156 rfl (Nat.le_of_ble_eq_true rfl) rfl

theorem sh_X11_bears_ok {w : Gw} {d : Nat} {x0 : Nat} {x1 : Int32} {x2 : Int32} {x3 : Int32} {M : Gm} {out : (Int32 × Gm) ⊕ (Nat × Gm)} (h : sh_X11_bears x0 x1 x2 x3 M = some out) : Ev w mdX11_bears (d + 7) [.inr x0, .inl x1, .inl x2, .inl x3] M (xoP out) (xmP out) := by
  obtain ⟨u, e0, h⟩ := bnd h
  exact ev_of okX11_bears ⟨_, _, rfl, isO_of e0 (by decide), by decide⟩ (Nat.le_of_ble_eq_true rfl) (X11_bears_F_ok h)

/-! HeatGovernor$Foresight.countFlips(LHeatGovernor$State;II)I -/
def X3_countFlips_J63 (x0 : Nat) (x2 : Int32) (x3 : Int32) (x5 : Int32) (s0 : Int32) (s1 : Int32) (M : Gm) : Option ((Int32 × Int32 × Gm) ⊕ (Int32 × Gm)) :=
  some (.inl (s0 + s1, x5 + 1, M))
def X3_countFlips_B14 (x0 : Nat) (x2 : Int32) (x3 : Int32) (q : Int32 × Int32 × Gm) : Option ((Int32 × Int32 × Gm) ⊕ (Int32 × Gm)) :=
  if x3 ≤ q.2.1 then
    some (.inr (q.1, q.2.2))
  else
    (gfR q.2.2 x0 3 0).bind fun v1 =>
    (gfR q.2.2 v1 7 10).bind fun v3 =>
    (ldA q.2.2 0 v3 x2).bind fun v5 =>
    (gfR q.2.2 x0 3 5).bind fun v7 =>
    (gfR q.2.2 x0 3 0).bind fun v9 =>
    (sh_X1_passMinute v7 v9 q.2.2).bind fun q11 =>
    (gfR q11 x0 3 0).bind fun v13 =>
    (gfR q11 v13 7 10).bind fun v15 =>
    (ldA q11 0 v15 x2).bind fun v17 =>
    if v17 = v5 then
      X3_countFlips_J63 x0 x2 x3 q.2.1 q.1 0 q11
    else
      X3_countFlips_J63 x0 x2 x3 q.2.1 q.1 1 q11
def X3_countFlips_F (x0 : Nat) (x1 : Nat) (x2 : Int32) (x3 : Int32) (M : Gm) : Option (Int32 × Gm) :=
  (gfR M x0 3 0).bind fun v1 =>
  (sh_X7_copyFrom v1 x1 M).bind fun q3 =>
  (lp (X3_countFlips_B14 x0 x2 x3) FU (0, 0, q3)).bind fun r5 =>
  some (r5.1, r5.2)
def sh_X3_countFlips (x0 : Nat) (x1 : Nat) (x2 : Int32) (x3 : Int32) (M : Gm) : Option (Int32 × Gm) := (isO M x0 3).bind fun _ => X3_countFlips_F x0 x1 x2 x3 M
theorem X3_countFlips_J63_ok {w : Gw} {d : Nat} {x0 : Nat} {x2 : Int32} {x3 : Int32} {x5 : Int32} {s0 : Int32} {s1 : Int32} {M : Gm} {o : Go} {M' : Gm} {out : (Int32 × Int32 × Gm) ⊕ (Int32 × Gm)} (h : X3_countFlips_J63 x0 x2 x3 x5 s0 s1 M = some out) (hc : ∀ t : Int32 × Int32 × Gm, out = .inl t → Wp w mdX3_countFlips (d + 5) 14 [some (.inr x0), none, some (.inl x2), some (.inl x3), some (.inl t.1), some (.inl t.2.1), none] [] t.2.2 o M') (he0 : ∀ t : Int32 × Gm, out = .inr t → Wp w mdX3_countFlips (d + 5) 72 [none, none, none, none, some (.inl t.1), none, none] [] t.2 o M') : Wp w mdX3_countFlips (d + 5) 63 [some (.inr x0), none, some (.inl x2), some (.inl x3), none, some (.inl x5), none] [.inl s1, .inl s0] M o M' := by
  unfold X3_countFlips_J63 at h
  refine wp_iadd dX3_countFlips_63 ?_
  refine wp_istore dX3_countFlips_64 (Nat.le_of_ble_eq_true rfl) ?_
  refine wp_iinc (v := x5 + 1) dX3_countFlips_66 rfl rfl ?_
  refine wp_goto (tgt := 14) dX3_countFlips_69 (by decide) ?_
  cases h
  exact wp_ls (lsS (lsN (lsS (lsS (lsS (lsS (lsN lsZ))))))) (hc (s0 + s1, x5 + 1, M) rfl)

theorem X3_countFlips_B14_ok {w : Gw} {d : Nat} {x0 : Nat} {x2 : Int32} {x3 : Int32} {q : Int32 × Int32 × Gm} {o : Go} {M' : Gm} {out : (Int32 × Int32 × Gm) ⊕ (Int32 × Gm)} (h : X3_countFlips_B14 x0 x2 x3 q = some out) (hc : ∀ t : Int32 × Int32 × Gm, out = .inl t → Wp w mdX3_countFlips (d + 5) 14 [some (.inr x0), none, some (.inl x2), some (.inl x3), some (.inl t.1), some (.inl t.2.1), none] [] t.2.2 o M') (he0 : ∀ t : Int32 × Gm, out = .inr t → Wp w mdX3_countFlips (d + 5) 72 [none, none, none, none, some (.inl t.1), none, none] [] t.2 o M') : Wp w mdX3_countFlips (d + 5) 14 [some (.inr x0), none, some (.inl x2), some (.inl x3), some (.inl q.1), some (.inl q.2.1), none] [] q.2.2 o M' := by
  unfold X3_countFlips_B14 at h
  refine wp_iload dX3_countFlips_14 rfl ?_
  refine wp_iload_n dX3_countFlips_16 rfl ?_
  refine wp_icmp_ge (tgt := 72) dX3_countFlips_17 (by decide) (fun hc_ => ?_) (fun hc_ => ?_)
  · replace h := ite_t hc_ h
    cases h
    exact wp_ls (lsN (lsN (lsN (lsN (lsS (lsN (lsN lsZ))))))) (he0 (q.1, q.2.2) rfl)
  · replace h := ite_f hc_ h
    refine wp_aload_n dX3_countFlips_20 rfl ?_
    obtain ⟨v1, e2, h⟩ := bnd h
    refine wp_getR (c := 3) (k := 0) dX3_countFlips_21 e2 (by decide) (by decide) rfl fl_RX3_36 ?_
    obtain ⟨v3, e4, h⟩ := bnd h
    refine wp_getR (c := 7) (k := 10) dX3_countFlips_24 e4 (by decide) (by decide) rfl fl_RX3_62 ?_
    refine wp_iload_n dX3_countFlips_27 rfl ?_
    obtain ⟨v5, e6, h⟩ := bnd h
    refine wp_iaload dX3_countFlips_28 e6 ?_
    refine wp_istore dX3_countFlips_29 (Nat.le_of_ble_eq_true rfl) ?_
    refine wp_aload_n dX3_countFlips_31 rfl ?_
    obtain ⟨v7, e8, h⟩ := bnd h
    refine wp_getR (c := 3) (k := 5) dX3_countFlips_32 e8 (by decide) (by decide) rfl fl_RX3_40 ?_
    refine wp_aload_n dX3_countFlips_35 rfl ?_
    obtain ⟨v9, e10, h⟩ := bnd h
    refine wp_getR (c := 3) (k := 0) dX3_countFlips_36 e10 (by decide) (by decide) rfl fl_RX3_36 ?_
    obtain ⟨q11, e12, h⟩ := bnd h
    refine wp_callV (As := [.inr v9]) dX3_countFlips_39 (sh_X1_passMinute_ok (d := d) e12) okX1_passMinute nnX1_passMinute vvX1_passMinute ml_RX3_48 rfl (Nat.le_of_ble_eq_true rfl) ?_
    refine wp_iload dX3_countFlips_42 rfl ?_
    refine wp_aload_n dX3_countFlips_44 rfl ?_
    obtain ⟨v13, e14, h⟩ := bnd h
    refine wp_getR (c := 3) (k := 0) dX3_countFlips_45 e14 (by decide) (by decide) rfl fl_RX3_36 ?_
    obtain ⟨v15, e16, h⟩ := bnd h
    refine wp_getR (c := 7) (k := 10) dX3_countFlips_48 e16 (by decide) (by decide) rfl fl_RX3_62 ?_
    refine wp_iload_n dX3_countFlips_51 rfl ?_
    obtain ⟨v17, e18, h⟩ := bnd h
    refine wp_iaload dX3_countFlips_52 e18 ?_
    refine wp_iload dX3_countFlips_53 rfl ?_
    refine wp_icmp_ne (tgt := 62) dX3_countFlips_55 (by decide) (fun hc_ => ?_) (fun hc_ => ?_)
    · replace h := ite_f hc_ h
      refine wp_iconst (v := 1) dX3_countFlips_62 (by decide) ?_
      exact wp_ls (lsS (lsN (lsS (lsS (lsN (lsS (lsN lsZ))))))) (X3_countFlips_J63_ok h hc he0)
    · replace h := ite_t hc_ h
      refine wp_iconst (v := 0) dX3_countFlips_58 (by decide) ?_
      refine wp_goto (tgt := 63) dX3_countFlips_59 (by decide) ?_
      exact wp_ls (lsS (lsN (lsS (lsS (lsN (lsS (lsN lsZ))))))) (X3_countFlips_J63_ok h hc he0)

theorem X3_countFlips_B14_lp {w : Gw} {d : Nat} {x0 : Nat} {x2 : Int32} {x3 : Int32} {o : Go} {M' : Gm} {r : (Int32 × Gm)} : ∀ (n : Nat) (q : Int32 × Int32 × Gm), lp (X3_countFlips_B14 x0 x2 x3) n q = some r → (∀ t : Int32 × Gm, r = t → Wp w mdX3_countFlips (d + 5) 72 [none, none, none, none, some (.inl t.1), none, none] [] t.2 o M') → Wp w mdX3_countFlips (d + 5) 14 [some (.inr x0), none, some (.inl x2), some (.inl x3), some (.inl q.1), some (.inl q.2.1), none] [] q.2.2 o M' := by
  intro n
  induction n with
  | zero => intro q h; cases h
  | succ n ih =>
    intro q h he0
    cases hb : X3_countFlips_B14 x0 x2 x3 q with
    | none => rw [lp_succ, hb] at h; cases h
    | some out =>
      rw [lp_succ, hb] at h
      exact X3_countFlips_B14_ok hb (fun t e => ih t (by rw [e] at h; exact h) he0) (fun t e => he0 t (by rw [e] at h; cases h; rfl))
theorem X3_countFlips_F_ok {w : Gw} {d : Nat} {x0 : Nat} {x1 : Nat} {x2 : Int32} {x3 : Int32} {M : Gm} {out : Int32 × Gm} (h : X3_countFlips_F x0 x1 x2 x3 M = some out) : Wp w mdX3_countFlips (d + 5) 0 [some (.inr x0), some (.inr x1), some (.inl x2), some (.inl x3), none, none, none] [] M (.inl (some (.inl out.1))) out.2 := by
  unfold X3_countFlips_F at h
  refine wp_aload_n dX3_countFlips_0 rfl ?_
  obtain ⟨v1, e2, h⟩ := bnd h
  refine wp_getR (c := 3) (k := 0) dX3_countFlips_1 e2 (by decide) (by decide) rfl fl_RX3_36 ?_
  refine wp_aload_n dX3_countFlips_4 rfl ?_
  obtain ⟨q3, e4, h⟩ := bnd h
  refine wp_callV (As := [.inr x1]) dX3_countFlips_5 (sh_X7_copyFrom_ok (d := d + 2) e4) okX7_copyFrom nnX7_copyFrom vvX7_copyFrom ml_RX3_44 rfl (Nat.le_of_ble_eq_true rfl) ?_
  refine wp_iconst (v := 0) dX3_countFlips_8 (by decide) ?_
  refine wp_istore dX3_countFlips_9 (Nat.le_of_ble_eq_true rfl) ?_
  refine wp_iconst (v := 0) dX3_countFlips_11 (by decide) ?_
  refine wp_istore dX3_countFlips_12 (Nat.le_of_ble_eq_true rfl) ?_
  obtain ⟨r5, e6, h⟩ := bnd h
  refine wp_ls (lsS (lsN (lsS (lsS (lsS (lsS (lsN lsZ))))))) (X3_countFlips_B14_lp FU _ e6 ?_)
  intro t_ ht_; cases ht_
  refine wp_iload dX3_countFlips_72 rfl ?_
  cases h
  exact wp_iret dX3_countFlips_74 rfl

theorem sh_X3_countFlips_ok {w : Gw} {d : Nat} {x0 : Nat} {x1 : Nat} {x2 : Int32} {x3 : Int32} {M : Gm} {out : Int32 × Gm} (h : sh_X3_countFlips x0 x1 x2 x3 M = some out) : Ev w mdX3_countFlips (d + 5) [.inr x0, .inr x1, .inl x2, .inl x3] M (.inl (some (.inl out.1))) out.2 := by
  obtain ⟨u, e0, h⟩ := bnd h
  exact ev_of okX3_countFlips ⟨_, _, rfl, isO_of e0 (by decide), by decide⟩ (Nat.le_of_ble_eq_true rfl) (X3_countFlips_F_ok h)

/-! HeatGovernor.flips(II)I -/
def X11_flips_F (x0 : Nat) (x1 : Int32) (x2 : Int32) (M : Gm) : Option ((Int32 × Gm) ⊕ (Nat × Gm)) :=
  (sh_X11_needTrip x0 x1 M).bind fun q1 =>
  Sum.elim (fun u3 =>
    (sh_X11_needMinutes x2 1 200 M).bind fun q5 =>
    Sum.elim (fun u7 =>
      (gfR M x0 11 10).bind fun v9 =>
      (gfR M x0 11 6).bind fun v11 =>
      (gfR M v11 4 0).bind fun v13 =>
      (sh_X3_countFlips v9 v13 x1 x2 M).bind fun q15 =>
      some (.inl (q15.1, q15.2))) (fun u8 =>
        some (.inr u8)) q5) (fun u4 =>
      some (.inr u4)) q1
def sh_X11_flips (x0 : Nat) (x1 : Int32) (x2 : Int32) (M : Gm) : Option ((Int32 × Gm) ⊕ (Nat × Gm)) := (isO M x0 11).bind fun _ => X11_flips_F x0 x1 x2 M
theorem X11_flips_F_ok {w : Gw} {d : Nat} {x0 : Nat} {x1 : Int32} {x2 : Int32} {M : Gm} {out : (Int32 × Gm) ⊕ (Nat × Gm)} (h : X11_flips_F x0 x1 x2 M = some out) : Wp w mdX11_flips (d + 7) 0 [some (.inr x0), some (.inl x1), some (.inl x2)] [] M (xoP out) (xmP out) := by
  unfold X11_flips_F at h
  refine wp_aload_n dX11_flips_0 rfl ?_
  refine wp_iload_n dX11_flips_1 rfl ?_
  obtain ⟨q1, e2, h⟩ := bnd h
  cases q1 with
  | inl u3 =>
    replace h := elim_l h
    refine wp_callV (As := [.inl x1]) dX11_flips_2 (sh_X11_needTrip_ok (d := d) e2) okX11_needTrip nnX11_needTrip vvX11_needTrip ml_RX11_200 rfl (Nat.le_of_ble_eq_true rfl) ?_
    refine wp_iload_n dX11_flips_5 rfl ?_
    refine wp_iconst (v := 1) dX11_flips_6 (by decide) ?_
    refine wp_sipush (v := 200) dX11_flips_7 (by decide) ?_
    obtain ⟨q5, e6, h⟩ := bnd h
    cases q5 with
    | inl u7 =>
      replace h := elim_l h
      refine wp_callS (As := [.inl x2, .inl 1, .inl 200]) dX11_flips_10 (sh_X11_needMinutes_ok (d := d) e6) okX11_needMinutes nnX11_needMinutes ssX11_needMinutes ml_RX11_289 rfl (Nat.le_of_ble_eq_true rfl) ?_
      refine wp_aload_n dX11_flips_13 rfl ?_
      obtain ⟨v9, e10, h⟩ := bnd h
      refine wp_getR (c := 11) (k := 10) dX11_flips_14 e10 (by decide) (by decide) rfl fl_RX11_67 ?_
      refine wp_aload_n dX11_flips_17 rfl ?_
      obtain ⟨v11, e12, h⟩ := bnd h
      refine wp_getR (c := 11) (k := 6) dX11_flips_18 e12 (by decide) (by decide) rfl fl_RX11_44 ?_
      obtain ⟨v13, e14, h⟩ := bnd h
      refine wp_getR (c := 4) (k := 0) dX11_flips_21 e14 (by decide) (by decide) rfl fl_RX11_96 ?_
      refine wp_iload_n dX11_flips_24 rfl ?_
      refine wp_iload_n dX11_flips_25 rfl ?_
      obtain ⟨q15, e16, h⟩ := bnd h
      refine wp_callV (As := [.inr v13, .inl x1, .inl x2]) dX11_flips_26 (sh_X3_countFlips_ok (d := d + 1) e16) okX3_countFlips nnX3_countFlips vvX3_countFlips ml_RX11_304 rfl (Nat.le_of_ble_eq_true rfl) ?_
      cases h
      exact wp_iret dX11_flips_29 rfl
    | inr u8 =>
      replace h := elim_r h
      cases h
      exact wp_callSx (As := [.inl x2, .inl 1, .inl 200]) dX11_flips_10 (sh_X11_needMinutes_ok (d := d) e6) okX11_needMinutes nnX11_needMinutes ssX11_needMinutes ml_RX11_289 rfl (Nat.le_of_ble_eq_true rfl) rfl
  | inr u4 =>
    replace h := elim_r h
    cases h
    exact wp_callVx (As := [.inl x1]) dX11_flips_2 (sh_X11_needTrip_ok (d := d) e2) okX11_needTrip nnX11_needTrip vvX11_needTrip ml_RX11_200 rfl (Nat.le_of_ble_eq_true rfl) rfl

theorem sh_X11_flips_ok {w : Gw} {d : Nat} {x0 : Nat} {x1 : Int32} {x2 : Int32} {M : Gm} {out : (Int32 × Gm) ⊕ (Nat × Gm)} (h : sh_X11_flips x0 x1 x2 M = some out) : Ev w mdX11_flips (d + 7) [.inr x0, .inl x1, .inl x2] M (xoP out) (xmP out) := by
  obtain ⟨u, e0, h⟩ := bnd h
  exact ev_of okX11_flips ⟨_, _, rfl, isO_of e0 (by decide), by decide⟩ (Nat.le_of_ble_eq_true rfl) (X11_flips_F_ok h)

/-! HeatGovernor$Memory.notesAgree(LHeatGovernor$State;I)Z -/
def X4_notesAgree_J42 (x0 : Nat) (x1 : Nat) (x2 : Int32) (x3 : Int32) (M : Gm) : Option (Int32 ⊕ Unit ⊕ Unit) :=
  some (.inl (x3 + 1))
def X4_notesAgree_B2 (x0 : Nat) (x1 : Nat) (x2 : Int32) (M : Gm) (q : Int32) : Option (Int32 ⊕ Unit ⊕ Unit) :=
  (gfI M x0 4 7).bind fun v1 =>
  if v1 ≤ q then
    some (.inr (.inl ()))
  else
    (gfR M x0 4 5).bind fun v3 =>
    (ldA M 0 v3 q).bind fun v5 =>
    if v5 = x2 then
      (gfR M x0 4 6).bind fun v7 =>
      (ldA M 0 v7 q).bind fun v9 =>
      (gfR M x1 7 3).bind fun v11 =>
      (gfR M x0 4 4).bind fun v13 =>
      (ldA M 0 v13 q).bind fun v15 =>
      (ldA M 0 v11 v15).bind fun v17 =>
      if v9 = v17 then
        X4_notesAgree_J42 x0 x1 x2 q M
      else
        some (.inr (.inr ()))
    else
      X4_notesAgree_J42 x0 x1 x2 q M
def X4_notesAgree_F (x0 : Nat) (x1 : Nat) (x2 : Int32) (M : Gm) : Option (Int32) :=
  (lp (X4_notesAgree_B2 x0 x1 x2 M) FU 0).bind fun r1 =>
  Sum.elim (fun u3 =>
    (zck 1).bind fun z4 =>
    some z4) (fun u6 =>
    (zck 0).bind fun z7 =>
    some z7) r1
def sh_X4_notesAgree (x0 : Nat) (x1 : Nat) (x2 : Int32) (M : Gm) : Option (Int32) := (isO M x0 4).bind fun _ => X4_notesAgree_F x0 x1 x2 M
theorem X4_notesAgree_J42_ok {w : Gw} {d : Nat} {x0 : Nat} {x1 : Nat} {x2 : Int32} {x3 : Int32} {M : Gm} {o : Go} {M' : Gm} {out : Int32 ⊕ Unit ⊕ Unit} (h : X4_notesAgree_J42 x0 x1 x2 x3 M = some out) (hc : ∀ t : Int32, out = .inl t → Wp w mdX4_notesAgree d 2 [some (.inr x0), some (.inr x1), some (.inl x2), some (.inl t)] [] M o M') (he0 : ∀ t : Unit, out = .inr (.inl t) → Wp w mdX4_notesAgree d 48 [none, none, none, none] [] M o M') (he1 : ∀ t : Unit, out = .inr (.inr t) → Wp w mdX4_notesAgree d 40 [none, none, none, none] [] M o M') : Wp w mdX4_notesAgree d 42 [some (.inr x0), some (.inr x1), some (.inl x2), some (.inl x3)] [] M o M' := by
  unfold X4_notesAgree_J42 at h
  refine wp_iinc (v := x3 + 1) dX4_notesAgree_42 rfl rfl ?_
  refine wp_goto (tgt := 2) dX4_notesAgree_45 (by decide) ?_
  cases h
  exact wp_ls (lsS (lsS (lsS (lsS lsZ)))) (hc (x3 + 1) rfl)

theorem X4_notesAgree_B2_ok {w : Gw} {d : Nat} {x0 : Nat} {x1 : Nat} {x2 : Int32} {M : Gm} {q : Int32} {o : Go} {M' : Gm} {out : Int32 ⊕ Unit ⊕ Unit} (h : X4_notesAgree_B2 x0 x1 x2 M q = some out) (hc : ∀ t : Int32, out = .inl t → Wp w mdX4_notesAgree d 2 [some (.inr x0), some (.inr x1), some (.inl x2), some (.inl t)] [] M o M') (he0 : ∀ t : Unit, out = .inr (.inl t) → Wp w mdX4_notesAgree d 48 [none, none, none, none] [] M o M') (he1 : ∀ t : Unit, out = .inr (.inr t) → Wp w mdX4_notesAgree d 40 [none, none, none, none] [] M o M') : Wp w mdX4_notesAgree d 2 [some (.inr x0), some (.inr x1), some (.inl x2), some (.inl q)] [] M o M' := by
  unfold X4_notesAgree_B2 at h
  refine wp_iload_n dX4_notesAgree_2 rfl ?_
  refine wp_aload_n dX4_notesAgree_3 rfl ?_
  obtain ⟨v1, e2, h⟩ := bnd h
  refine wp_getI (c := 4) (k := 7) dX4_notesAgree_4 e2 (by decide) (by decide) rfl fl_RX4_34 ?_
  refine wp_icmp_ge (tgt := 48) dX4_notesAgree_7 (by decide) (fun hc_ => ?_) (fun hc_ => ?_)
  · replace h := ite_t hc_ h
    cases h
    exact wp_ls (lsN (lsN (lsN (lsN lsZ)))) (he0 () rfl)
  · replace h := ite_f hc_ h
    refine wp_aload_n dX4_notesAgree_10 rfl ?_
    obtain ⟨v3, e4, h⟩ := bnd h
    refine wp_getR (c := 4) (k := 5) dX4_notesAgree_11 e4 (by decide) (by decide) rfl fl_RX4_28 ?_
    refine wp_iload_n dX4_notesAgree_14 rfl ?_
    obtain ⟨v5, e6, h⟩ := bnd h
    refine wp_iaload dX4_notesAgree_15 e6 ?_
    refine wp_iload_n dX4_notesAgree_16 rfl ?_
    refine wp_icmp_ne (tgt := 42) dX4_notesAgree_17 (by decide) (fun hc_ => ?_) (fun hc_ => ?_)
    · replace h := ite_f hc_ h
      exact wp_ls (lsS (lsS (lsS (lsS lsZ)))) (X4_notesAgree_J42_ok h hc he0 he1)
    · replace h := ite_t hc_ h
      refine wp_aload_n dX4_notesAgree_20 rfl ?_
      obtain ⟨v7, e8, h⟩ := bnd h
      refine wp_getR (c := 4) (k := 6) dX4_notesAgree_21 e8 (by decide) (by decide) rfl fl_RX4_31 ?_
      refine wp_iload_n dX4_notesAgree_24 rfl ?_
      obtain ⟨v9, e10, h⟩ := bnd h
      refine wp_iaload dX4_notesAgree_25 e10 ?_
      refine wp_aload_n dX4_notesAgree_26 rfl ?_
      obtain ⟨v11, e12, h⟩ := bnd h
      refine wp_getR (c := 7) (k := 3) dX4_notesAgree_27 e12 (by decide) (by decide) rfl fl_RX4_74 ?_
      refine wp_aload_n dX4_notesAgree_30 rfl ?_
      obtain ⟨v13, e14, h⟩ := bnd h
      refine wp_getR (c := 4) (k := 4) dX4_notesAgree_31 e14 (by decide) (by decide) rfl fl_RX4_24 ?_
      refine wp_iload_n dX4_notesAgree_34 rfl ?_
      obtain ⟨v15, e16, h⟩ := bnd h
      refine wp_iaload dX4_notesAgree_35 e16 ?_
      obtain ⟨v17, e18, h⟩ := bnd h
      refine wp_iaload dX4_notesAgree_36 e18 ?_
      refine wp_icmp_eq (tgt := 42) dX4_notesAgree_37 (by decide) (fun hc_ => ?_) (fun hc_ => ?_)
      · replace h := ite_t hc_ h
        exact wp_ls (lsS (lsS (lsS (lsS lsZ)))) (X4_notesAgree_J42_ok h hc he0 he1)
      · replace h := ite_f hc_ h
        cases h
        exact wp_ls (lsN (lsN (lsN (lsN lsZ)))) (he1 () rfl)

theorem X4_notesAgree_B2_lp {w : Gw} {d : Nat} {x0 : Nat} {x1 : Nat} {x2 : Int32} {M : Gm} {o : Go} {M' : Gm} {r : Unit ⊕ Unit} : ∀ (n : Nat) (q : Int32), lp (X4_notesAgree_B2 x0 x1 x2 M) n q = some r → (∀ t : Unit, r = (.inl t) → Wp w mdX4_notesAgree d 48 [none, none, none, none] [] M o M') → (∀ t : Unit, r = (.inr t) → Wp w mdX4_notesAgree d 40 [none, none, none, none] [] M o M') → Wp w mdX4_notesAgree d 2 [some (.inr x0), some (.inr x1), some (.inl x2), some (.inl q)] [] M o M' := by
  intro n
  induction n with
  | zero => intro q h; cases h
  | succ n ih =>
    intro q h he0 he1
    cases hb : X4_notesAgree_B2 x0 x1 x2 M q with
    | none => rw [lp_succ, hb] at h; cases h
    | some out =>
      rw [lp_succ, hb] at h
      exact X4_notesAgree_B2_ok hb (fun t e => ih t (by rw [e] at h; exact h) he0 he1) (fun t e => he0 t (by rw [e] at h; cases h; rfl)) (fun t e => he1 t (by rw [e] at h; cases h; rfl))
theorem X4_notesAgree_F_ok {w : Gw} {d : Nat} {x0 : Nat} {x1 : Nat} {x2 : Int32} {M : Gm} {out : Int32} (h : X4_notesAgree_F x0 x1 x2 M = some out) : Wp w mdX4_notesAgree d 0 [some (.inr x0), some (.inr x1), some (.inl x2), none] [] M (.inl (some (.inl out))) M := by
  unfold X4_notesAgree_F at h
  refine wp_iconst (v := 0) dX4_notesAgree_0 (by decide) ?_
  refine wp_istore_n dX4_notesAgree_1 (Nat.le_of_ble_eq_true rfl) ?_
  obtain ⟨r1, e2, h⟩ := bnd h
  refine wp_ls (lsS (lsS (lsS (lsS lsZ)))) (X4_notesAgree_B2_lp FU _ e2 ?_ ?_)
  · intro y3 ht_; subst ht_
    replace h := elim_l h
    refine wp_iconst (v := 1) dX4_notesAgree_48 (by decide) ?_
    obtain ⟨z4, e5, h⟩ := bnd h
    obtain ⟨hz_, rfl⟩ := zck_of e5
    cases h
    exact wp_zret dX4_notesAgree_49 rfl hz_
  · intro y6 ht_; subst ht_
    replace h := elim_r h
    refine wp_iconst (v := 0) dX4_notesAgree_40 (by decide) ?_
    obtain ⟨z7, e8, h⟩ := bnd h
    obtain ⟨hz_, rfl⟩ := zck_of e8
    cases h
    exact wp_zret dX4_notesAgree_41 rfl hz_

theorem sh_X4_notesAgree_ok {w : Gw} {d : Nat} {x0 : Nat} {x1 : Nat} {x2 : Int32} {M : Gm} {out : Int32} (h : sh_X4_notesAgree x0 x1 x2 M = some out) : Ev w mdX4_notesAgree d [.inr x0, .inr x1, .inl x2] M (.inl (some (.inl out))) M := by
  obtain ⟨u, e0, h⟩ := bnd h
  exact ev_of okX4_notesAgree ⟨_, _, rfl, isO_of e0 (by decide), by decide⟩ (Nat.le_of_ble_eq_true rfl) (X4_notesAgree_F_ok h)

/-! HeatGovernor$Foresight.agreesWithNotes(LHeatGovernor$Memory;II)Z -/
def X3_agreesWithNotes_J71 (x0 : Nat) (x1 : Nat) (x2 : Int32) (x3 : Int32) (x4 : Int32) (M : Gm) : Option ((Int32 × Gm) ⊕ Gm ⊕ Gm) :=
  some (.inl (x4 + 1, M))
def X3_agreesWithNotes_J25 (x0 : Nat) (x1 : Nat) (x2 : Int32) (x3 : Int32) (x4 : Int32) (M : Gm) : Option ((Int32 × Gm) ⊕ Gm ⊕ Gm) :=
  (gfR M x0 3 0).bind fun v1 =>
  (sh_X4_notesAgree x1 v1 x4 M).bind fun q3 =>
  if q3 = 0 then
    some (.inr (.inr M))
  else
    if 20 < x4 then
      X3_agreesWithNotes_J71 x0 x1 x2 x3 x4 M
    else
      (gfR M x0 3 6).bind fun v5 =>
      (gfI M x0 3 1).bind fun v7 =>
      (gfR M x0 3 0).bind fun v9 =>
      (gfR M v9 7 3).bind fun v11 =>
      (ldA M 0 v11 x2).bind fun v13 =>
      (stA M 0 v5 ((v7 * 21) + x4) v13).bind fun M15 =>
      X3_agreesWithNotes_J71 x0 x1 x2 x3 x4 M15
def X3_agreesWithNotes_B3 (x0 : Nat) (x1 : Nat) (x2 : Int32) (x3 : Int32) (q : Int32 × Gm) : Option ((Int32 × Gm) ⊕ Gm ⊕ Gm) :=
  if x3 < q.1 then
    some (.inr (.inl q.2))
  else
    if q.1 ≤ 0 then
      X3_agreesWithNotes_J25 x0 x1 x2 x3 q.1 q.2
    else
      (gfR q.2 x0 3 5).bind fun v1 =>
      (gfR q.2 x0 3 0).bind fun v3 =>
      (sh_X1_passMinute v1 v3 q.2).bind fun q5 =>
      X3_agreesWithNotes_J25 x0 x1 x2 x3 q.1 q5
def X3_agreesWithNotes_F (x0 : Nat) (x1 : Nat) (x2 : Int32) (x3 : Int32) (M : Gm) : Option (Int32 × Gm) :=
  (lp (X3_agreesWithNotes_B3 x0 x1 x2 x3) FU (0, M)).bind fun r1 =>
  Sum.elim (fun u3 =>
    (zck 1).bind fun z4 =>
    some (z4, u3)) (fun u6 =>
    (zck 0).bind fun z7 =>
    some (z7, u6)) r1
def sh_X3_agreesWithNotes (x0 : Nat) (x1 : Nat) (x2 : Int32) (x3 : Int32) (M : Gm) : Option (Int32 × Gm) := (isO M x0 3).bind fun _ => X3_agreesWithNotes_F x0 x1 x2 x3 M
theorem X3_agreesWithNotes_J71_ok {w : Gw} {d : Nat} {x0 : Nat} {x1 : Nat} {x2 : Int32} {x3 : Int32} {x4 : Int32} {M : Gm} {o : Go} {M' : Gm} {out : (Int32 × Gm) ⊕ Gm ⊕ Gm} (h : X3_agreesWithNotes_J71 x0 x1 x2 x3 x4 M = some out) (hc : ∀ t : Int32 × Gm, out = .inl t → Wp w mdX3_agreesWithNotes (d + 5) 3 [some (.inr x0), some (.inr x1), some (.inl x2), some (.inl x3), some (.inl t.1)] [] t.2 o M') (he0 : ∀ t : Gm, out = .inr (.inl t) → Wp w mdX3_agreesWithNotes (d + 5) 77 [none, none, none, none, none] [] t o M') (he1 : ∀ t : Gm, out = .inr (.inr t) → Wp w mdX3_agreesWithNotes (d + 5) 38 [none, none, none, none, none] [] t o M') : Wp w mdX3_agreesWithNotes (d + 5) 71 [some (.inr x0), some (.inr x1), some (.inl x2), some (.inl x3), some (.inl x4)] [] M o M' := by
  unfold X3_agreesWithNotes_J71 at h
  refine wp_iinc (v := x4 + 1) dX3_agreesWithNotes_71 rfl rfl ?_
  refine wp_goto (tgt := 3) dX3_agreesWithNotes_74 (by decide) ?_
  cases h
  exact wp_ls (lsS (lsS (lsS (lsS (lsS lsZ))))) (hc (x4 + 1, M) rfl)

theorem X3_agreesWithNotes_J25_ok {w : Gw} {d : Nat} {x0 : Nat} {x1 : Nat} {x2 : Int32} {x3 : Int32} {x4 : Int32} {M : Gm} {o : Go} {M' : Gm} {out : (Int32 × Gm) ⊕ Gm ⊕ Gm} (h : X3_agreesWithNotes_J25 x0 x1 x2 x3 x4 M = some out) (hc : ∀ t : Int32 × Gm, out = .inl t → Wp w mdX3_agreesWithNotes (d + 5) 3 [some (.inr x0), some (.inr x1), some (.inl x2), some (.inl x3), some (.inl t.1)] [] t.2 o M') (he0 : ∀ t : Gm, out = .inr (.inl t) → Wp w mdX3_agreesWithNotes (d + 5) 77 [none, none, none, none, none] [] t o M') (he1 : ∀ t : Gm, out = .inr (.inr t) → Wp w mdX3_agreesWithNotes (d + 5) 38 [none, none, none, none, none] [] t o M') : Wp w mdX3_agreesWithNotes (d + 5) 25 [some (.inr x0), some (.inr x1), some (.inl x2), some (.inl x3), some (.inl x4)] [] M o M' := by
  unfold X3_agreesWithNotes_J25 at h
  refine wp_aload_n dX3_agreesWithNotes_25 rfl ?_
  refine wp_aload_n dX3_agreesWithNotes_26 rfl ?_
  obtain ⟨v1, e2, h⟩ := bnd h
  refine wp_getR (c := 3) (k := 0) dX3_agreesWithNotes_27 e2 (by decide) (by decide) rfl fl_RX3_36 ?_
  refine wp_iload dX3_agreesWithNotes_30 rfl ?_
  obtain ⟨q3, e4, h⟩ := bnd h
  refine wp_callV (As := [.inr v1, .inl x4]) dX3_agreesWithNotes_32 (sh_X4_notesAgree_ok (d := d + 4) e4) okX4_notesAgree nnX4_notesAgree vvX4_notesAgree ml_RX3_117 rfl (Nat.le_of_ble_eq_true rfl) ?_
  refine wp_if_ne (tgt := 40) dX3_agreesWithNotes_35 (by decide) (fun hc_ => ?_) (fun hc_ => ?_)
  · replace h := ite_f hc_ h
    refine wp_iload dX3_agreesWithNotes_40 rfl ?_
    refine wp_bipush (v := 20) dX3_agreesWithNotes_42 (by decide) ?_
    refine wp_icmp_gt (tgt := 71) dX3_agreesWithNotes_44 (by decide) (fun hc_ => ?_) (fun hc_ => ?_)
    · replace h := ite_t hc_ h
      exact wp_ls (lsS (lsS (lsS (lsS (lsS lsZ))))) (X3_agreesWithNotes_J71_ok h hc he0 he1)
    · replace h := ite_f hc_ h
      refine wp_aload_n dX3_agreesWithNotes_47 rfl ?_
      obtain ⟨v5, e6, h⟩ := bnd h
      refine wp_getR (c := 3) (k := 6) dX3_agreesWithNotes_48 e6 (by decide) (by decide) rfl fl_RX3_24 ?_
      refine wp_aload_n dX3_agreesWithNotes_51 rfl ?_
      obtain ⟨v7, e8, h⟩ := bnd h
      refine wp_getI (c := 3) (k := 1) dX3_agreesWithNotes_52 e8 (by decide) (by decide) rfl fl_RX3_9 ?_
      refine wp_bipush (v := 21) dX3_agreesWithNotes_55 (by decide) ?_
      refine wp_imul dX3_agreesWithNotes_57 ?_
      refine wp_iload dX3_agreesWithNotes_58 rfl ?_
      refine wp_iadd dX3_agreesWithNotes_60 ?_
      refine wp_aload_n dX3_agreesWithNotes_61 rfl ?_
      obtain ⟨v9, e10, h⟩ := bnd h
      refine wp_getR (c := 3) (k := 0) dX3_agreesWithNotes_62 e10 (by decide) (by decide) rfl fl_RX3_36 ?_
      obtain ⟨v11, e12, h⟩ := bnd h
      refine wp_getR (c := 7) (k := 3) dX3_agreesWithNotes_65 e12 (by decide) (by decide) rfl fl_RX3_53 ?_
      refine wp_iload_n dX3_agreesWithNotes_68 rfl ?_
      obtain ⟨v13, e14, h⟩ := bnd h
      refine wp_iaload dX3_agreesWithNotes_69 e14 ?_
      obtain ⟨M15, e16, h⟩ := bnd h
      refine wp_iastore dX3_agreesWithNotes_70 e16 ?_
      exact wp_ls (lsS (lsS (lsS (lsS (lsS lsZ))))) (X3_agreesWithNotes_J71_ok h hc he0 he1)
  · replace h := ite_t hc_ h
    cases h
    exact wp_ls (lsN (lsN (lsN (lsN (lsN lsZ))))) (he1 M rfl)

theorem X3_agreesWithNotes_B3_ok {w : Gw} {d : Nat} {x0 : Nat} {x1 : Nat} {x2 : Int32} {x3 : Int32} {q : Int32 × Gm} {o : Go} {M' : Gm} {out : (Int32 × Gm) ⊕ Gm ⊕ Gm} (h : X3_agreesWithNotes_B3 x0 x1 x2 x3 q = some out) (hc : ∀ t : Int32 × Gm, out = .inl t → Wp w mdX3_agreesWithNotes (d + 5) 3 [some (.inr x0), some (.inr x1), some (.inl x2), some (.inl x3), some (.inl t.1)] [] t.2 o M') (he0 : ∀ t : Gm, out = .inr (.inl t) → Wp w mdX3_agreesWithNotes (d + 5) 77 [none, none, none, none, none] [] t o M') (he1 : ∀ t : Gm, out = .inr (.inr t) → Wp w mdX3_agreesWithNotes (d + 5) 38 [none, none, none, none, none] [] t o M') : Wp w mdX3_agreesWithNotes (d + 5) 3 [some (.inr x0), some (.inr x1), some (.inl x2), some (.inl x3), some (.inl q.1)] [] q.2 o M' := by
  unfold X3_agreesWithNotes_B3 at h
  refine wp_iload dX3_agreesWithNotes_3 rfl ?_
  refine wp_iload_n dX3_agreesWithNotes_5 rfl ?_
  refine wp_icmp_gt (tgt := 77) dX3_agreesWithNotes_6 (by decide) (fun hc_ => ?_) (fun hc_ => ?_)
  · replace h := ite_t hc_ h
    cases h
    exact wp_ls (lsN (lsN (lsN (lsN (lsN lsZ))))) (he0 q.2 rfl)
  · replace h := ite_f hc_ h
    refine wp_iload dX3_agreesWithNotes_9 rfl ?_
    refine wp_if_le (tgt := 25) dX3_agreesWithNotes_11 (by decide) (fun hc_ => ?_) (fun hc_ => ?_)
    · replace h := ite_t hc_ h
      exact wp_ls (lsS (lsS (lsS (lsS (lsS lsZ))))) (X3_agreesWithNotes_J25_ok h hc he0 he1)
    · replace h := ite_f hc_ h
      refine wp_aload_n dX3_agreesWithNotes_14 rfl ?_
      obtain ⟨v1, e2, h⟩ := bnd h
      refine wp_getR (c := 3) (k := 5) dX3_agreesWithNotes_15 e2 (by decide) (by decide) rfl fl_RX3_40 ?_
      refine wp_aload_n dX3_agreesWithNotes_18 rfl ?_
      obtain ⟨v3, e4, h⟩ := bnd h
      refine wp_getR (c := 3) (k := 0) dX3_agreesWithNotes_19 e4 (by decide) (by decide) rfl fl_RX3_36 ?_
      obtain ⟨q5, e6, h⟩ := bnd h
      refine wp_callV (As := [.inr v3]) dX3_agreesWithNotes_22 (sh_X1_passMinute_ok (d := d) e6) okX1_passMinute nnX1_passMinute vvX1_passMinute ml_RX3_48 rfl (Nat.le_of_ble_eq_true rfl) ?_
      exact wp_ls (lsS (lsS (lsS (lsS (lsS lsZ))))) (X3_agreesWithNotes_J25_ok h hc he0 he1)

theorem X3_agreesWithNotes_B3_lp {w : Gw} {d : Nat} {x0 : Nat} {x1 : Nat} {x2 : Int32} {x3 : Int32} {o : Go} {M' : Gm} {r : Gm ⊕ Gm} : ∀ (n : Nat) (q : Int32 × Gm), lp (X3_agreesWithNotes_B3 x0 x1 x2 x3) n q = some r → (∀ t : Gm, r = (.inl t) → Wp w mdX3_agreesWithNotes (d + 5) 77 [none, none, none, none, none] [] t o M') → (∀ t : Gm, r = (.inr t) → Wp w mdX3_agreesWithNotes (d + 5) 38 [none, none, none, none, none] [] t o M') → Wp w mdX3_agreesWithNotes (d + 5) 3 [some (.inr x0), some (.inr x1), some (.inl x2), some (.inl x3), some (.inl q.1)] [] q.2 o M' := by
  intro n
  induction n with
  | zero => intro q h; cases h
  | succ n ih =>
    intro q h he0 he1
    cases hb : X3_agreesWithNotes_B3 x0 x1 x2 x3 q with
    | none => rw [lp_succ, hb] at h; cases h
    | some out =>
      rw [lp_succ, hb] at h
      exact X3_agreesWithNotes_B3_ok hb (fun t e => ih t (by rw [e] at h; exact h) he0 he1) (fun t e => he0 t (by rw [e] at h; cases h; rfl)) (fun t e => he1 t (by rw [e] at h; cases h; rfl))
theorem X3_agreesWithNotes_F_ok {w : Gw} {d : Nat} {x0 : Nat} {x1 : Nat} {x2 : Int32} {x3 : Int32} {M : Gm} {out : Int32 × Gm} (h : X3_agreesWithNotes_F x0 x1 x2 x3 M = some out) : Wp w mdX3_agreesWithNotes (d + 5) 0 [some (.inr x0), some (.inr x1), some (.inl x2), some (.inl x3), none] [] M (.inl (some (.inl out.1))) out.2 := by
  unfold X3_agreesWithNotes_F at h
  refine wp_iconst (v := 0) dX3_agreesWithNotes_0 (by decide) ?_
  refine wp_istore dX3_agreesWithNotes_1 (Nat.le_of_ble_eq_true rfl) ?_
  obtain ⟨r1, e2, h⟩ := bnd h
  refine wp_ls (lsS (lsS (lsS (lsS (lsS lsZ))))) (X3_agreesWithNotes_B3_lp FU _ e2 ?_ ?_)
  · intro y3 ht_; subst ht_
    replace h := elim_l h
    refine wp_iconst (v := 1) dX3_agreesWithNotes_77 (by decide) ?_
    obtain ⟨z4, e5, h⟩ := bnd h
    obtain ⟨hz_, rfl⟩ := zck_of e5
    cases h
    exact wp_zret dX3_agreesWithNotes_78 rfl hz_
  · intro y6 ht_; subst ht_
    replace h := elim_r h
    refine wp_iconst (v := 0) dX3_agreesWithNotes_38 (by decide) ?_
    obtain ⟨z7, e8, h⟩ := bnd h
    obtain ⟨hz_, rfl⟩ := zck_of e8
    cases h
    exact wp_zret dX3_agreesWithNotes_39 rfl hz_

theorem sh_X3_agreesWithNotes_ok {w : Gw} {d : Nat} {x0 : Nat} {x1 : Nat} {x2 : Int32} {x3 : Int32} {M : Gm} {out : Int32 × Gm} (h : sh_X3_agreesWithNotes x0 x1 x2 x3 M = some out) : Ev w mdX3_agreesWithNotes (d + 5) [.inr x0, .inr x1, .inl x2, .inl x3] M (.inl (some (.inl out.1))) out.2 := by
  obtain ⟨u, e0, h⟩ := bnd h
  exact ev_of okX3_agreesWithNotes ⟨_, _, rfl, isO_of e0 (by decide), by decide⟩ (Nat.le_of_ble_eq_true rfl) (X3_agreesWithNotes_F_ok h)

/-! HeatGovernor$Memory.farthestNote()I -/
def X4_farthestNote_B4 (x0 : Nat) (M : Gm) (q : Int32 × Int32) : Option ((Int32 × Int32) ⊕ Int32) :=
  (gfI M x0 4 7).bind fun v1 =>
  if v1 ≤ q.2 then
    some (.inr q.1)
  else
    (gfR M x0 4 5).bind fun v3 =>
    (ldA M 0 v3 q.2).bind fun v5 =>
    (sh_J9_max_7cf53 q.1 v5 M).bind fun q7 =>
    some (.inl (q7, q.2 + 1))
def X4_farthestNote_F (x0 : Nat) (M : Gm) : Option (Int32) :=
  (lp (X4_farthestNote_B4 x0 M) FU (0, 0)).bind fun r1 =>
  some r1
def sh_X4_farthestNote (x0 : Nat) (M : Gm) : Option (Int32) := (isO M x0 4).bind fun _ => X4_farthestNote_F x0 M
theorem X4_farthestNote_B4_ok {w : Gw} {d : Nat} {x0 : Nat} {M : Gm} {q : Int32 × Int32} {o : Go} {M' : Gm} {out : (Int32 × Int32) ⊕ Int32} (h : X4_farthestNote_B4 x0 M q = some out) (hc : ∀ t : Int32 × Int32, out = .inl t → Wp w mdX4_farthestNote (d + 1) 4 [some (.inr x0), some (.inl t.1), some (.inl t.2)] [] M o M') (he0 : ∀ t : Int32, out = .inr t → Wp w mdX4_farthestNote (d + 1) 29 [none, some (.inl t), none] [] M o M') : Wp w mdX4_farthestNote (d + 1) 4 [some (.inr x0), some (.inl q.1), some (.inl q.2)] [] M o M' := by
  unfold X4_farthestNote_B4 at h
  refine wp_iload_n dX4_farthestNote_4 rfl ?_
  refine wp_aload_n dX4_farthestNote_5 rfl ?_
  obtain ⟨v1, e2, h⟩ := bnd h
  refine wp_getI (c := 4) (k := 7) dX4_farthestNote_6 e2 (by decide) (by decide) rfl fl_RX4_34 ?_
  refine wp_icmp_ge (tgt := 29) dX4_farthestNote_9 (by decide) (fun hc_ => ?_) (fun hc_ => ?_)
  · replace h := ite_t hc_ h
    cases h
    exact wp_ls (lsN (lsS (lsN lsZ))) (he0 q.1 rfl)
  · replace h := ite_f hc_ h
    refine wp_iload_n dX4_farthestNote_12 rfl ?_
    refine wp_aload_n dX4_farthestNote_13 rfl ?_
    obtain ⟨v3, e4, h⟩ := bnd h
    refine wp_getR (c := 4) (k := 5) dX4_farthestNote_14 e4 (by decide) (by decide) rfl fl_RX4_28 ?_
    refine wp_iload_n dX4_farthestNote_17 rfl ?_
    obtain ⟨v5, e6, h⟩ := bnd h
    refine wp_iaload dX4_farthestNote_18 e6 ?_
    obtain ⟨q7, e8, h⟩ := bnd h
    refine wp_callS (As := [.inl q.1, .inl v5]) dX4_farthestNote_19 (sh_J9_max_7cf53_ok (d := d) e8) okJ9_max_7cf53 nnJ9_max_7cf53 ssJ9_max_7cf53 ml_RX4_71 rfl (Nat.le_of_ble_eq_true rfl) ?_
    refine wp_istore_n dX4_farthestNote_22 (Nat.le_of_ble_eq_true rfl) ?_
    refine wp_iinc (v := q.2 + 1) dX4_farthestNote_23 rfl rfl ?_
    refine wp_goto (tgt := 4) dX4_farthestNote_26 (by decide) ?_
    cases h
    exact wp_ls (lsS (lsS (lsS lsZ))) (hc (q7, q.2 + 1) rfl)

theorem X4_farthestNote_B4_lp {w : Gw} {d : Nat} {x0 : Nat} {M : Gm} {o : Go} {M' : Gm} {r : Int32} : ∀ (n : Nat) (q : Int32 × Int32), lp (X4_farthestNote_B4 x0 M) n q = some r → (∀ t : Int32, r = t → Wp w mdX4_farthestNote (d + 1) 29 [none, some (.inl t), none] [] M o M') → Wp w mdX4_farthestNote (d + 1) 4 [some (.inr x0), some (.inl q.1), some (.inl q.2)] [] M o M' := by
  intro n
  induction n with
  | zero => intro q h; cases h
  | succ n ih =>
    intro q h he0
    cases hb : X4_farthestNote_B4 x0 M q with
    | none => rw [lp_succ, hb] at h; cases h
    | some out =>
      rw [lp_succ, hb] at h
      exact X4_farthestNote_B4_ok hb (fun t e => ih t (by rw [e] at h; exact h) he0) (fun t e => he0 t (by rw [e] at h; cases h; rfl))
theorem X4_farthestNote_F_ok {w : Gw} {d : Nat} {x0 : Nat} {M : Gm} {out : Int32} (h : X4_farthestNote_F x0 M = some out) : Wp w mdX4_farthestNote (d + 1) 0 [some (.inr x0), none, none] [] M (.inl (some (.inl out))) M := by
  unfold X4_farthestNote_F at h
  refine wp_iconst (v := 0) dX4_farthestNote_0 (by decide) ?_
  refine wp_istore_n dX4_farthestNote_1 (Nat.le_of_ble_eq_true rfl) ?_
  refine wp_iconst (v := 0) dX4_farthestNote_2 (by decide) ?_
  refine wp_istore_n dX4_farthestNote_3 (Nat.le_of_ble_eq_true rfl) ?_
  obtain ⟨r1, e2, h⟩ := bnd h
  refine wp_ls (lsS (lsS (lsS lsZ))) (X4_farthestNote_B4_lp FU _ e2 ?_)
  intro t_ ht_; cases ht_
  refine wp_iload_n dX4_farthestNote_29 rfl ?_
  cases h
  exact wp_iret dX4_farthestNote_30 rfl

theorem sh_X4_farthestNote_ok {w : Gw} {d : Nat} {x0 : Nat} {M : Gm} {out : Int32} (h : sh_X4_farthestNote x0 M = some out) : Ev w mdX4_farthestNote (d + 1) [.inr x0] M (.inl (some (.inl out))) M := by
  obtain ⟨u, e0, h⟩ := bnd h
  exact ev_of okX4_farthestNote ⟨_, _, rfl, isO_of e0 (by decide), by decide⟩ (Nat.le_of_ble_eq_true rfl) (X4_farthestNote_F_ok h)

/-! HeatGovernor$Foresight.tryLeaks(LHeatGovernor$Memory;II)V -/
def X3_tryLeaks_J93 (x0 : Nat) (x1 : Nat) (x2 : Int32) (x4 : Int32) (x5 : Int32) (M : Gm) : Option ((Int32 × Gm) ⊕ Gm) :=
  some (.inl (x5 + 1, M))
def X3_tryLeaks_J80 (x0 : Nat) (x1 : Nat) (x2 : Int32) (x4 : Int32) (x5 : Int32) (s0 : Nat) (s1 : Int32) (M : Gm) : Option ((Int32 × Gm) ⊕ Gm) :=
  (pfI M s0 3 2 s1).bind fun M1 =>
  (gfI M1 x0 3 1).bind fun v3 =>
  (pfI M1 x0 3 1 (v3 + 1)).bind fun M5 =>
  X3_tryLeaks_J93 x0 x1 x2 x4 x5 M5
def X3_tryLeaks_B23 (x0 : Nat) (x1 : Nat) (x2 : Int32) (x4 : Int32) (q : Int32 × Gm) : Option ((Int32 × Gm) ⊕ Gm) :=
  if 50 < q.1 then
    some (.inr q.2)
  else
    (gfR q.2 x0 3 0).bind fun v1 =>
    (gfR q.2 x1 4 0).bind fun v3 =>
    (sh_X7_copyFrom v1 v3 q.2).bind fun q5 =>
    (gfR q5 x0 3 0).bind fun v7 =>
    (gfR q5 v7 7 5).bind fun v9 =>
    (stA q5 0 v9 x2 q.1).bind fun M11 =>
    (sh_X3_agreesWithNotes x0 x1 x2 x4 M11).bind fun q13 =>
    if q13.1 = 0 then
      X3_tryLeaks_J93 x0 x1 x2 x4 q.1 q13.2
    else
      (gfI q13.2 x0 3 1).bind fun v15 =>
      if v15 = 0 then
        X3_tryLeaks_J80 x0 x1 x2 x4 q.1 x0 q.1 q13.2
      else
        (gfI q13.2 x0 3 2).bind fun v17 =>
        X3_tryLeaks_J80 x0 x1 x2 x4 q.1 x0 v17 q13.2
def X3_tryLeaks_F (x0 : Nat) (x1 : Nat) (x2 : Int32) (x3 : Int32) (M : Gm) : Option (Gm) :=
  (sh_X4_farthestNote x1 M).bind fun q1 =>
  (sh_J9_max_7cf53 x3 q1 M).bind fun q3 =>
  (pfI M x0 3 1 0).bind fun M5 =>
  (pfI M5 x0 3 2 ((-1))).bind fun M7 =>
  (lp (X3_tryLeaks_B23 x0 x1 x2 q3) FU (1, M7)).bind fun r9 =>
  some r9
def sh_X3_tryLeaks (x0 : Nat) (x1 : Nat) (x2 : Int32) (x3 : Int32) (M : Gm) : Option (Gm) := (isO M x0 3).bind fun _ => X3_tryLeaks_F x0 x1 x2 x3 M
theorem X3_tryLeaks_J93_ok {w : Gw} {d : Nat} {x0 : Nat} {x1 : Nat} {x2 : Int32} {x4 : Int32} {x5 : Int32} {M : Gm} {o : Go} {M' : Gm} {out : (Int32 × Gm) ⊕ Gm} (h : X3_tryLeaks_J93 x0 x1 x2 x4 x5 M = some out) (hc : ∀ t : Int32 × Gm, out = .inl t → Wp w mdX3_tryLeaks (d + 6) 23 [some (.inr x0), some (.inr x1), some (.inl x2), none, some (.inl x4), some (.inl t.1)] [] t.2 o M') (he0 : ∀ t : Gm, out = .inr t → Wp w mdX3_tryLeaks (d + 6) 99 [none, none, none, none, none, none] [] t o M') : Wp w mdX3_tryLeaks (d + 6) 93 [some (.inr x0), some (.inr x1), some (.inl x2), none, some (.inl x4), some (.inl x5)] [] M o M' := by
  unfold X3_tryLeaks_J93 at h
  refine wp_iinc (v := x5 + 1) dX3_tryLeaks_93 rfl rfl ?_
  refine wp_goto (tgt := 23) dX3_tryLeaks_96 (by decide) ?_
  cases h
  exact wp_ls (lsS (lsS (lsS (lsN (lsS (lsS lsZ)))))) (hc (x5 + 1, M) rfl)

theorem X3_tryLeaks_J80_ok {w : Gw} {d : Nat} {x0 : Nat} {x1 : Nat} {x2 : Int32} {x4 : Int32} {x5 : Int32} {s0 : Nat} {s1 : Int32} {M : Gm} {o : Go} {M' : Gm} {out : (Int32 × Gm) ⊕ Gm} (h : X3_tryLeaks_J80 x0 x1 x2 x4 x5 s0 s1 M = some out) (hc : ∀ t : Int32 × Gm, out = .inl t → Wp w mdX3_tryLeaks (d + 6) 23 [some (.inr x0), some (.inr x1), some (.inl x2), none, some (.inl x4), some (.inl t.1)] [] t.2 o M') (he0 : ∀ t : Gm, out = .inr t → Wp w mdX3_tryLeaks (d + 6) 99 [none, none, none, none, none, none] [] t o M') : Wp w mdX3_tryLeaks (d + 6) 80 [some (.inr x0), some (.inr x1), some (.inl x2), none, some (.inl x4), some (.inl x5)] [.inl s1, .inr s0] M o M' := by
  unfold X3_tryLeaks_J80 at h
  obtain ⟨M1, e2, h⟩ := bnd h
  refine wp_putI (c := 3) (k := 2) dX3_tryLeaks_80 e2 (by decide) (by decide) rfl fl_RX3_15 (Or.inl rfl) ?_
  refine wp_aload_n dX3_tryLeaks_83 rfl ?_
  refine wp_dup dX3_tryLeaks_84 ?_
  obtain ⟨v3, e4, h⟩ := bnd h
  refine wp_getI (c := 3) (k := 1) dX3_tryLeaks_85 e4 (by decide) (by decide) rfl fl_RX3_9 ?_
  refine wp_iconst (v := 1) dX3_tryLeaks_88 (by decide) ?_
  refine wp_iadd dX3_tryLeaks_89 ?_
  obtain ⟨M5, e6, h⟩ := bnd h
  refine wp_putI (c := 3) (k := 1) dX3_tryLeaks_90 e6 (by decide) (by decide) rfl fl_RX3_9 (Or.inl rfl) ?_
  exact wp_ls (lsS (lsS (lsS (lsN (lsS (lsS lsZ)))))) (X3_tryLeaks_J93_ok h hc he0)

theorem X3_tryLeaks_B23_ok {w : Gw} {d : Nat} {x0 : Nat} {x1 : Nat} {x2 : Int32} {x4 : Int32} {q : Int32 × Gm} {o : Go} {M' : Gm} {out : (Int32 × Gm) ⊕ Gm} (h : X3_tryLeaks_B23 x0 x1 x2 x4 q = some out) (hc : ∀ t : Int32 × Gm, out = .inl t → Wp w mdX3_tryLeaks (d + 6) 23 [some (.inr x0), some (.inr x1), some (.inl x2), none, some (.inl x4), some (.inl t.1)] [] t.2 o M') (he0 : ∀ t : Gm, out = .inr t → Wp w mdX3_tryLeaks (d + 6) 99 [none, none, none, none, none, none] [] t o M') : Wp w mdX3_tryLeaks (d + 6) 23 [some (.inr x0), some (.inr x1), some (.inl x2), none, some (.inl x4), some (.inl q.1)] [] q.2 o M' := by
  unfold X3_tryLeaks_B23 at h
  refine wp_iload dX3_tryLeaks_23 rfl ?_
  refine wp_bipush (v := 50) dX3_tryLeaks_25 (by decide) ?_
  refine wp_icmp_gt (tgt := 99) dX3_tryLeaks_27 (by decide) (fun hc_ => ?_) (fun hc_ => ?_)
  · replace h := ite_t hc_ h
    cases h
    exact wp_ls (lsN (lsN (lsN (lsN (lsN (lsN lsZ)))))) (he0 q.2 rfl)
  · replace h := ite_f hc_ h
    refine wp_aload_n dX3_tryLeaks_30 rfl ?_
    obtain ⟨v1, e2, h⟩ := bnd h
    refine wp_getR (c := 3) (k := 0) dX3_tryLeaks_31 e2 (by decide) (by decide) rfl fl_RX3_36 ?_
    refine wp_aload_n dX3_tryLeaks_34 rfl ?_
    obtain ⟨v3, e4, h⟩ := bnd h
    refine wp_getR (c := 4) (k := 0) dX3_tryLeaks_35 e4 (by decide) (by decide) rfl fl_RX3_107 ?_
    obtain ⟨q5, e6, h⟩ := bnd h
    refine wp_callV (As := [.inr v3]) dX3_tryLeaks_38 (sh_X7_copyFrom_ok (d := d + 3) e6) okX7_copyFrom nnX7_copyFrom vvX7_copyFrom ml_RX3_44 rfl (Nat.le_of_ble_eq_true rfl) ?_
    refine wp_aload_n dX3_tryLeaks_41 rfl ?_
    obtain ⟨v7, e8, h⟩ := bnd h
    refine wp_getR (c := 3) (k := 0) dX3_tryLeaks_42 e8 (by decide) (by decide) rfl fl_RX3_36 ?_
    obtain ⟨v9, e10, h⟩ := bnd h
    refine wp_getR (c := 7) (k := 5) dX3_tryLeaks_45 e10 (by decide) (by decide) rfl fl_RX3_110 ?_
    refine wp_iload_n dX3_tryLeaks_48 rfl ?_
    refine wp_iload dX3_tryLeaks_49 rfl ?_
    obtain ⟨M11, e12, h⟩ := bnd h
    refine wp_iastore dX3_tryLeaks_51 e12 ?_
    refine wp_aload_n dX3_tryLeaks_52 rfl ?_
    refine wp_aload_n dX3_tryLeaks_53 rfl ?_
    refine wp_iload_n dX3_tryLeaks_54 rfl ?_
    refine wp_iload dX3_tryLeaks_55 rfl ?_
    obtain ⟨q13, e14, h⟩ := bnd h
    refine wp_callV (As := [.inr x1, .inl x2, .inl x4]) dX3_tryLeaks_57 (sh_X3_agreesWithNotes_ok (d := d) e14) okX3_agreesWithNotes nnX3_agreesWithNotes vvX3_agreesWithNotes ml_RX3_113 rfl (Nat.le_of_ble_eq_true rfl) ?_
    refine wp_if_eq (tgt := 93) dX3_tryLeaks_60 (by decide) (fun hc_ => ?_) (fun hc_ => ?_)
    · replace h := ite_t hc_ h
      exact wp_ls (lsS (lsS (lsS (lsN (lsS (lsS lsZ)))))) (X3_tryLeaks_J93_ok h hc he0)
    · replace h := ite_f hc_ h
      refine wp_aload_n dX3_tryLeaks_63 rfl ?_
      refine wp_aload_n dX3_tryLeaks_64 rfl ?_
      obtain ⟨v15, e16, h⟩ := bnd h
      refine wp_getI (c := 3) (k := 1) dX3_tryLeaks_65 e16 (by decide) (by decide) rfl fl_RX3_9 ?_
      refine wp_if_ne (tgt := 76) dX3_tryLeaks_68 (by decide) (fun hc_ => ?_) (fun hc_ => ?_)
      · replace h := ite_f hc_ h
        refine wp_aload_n dX3_tryLeaks_76 rfl ?_
        obtain ⟨v17, e18, h⟩ := bnd h
        refine wp_getI (c := 3) (k := 2) dX3_tryLeaks_77 e18 (by decide) (by decide) rfl fl_RX3_15 ?_
        exact wp_ls (lsS (lsS (lsS (lsN (lsS (lsS lsZ)))))) (X3_tryLeaks_J80_ok h hc he0)
      · replace h := ite_t hc_ h
        refine wp_iload dX3_tryLeaks_71 rfl ?_
        refine wp_goto (tgt := 80) dX3_tryLeaks_73 (by decide) ?_
        exact wp_ls (lsS (lsS (lsS (lsN (lsS (lsS lsZ)))))) (X3_tryLeaks_J80_ok h hc he0)

theorem X3_tryLeaks_B23_lp {w : Gw} {d : Nat} {x0 : Nat} {x1 : Nat} {x2 : Int32} {x4 : Int32} {o : Go} {M' : Gm} {r : Gm} : ∀ (n : Nat) (q : Int32 × Gm), lp (X3_tryLeaks_B23 x0 x1 x2 x4) n q = some r → (∀ t : Gm, r = t → Wp w mdX3_tryLeaks (d + 6) 99 [none, none, none, none, none, none] [] t o M') → Wp w mdX3_tryLeaks (d + 6) 23 [some (.inr x0), some (.inr x1), some (.inl x2), none, some (.inl x4), some (.inl q.1)] [] q.2 o M' := by
  intro n
  induction n with
  | zero => intro q h; cases h
  | succ n ih =>
    intro q h he0
    cases hb : X3_tryLeaks_B23 x0 x1 x2 x4 q with
    | none => rw [lp_succ, hb] at h; cases h
    | some out =>
      rw [lp_succ, hb] at h
      exact X3_tryLeaks_B23_ok hb (fun t e => ih t (by rw [e] at h; exact h) he0) (fun t e => he0 t (by rw [e] at h; cases h; rfl))
theorem X3_tryLeaks_F_ok {w : Gw} {d : Nat} {x0 : Nat} {x1 : Nat} {x2 : Int32} {x3 : Int32} {M : Gm} {out : Gm} (h : X3_tryLeaks_F x0 x1 x2 x3 M = some out) : Wp w mdX3_tryLeaks (d + 6) 0 [some (.inr x0), some (.inr x1), some (.inl x2), some (.inl x3), none, none] [] M (.inl none) out := by
  unfold X3_tryLeaks_F at h
  refine wp_iload_n dX3_tryLeaks_0 rfl ?_
  refine wp_aload_n dX3_tryLeaks_1 rfl ?_
  obtain ⟨q1, e2, h⟩ := bnd h
  refine wp_callV (As := []) dX3_tryLeaks_2 (sh_X4_farthestNote_ok (d := d + 4) e2) okX4_farthestNote nnX4_farthestNote vvX4_farthestNote ml_RX3_102 rfl (Nat.le_of_ble_eq_true rfl) ?_
  obtain ⟨q3, e4, h⟩ := bnd h
  refine wp_callS (As := [.inl x3, .inl q1]) dX3_tryLeaks_5 (sh_J9_max_7cf53_ok (d := d + 5) e4) okJ9_max_7cf53 nnJ9_max_7cf53 ssJ9_max_7cf53 ml_RX3_56 rfl (Nat.le_of_ble_eq_true rfl) ?_
  refine wp_istore dX3_tryLeaks_8 (Nat.le_of_ble_eq_true rfl) ?_
  refine wp_aload_n dX3_tryLeaks_10 rfl ?_
  refine wp_iconst (v := 0) dX3_tryLeaks_11 (by decide) ?_
  obtain ⟨M5, e6, h⟩ := bnd h
  refine wp_putI (c := 3) (k := 1) dX3_tryLeaks_12 e6 (by decide) (by decide) rfl fl_RX3_9 (Or.inl rfl) ?_
  refine wp_aload_n dX3_tryLeaks_15 rfl ?_
  refine wp_iconst (v := (-1)) dX3_tryLeaks_16 (by decide) ?_
  obtain ⟨M7, e8, h⟩ := bnd h
  refine wp_putI (c := 3) (k := 2) dX3_tryLeaks_17 e8 (by decide) (by decide) rfl fl_RX3_15 (Or.inl rfl) ?_
  refine wp_iconst (v := 1) dX3_tryLeaks_20 (by decide) ?_
  refine wp_istore dX3_tryLeaks_21 (Nat.le_of_ble_eq_true rfl) ?_
  obtain ⟨r9, e10, h⟩ := bnd h
  refine wp_ls (lsS (lsS (lsS (lsN (lsS (lsS lsZ)))))) (X3_tryLeaks_B23_lp FU _ e10 ?_)
  intro t_ ht_; cases ht_
  cases h
  exact wp_ret dX3_tryLeaks_99 rfl

theorem sh_X3_tryLeaks_ok {w : Gw} {d : Nat} {x0 : Nat} {x1 : Nat} {x2 : Int32} {x3 : Int32} {M : Gm} {out : Gm} (h : sh_X3_tryLeaks x0 x1 x2 x3 M = some out) : Ev w mdX3_tryLeaks (d + 6) [.inr x0, .inr x1, .inl x2, .inl x3] M (.inl none) out := by
  obtain ⟨u, e0, h⟩ := bnd h
  exact ev_of okX3_tryLeaks ⟨_, _, rfl, isO_of e0 (by decide), by decide⟩ (Nat.le_of_ble_eq_true rfl) (X3_tryLeaks_F_ok h)

/-! HeatGovernor.fits(II)I -/
def X11_fits_J44 (s0 : Int32) (M : Gm) : Option ((Int32 × Gm) ⊕ (Nat × Gm)) :=
  some (.inl (s0, M))
def X11_fits_F (x0 : Nat) (x1 : Int32) (x2 : Int32) (M : Gm) : Option ((Int32 × Gm) ⊕ (Nat × Gm)) :=
  (sh_X11_needZone x0 x1 M).bind fun q1 =>
  Sum.elim (fun u3 =>
    (sh_X11_needWhat x2 1 M).bind fun q5 =>
    Sum.elim (fun u7 =>
      (gfR M x0 11 10).bind fun v9 =>
      (gfR M x0 11 6).bind fun v11 =>
      (sh_X3_tryLeaks v9 v11 x1 0 M).bind fun q13 =>
      if x2 = 0 then
        (gfR q13 x0 11 10).bind fun v19 =>
        (gfI q13 v19 3 1).bind fun v21 =>
        X11_fits_J44 v21 q13
      else
        (gfR q13 x0 11 10).bind fun v15 =>
        (gfI q13 v15 3 2).bind fun v17 =>
        X11_fits_J44 v17 q13) (fun u8 =>
        some (.inr u8)) q5) (fun u4 =>
      some (.inr u4)) q1
def sh_X11_fits (x0 : Nat) (x1 : Int32) (x2 : Int32) (M : Gm) : Option ((Int32 × Gm) ⊕ (Nat × Gm)) := (isO M x0 11).bind fun _ => X11_fits_F x0 x1 x2 M
theorem X11_fits_J44_ok {w : Gw} {d : Nat} {s0 : Int32} {M : Gm} {out : (Int32 × Gm) ⊕ (Nat × Gm)} (h : X11_fits_J44 s0 M = some out) : Wp w mdX11_fits (d + 7) 44 [none, none, none] [.inl s0] M (xoP out) (xmP out) := by
  unfold X11_fits_J44 at h
  cases h
  exact wp_iret dX11_fits_44 rfl

theorem X11_fits_F_ok {w : Gw} {d : Nat} {x0 : Nat} {x1 : Int32} {x2 : Int32} {M : Gm} {out : (Int32 × Gm) ⊕ (Nat × Gm)} (h : X11_fits_F x0 x1 x2 M = some out) : Wp w mdX11_fits (d + 7) 0 [some (.inr x0), some (.inl x1), some (.inl x2)] [] M (xoP out) (xmP out) := by
  unfold X11_fits_F at h
  refine wp_aload_n dX11_fits_0 rfl ?_
  refine wp_iload_n dX11_fits_1 rfl ?_
  obtain ⟨q1, e2, h⟩ := bnd h
  cases q1 with
  | inl u3 =>
    replace h := elim_l h
    refine wp_callV (As := [.inl x1]) dX11_fits_2 (sh_X11_needZone_ok (d := d) e2) okX11_needZone nnX11_needZone vvX11_needZone ml_RX11_156 rfl (Nat.le_of_ble_eq_true rfl) ?_
    refine wp_iload_n dX11_fits_5 rfl ?_
    refine wp_iconst (v := 1) dX11_fits_6 (by decide) ?_
    obtain ⟨q5, e6, h⟩ := bnd h
    cases q5 with
    | inl u7 =>
      replace h := elim_l h
      refine wp_callS (As := [.inl x2, .inl 1]) dX11_fits_7 (sh_X11_needWhat_ok (d := d) e6) okX11_needWhat nnX11_needWhat ssX11_needWhat ml_RX11_264 rfl (Nat.le_of_ble_eq_true rfl) ?_
      refine wp_aload_n dX11_fits_10 rfl ?_
      obtain ⟨v9, e10, h⟩ := bnd h
      refine wp_getR (c := 11) (k := 10) dX11_fits_11 e10 (by decide) (by decide) rfl fl_RX11_67 ?_
      refine wp_aload_n dX11_fits_14 rfl ?_
      obtain ⟨v11, e12, h⟩ := bnd h
      refine wp_getR (c := 11) (k := 6) dX11_fits_15 e12 (by decide) (by decide) rfl fl_RX11_44 ?_
      refine wp_iload_n dX11_fits_18 rfl ?_
      refine wp_iconst (v := 0) dX11_fits_19 (by decide) ?_
      obtain ⟨q13, e14, h⟩ := bnd h
      refine wp_callV (As := [.inr v11, .inl x1, .inl 0]) dX11_fits_20 (sh_X3_tryLeaks_ok (d := d) e14) okX3_tryLeaks nnX3_tryLeaks vvX3_tryLeaks ml_RX11_337 rfl (Nat.le_of_ble_eq_true rfl) ?_
      refine wp_iload_n dX11_fits_23 rfl ?_
      refine wp_if_ne (tgt := 37) dX11_fits_24 (by decide) (fun hc_ => ?_) (fun hc_ => ?_)
      · replace h := ite_f hc_ h
        refine wp_aload_n dX11_fits_37 rfl ?_
        obtain ⟨v15, e16, h⟩ := bnd h
        refine wp_getR (c := 11) (k := 10) dX11_fits_38 e16 (by decide) (by decide) rfl fl_RX11_67 ?_
        obtain ⟨v17, e18, h⟩ := bnd h
        refine wp_getI (c := 3) (k := 2) dX11_fits_41 e18 (by decide) (by decide) rfl fl_RX11_344 ?_
        exact wp_ls (lsN (lsN (lsN lsZ))) (X11_fits_J44_ok h)
      · replace h := ite_t hc_ h
        refine wp_aload_n dX11_fits_27 rfl ?_
        obtain ⟨v19, e20, h⟩ := bnd h
        refine wp_getR (c := 11) (k := 10) dX11_fits_28 e20 (by decide) (by decide) rfl fl_RX11_67 ?_
        obtain ⟨v21, e22, h⟩ := bnd h
        refine wp_getI (c := 3) (k := 1) dX11_fits_31 e22 (by decide) (by decide) rfl fl_RX11_341 ?_
        refine wp_goto (tgt := 44) dX11_fits_34 (by decide) ?_
        exact wp_ls (lsN (lsN (lsN lsZ))) (X11_fits_J44_ok h)
    | inr u8 =>
      replace h := elim_r h
      cases h
      exact wp_callSx (As := [.inl x2, .inl 1]) dX11_fits_7 (sh_X11_needWhat_ok (d := d) e6) okX11_needWhat nnX11_needWhat ssX11_needWhat ml_RX11_264 rfl (Nat.le_of_ble_eq_true rfl) rfl
  | inr u4 =>
    replace h := elim_r h
    cases h
    exact wp_callVx (As := [.inl x1]) dX11_fits_2 (sh_X11_needZone_ok (d := d) e2) okX11_needZone nnX11_needZone vvX11_needZone ml_RX11_156 rfl (Nat.le_of_ble_eq_true rfl) rfl

theorem sh_X11_fits_ok {w : Gw} {d : Nat} {x0 : Nat} {x1 : Int32} {x2 : Int32} {M : Gm} {out : (Int32 × Gm) ⊕ (Nat × Gm)} (h : sh_X11_fits x0 x1 x2 M = some out) : Ev w mdX11_fits (d + 7) [.inr x0, .inl x1, .inl x2] M (xoP out) (xmP out) := by
  obtain ⟨u, e0, h⟩ := bnd h
  exact ev_of okX11_fits ⟨_, _, rfl, isO_of e0 (by decide), by decide⟩ (Nat.le_of_ble_eq_true rfl) (X11_fits_F_ok h)

/-! HeatGovernor$Foresight.isNewHeat(II)Z -/
def X3_isNewHeat_B2 (x0 : Nat) (x1 : Int32) (x2 : Int32) (M : Gm) (q : Int32) : Option (Int32 ⊕ Unit ⊕ Unit) :=
  if x1 ≤ q then
    some (.inr (.inl ()))
  else
    (gfR M x0 3 6).bind fun v1 =>
    (ldA M 0 v1 ((q * 21) + x2)).bind fun v3 =>
    (gfR M x0 3 6).bind fun v5 =>
    (ldA M 0 v5 ((x1 * 21) + x2)).bind fun v7 =>
    if v3 = v7 then
      some (.inr (.inr ()))
    else
      some (.inl (q + 1))
def X3_isNewHeat_F (x0 : Nat) (x1 : Int32) (x2 : Int32) (M : Gm) : Option (Int32) :=
  (lp (X3_isNewHeat_B2 x0 x1 x2 M) FU 0).bind fun r1 =>
  Sum.elim (fun u3 =>
    (zck 1).bind fun z4 =>
    some z4) (fun u6 =>
    (zck 0).bind fun z7 =>
    some z7) r1
def sh_X3_isNewHeat (x0 : Nat) (x1 : Int32) (x2 : Int32) (M : Gm) : Option (Int32) := (isO M x0 3).bind fun _ => X3_isNewHeat_F x0 x1 x2 M
theorem X3_isNewHeat_B2_ok {w : Gw} {d : Nat} {x0 : Nat} {x1 : Int32} {x2 : Int32} {M : Gm} {q : Int32} {o : Go} {M' : Gm} {out : Int32 ⊕ Unit ⊕ Unit} (h : X3_isNewHeat_B2 x0 x1 x2 M q = some out) (hc : ∀ t : Int32, out = .inl t → Wp w mdX3_isNewHeat d 2 [some (.inr x0), some (.inl x1), some (.inl x2), some (.inl t)] [] M o M') (he0 : ∀ t : Unit, out = .inr (.inl t) → Wp w mdX3_isNewHeat d 40 [none, none, none, none] [] M o M') (he1 : ∀ t : Unit, out = .inr (.inr t) → Wp w mdX3_isNewHeat d 32 [none, none, none, none] [] M o M') : Wp w mdX3_isNewHeat d 2 [some (.inr x0), some (.inl x1), some (.inl x2), some (.inl q)] [] M o M' := by
  unfold X3_isNewHeat_B2 at h
  refine wp_iload_n dX3_isNewHeat_2 rfl ?_
  refine wp_iload_n dX3_isNewHeat_3 rfl ?_
  refine wp_icmp_ge (tgt := 40) dX3_isNewHeat_4 (by decide) (fun hc_ => ?_) (fun hc_ => ?_)
  · replace h := ite_t hc_ h
    cases h
    exact wp_ls (lsN (lsN (lsN (lsN lsZ)))) (he0 () rfl)
  · replace h := ite_f hc_ h
    refine wp_aload_n dX3_isNewHeat_7 rfl ?_
    obtain ⟨v1, e2, h⟩ := bnd h
    refine wp_getR (c := 3) (k := 6) dX3_isNewHeat_8 e2 (by decide) (by decide) rfl fl_RX3_24 ?_
    refine wp_iload_n dX3_isNewHeat_11 rfl ?_
    refine wp_bipush (v := 21) dX3_isNewHeat_12 (by decide) ?_
    refine wp_imul dX3_isNewHeat_14 ?_
    refine wp_iload_n dX3_isNewHeat_15 rfl ?_
    refine wp_iadd dX3_isNewHeat_16 ?_
    obtain ⟨v3, e4, h⟩ := bnd h
    refine wp_iaload dX3_isNewHeat_17 e4 ?_
    refine wp_aload_n dX3_isNewHeat_18 rfl ?_
    obtain ⟨v5, e6, h⟩ := bnd h
    refine wp_getR (c := 3) (k := 6) dX3_isNewHeat_19 e6 (by decide) (by decide) rfl fl_RX3_24 ?_
    refine wp_iload_n dX3_isNewHeat_22 rfl ?_
    refine wp_bipush (v := 21) dX3_isNewHeat_23 (by decide) ?_
    refine wp_imul dX3_isNewHeat_25 ?_
    refine wp_iload_n dX3_isNewHeat_26 rfl ?_
    refine wp_iadd dX3_isNewHeat_27 ?_
    obtain ⟨v7, e8, h⟩ := bnd h
    refine wp_iaload dX3_isNewHeat_28 e8 ?_
    refine wp_icmp_ne (tgt := 34) dX3_isNewHeat_29 (by decide) (fun hc_ => ?_) (fun hc_ => ?_)
    · replace h := ite_f hc_ h
      refine wp_iinc (v := q + 1) dX3_isNewHeat_34 rfl rfl ?_
      refine wp_goto (tgt := 2) dX3_isNewHeat_37 (by decide) ?_
      cases h
      exact wp_ls (lsS (lsS (lsS (lsS lsZ)))) (hc (q + 1) rfl)
    · replace h := ite_t hc_ h
      cases h
      exact wp_ls (lsN (lsN (lsN (lsN lsZ)))) (he1 () rfl)

theorem X3_isNewHeat_B2_lp {w : Gw} {d : Nat} {x0 : Nat} {x1 : Int32} {x2 : Int32} {M : Gm} {o : Go} {M' : Gm} {r : Unit ⊕ Unit} : ∀ (n : Nat) (q : Int32), lp (X3_isNewHeat_B2 x0 x1 x2 M) n q = some r → (∀ t : Unit, r = (.inl t) → Wp w mdX3_isNewHeat d 40 [none, none, none, none] [] M o M') → (∀ t : Unit, r = (.inr t) → Wp w mdX3_isNewHeat d 32 [none, none, none, none] [] M o M') → Wp w mdX3_isNewHeat d 2 [some (.inr x0), some (.inl x1), some (.inl x2), some (.inl q)] [] M o M' := by
  intro n
  induction n with
  | zero => intro q h; cases h
  | succ n ih =>
    intro q h he0 he1
    cases hb : X3_isNewHeat_B2 x0 x1 x2 M q with
    | none => rw [lp_succ, hb] at h; cases h
    | some out =>
      rw [lp_succ, hb] at h
      exact X3_isNewHeat_B2_ok hb (fun t e => ih t (by rw [e] at h; exact h) he0 he1) (fun t e => he0 t (by rw [e] at h; cases h; rfl)) (fun t e => he1 t (by rw [e] at h; cases h; rfl))
theorem X3_isNewHeat_F_ok {w : Gw} {d : Nat} {x0 : Nat} {x1 : Int32} {x2 : Int32} {M : Gm} {out : Int32} (h : X3_isNewHeat_F x0 x1 x2 M = some out) : Wp w mdX3_isNewHeat d 0 [some (.inr x0), some (.inl x1), some (.inl x2), none] [] M (.inl (some (.inl out))) M := by
  unfold X3_isNewHeat_F at h
  refine wp_iconst (v := 0) dX3_isNewHeat_0 (by decide) ?_
  refine wp_istore_n dX3_isNewHeat_1 (Nat.le_of_ble_eq_true rfl) ?_
  obtain ⟨r1, e2, h⟩ := bnd h
  refine wp_ls (lsS (lsS (lsS (lsS lsZ)))) (X3_isNewHeat_B2_lp FU _ e2 ?_ ?_)
  · intro y3 ht_; subst ht_
    replace h := elim_l h
    refine wp_iconst (v := 1) dX3_isNewHeat_40 (by decide) ?_
    obtain ⟨z4, e5, h⟩ := bnd h
    obtain ⟨hz_, rfl⟩ := zck_of e5
    cases h
    exact wp_zret dX3_isNewHeat_41 rfl hz_
  · intro y6 ht_; subst ht_
    replace h := elim_r h
    refine wp_iconst (v := 0) dX3_isNewHeat_32 (by decide) ?_
    obtain ⟨z7, e8, h⟩ := bnd h
    obtain ⟨hz_, rfl⟩ := zck_of e8
    cases h
    exact wp_zret dX3_isNewHeat_33 rfl hz_

theorem sh_X3_isNewHeat_ok {w : Gw} {d : Nat} {x0 : Nat} {x1 : Int32} {x2 : Int32} {M : Gm} {out : Int32} (h : sh_X3_isNewHeat x0 x1 x2 M = some out) : Ev w mdX3_isNewHeat d [.inr x0, .inl x1, .inl x2] M (.inl (some (.inl out))) M := by
  obtain ⟨u, e0, h⟩ := bnd h
  exact ev_of okX3_isNewHeat ⟨_, _, rfl, isO_of e0 (by decide), by decide⟩ (Nat.le_of_ble_eq_true rfl) (X3_isNewHeat_F_ok h)

/-! HeatGovernor$Foresight.countUnlike(I)I -/
def X3_countUnlike_J27 (x0 : Nat) (x1 : Int32) (x3 : Int32) (s0 : Int32) (s1 : Int32) (M : Gm) : Option ((Int32 × Int32) ⊕ Int32) :=
  some (.inl (s0 + s1, x3 + 1))
def X3_countUnlike_B4 (x0 : Nat) (x1 : Int32) (M : Gm) (q : Int32 × Int32) : Option ((Int32 × Int32) ⊕ Int32) :=
  (gfI M x0 3 1).bind fun v1 =>
  if v1 ≤ q.2 then
    some (.inr q.1)
  else
    (sh_X3_isNewHeat x0 q.2 x1 M).bind fun q3 =>
    if q3 = 0 then
      X3_countUnlike_J27 x0 x1 q.2 q.1 0 M
    else
      X3_countUnlike_J27 x0 x1 q.2 q.1 1 M
def X3_countUnlike_F (x0 : Nat) (x1 : Int32) (M : Gm) : Option (Int32) :=
  (lp (X3_countUnlike_B4 x0 x1 M) FU (0, 0)).bind fun r1 =>
  some r1
def sh_X3_countUnlike (x0 : Nat) (x1 : Int32) (M : Gm) : Option (Int32) := (isO M x0 3).bind fun _ => X3_countUnlike_F x0 x1 M
theorem X3_countUnlike_J27_ok {w : Gw} {d : Nat} {x0 : Nat} {x1 : Int32} {x3 : Int32} {s0 : Int32} {s1 : Int32} {M : Gm} {o : Go} {M' : Gm} {out : (Int32 × Int32) ⊕ Int32} (h : X3_countUnlike_J27 x0 x1 x3 s0 s1 M = some out) (hc : ∀ t : Int32 × Int32, out = .inl t → Wp w mdX3_countUnlike (d + 1) 4 [some (.inr x0), some (.inl x1), some (.inl t.1), some (.inl t.2)] [] M o M') (he0 : ∀ t : Int32, out = .inr t → Wp w mdX3_countUnlike (d + 1) 35 [none, none, some (.inl t), none] [] M o M') : Wp w mdX3_countUnlike (d + 1) 27 [some (.inr x0), some (.inl x1), none, some (.inl x3)] [.inl s1, .inl s0] M o M' := by
  unfold X3_countUnlike_J27 at h
  refine wp_iadd dX3_countUnlike_27 ?_
  refine wp_istore_n dX3_countUnlike_28 (Nat.le_of_ble_eq_true rfl) ?_
  refine wp_iinc (v := x3 + 1) dX3_countUnlike_29 rfl rfl ?_
  refine wp_goto (tgt := 4) dX3_countUnlike_32 (by decide) ?_
  cases h
  exact wp_ls (lsS (lsS (lsS (lsS lsZ)))) (hc (s0 + s1, x3 + 1) rfl)

theorem X3_countUnlike_B4_ok {w : Gw} {d : Nat} {x0 : Nat} {x1 : Int32} {M : Gm} {q : Int32 × Int32} {o : Go} {M' : Gm} {out : (Int32 × Int32) ⊕ Int32} (h : X3_countUnlike_B4 x0 x1 M q = some out) (hc : ∀ t : Int32 × Int32, out = .inl t → Wp w mdX3_countUnlike (d + 1) 4 [some (.inr x0), some (.inl x1), some (.inl t.1), some (.inl t.2)] [] M o M') (he0 : ∀ t : Int32, out = .inr t → Wp w mdX3_countUnlike (d + 1) 35 [none, none, some (.inl t), none] [] M o M') : Wp w mdX3_countUnlike (d + 1) 4 [some (.inr x0), some (.inl x1), some (.inl q.1), some (.inl q.2)] [] M o M' := by
  unfold X3_countUnlike_B4 at h
  refine wp_iload_n dX3_countUnlike_4 rfl ?_
  refine wp_aload_n dX3_countUnlike_5 rfl ?_
  obtain ⟨v1, e2, h⟩ := bnd h
  refine wp_getI (c := 3) (k := 1) dX3_countUnlike_6 e2 (by decide) (by decide) rfl fl_RX3_9 ?_
  refine wp_icmp_ge (tgt := 35) dX3_countUnlike_9 (by decide) (fun hc_ => ?_) (fun hc_ => ?_)
  · replace h := ite_t hc_ h
    cases h
    exact wp_ls (lsN (lsN (lsS (lsN lsZ)))) (he0 q.1 rfl)
  · replace h := ite_f hc_ h
    refine wp_iload_n dX3_countUnlike_12 rfl ?_
    refine wp_aload_n dX3_countUnlike_13 rfl ?_
    refine wp_iload_n dX3_countUnlike_14 rfl ?_
    refine wp_iload_n dX3_countUnlike_15 rfl ?_
    obtain ⟨q3, e4, h⟩ := bnd h
    refine wp_callV (As := [.inl q.2, .inl x1]) dX3_countUnlike_16 (sh_X3_isNewHeat_ok (d := d) e4) okX3_isNewHeat nnX3_isNewHeat vvX3_isNewHeat ml_RX3_125 rfl (Nat.le_of_ble_eq_true rfl) ?_
    refine wp_if_eq (tgt := 26) dX3_countUnlike_19 (by decide) (fun hc_ => ?_) (fun hc_ => ?_)
    · replace h := ite_t hc_ h
      refine wp_iconst (v := 0) dX3_countUnlike_26 (by decide) ?_
      exact wp_ls (lsS (lsS (lsN (lsS lsZ)))) (X3_countUnlike_J27_ok h hc he0)
    · replace h := ite_f hc_ h
      refine wp_iconst (v := 1) dX3_countUnlike_22 (by decide) ?_
      refine wp_goto (tgt := 27) dX3_countUnlike_23 (by decide) ?_
      exact wp_ls (lsS (lsS (lsN (lsS lsZ)))) (X3_countUnlike_J27_ok h hc he0)

theorem X3_countUnlike_B4_lp {w : Gw} {d : Nat} {x0 : Nat} {x1 : Int32} {M : Gm} {o : Go} {M' : Gm} {r : Int32} : ∀ (n : Nat) (q : Int32 × Int32), lp (X3_countUnlike_B4 x0 x1 M) n q = some r → (∀ t : Int32, r = t → Wp w mdX3_countUnlike (d + 1) 35 [none, none, some (.inl t), none] [] M o M') → Wp w mdX3_countUnlike (d + 1) 4 [some (.inr x0), some (.inl x1), some (.inl q.1), some (.inl q.2)] [] M o M' := by
  intro n
  induction n with
  | zero => intro q h; cases h
  | succ n ih =>
    intro q h he0
    cases hb : X3_countUnlike_B4 x0 x1 M q with
    | none => rw [lp_succ, hb] at h; cases h
    | some out =>
      rw [lp_succ, hb] at h
      exact X3_countUnlike_B4_ok hb (fun t e => ih t (by rw [e] at h; exact h) he0) (fun t e => he0 t (by rw [e] at h; cases h; rfl))
theorem X3_countUnlike_F_ok {w : Gw} {d : Nat} {x0 : Nat} {x1 : Int32} {M : Gm} {out : Int32} (h : X3_countUnlike_F x0 x1 M = some out) : Wp w mdX3_countUnlike (d + 1) 0 [some (.inr x0), some (.inl x1), none, none] [] M (.inl (some (.inl out))) M := by
  unfold X3_countUnlike_F at h
  refine wp_iconst (v := 0) dX3_countUnlike_0 (by decide) ?_
  refine wp_istore_n dX3_countUnlike_1 (Nat.le_of_ble_eq_true rfl) ?_
  refine wp_iconst (v := 0) dX3_countUnlike_2 (by decide) ?_
  refine wp_istore_n dX3_countUnlike_3 (Nat.le_of_ble_eq_true rfl) ?_
  obtain ⟨r1, e2, h⟩ := bnd h
  refine wp_ls (lsS (lsS (lsS (lsS lsZ)))) (X3_countUnlike_B4_lp FU _ e2 ?_)
  intro t_ ht_; cases ht_
  refine wp_iload_n dX3_countUnlike_35 rfl ?_
  cases h
  exact wp_iret dX3_countUnlike_36 rfl

theorem sh_X3_countUnlike_ok {w : Gw} {d : Nat} {x0 : Nat} {x1 : Int32} {M : Gm} {out : Int32} (h : sh_X3_countUnlike x0 x1 M = some out) : Ev w mdX3_countUnlike (d + 1) [.inr x0, .inl x1] M (.inl (some (.inl out))) M := by
  obtain ⟨u, e0, h⟩ := bnd h
  exact ev_of okX3_countUnlike ⟨_, _, rfl, isO_of e0 (by decide), by decide⟩ (Nat.le_of_ble_eq_true rfl) (X3_countUnlike_F_ok h)

/-! HeatGovernor$Foresight.findLook()V -/
def X3_findLook_J42 (x0 : Nat) (x1 : Int32) (M : Gm) : Option ((Int32 × Gm) ⊕ Gm) :=
  some (.inl (x1 + 1, M))
def X3_findLook_B12 (x0 : Nat) (q : Int32 × Gm) : Option ((Int32 × Gm) ⊕ Gm) :=
  if 20 < q.1 then
    some (.inr q.2)
  else
    (sh_X3_countUnlike x0 q.1 q.2).bind fun q1 =>
    (gfI q.2 x0 3 4).bind fun v3 =>
    if q1 ≤ v3 then
      X3_findLook_J42 x0 q.1 q.2
    else
      (pfI q.2 x0 3 3 q.1).bind fun M5 =>
      (pfI M5 x0 3 4 q1).bind fun M7 =>
      X3_findLook_J42 x0 q.1 M7
def X3_findLook_F (x0 : Nat) (M : Gm) : Option (Gm) :=
  (pfI M x0 3 3 ((-1))).bind fun M1 =>
  (pfI M1 x0 3 4 0).bind fun M3 =>
  (lp (X3_findLook_B12 x0) FU (0, M3)).bind fun r5 =>
  some r5
def sh_X3_findLook (x0 : Nat) (M : Gm) : Option (Gm) := (isO M x0 3).bind fun _ => X3_findLook_F x0 M
theorem X3_findLook_J42_ok {w : Gw} {d : Nat} {x0 : Nat} {x1 : Int32} {M : Gm} {o : Go} {M' : Gm} {out : (Int32 × Gm) ⊕ Gm} (h : X3_findLook_J42 x0 x1 M = some out) (hc : ∀ t : Int32 × Gm, out = .inl t → Wp w mdX3_findLook (d + 2) 12 [some (.inr x0), some (.inl t.1), none] [] t.2 o M') (he0 : ∀ t : Gm, out = .inr t → Wp w mdX3_findLook (d + 2) 48 [none, none, none] [] t o M') : Wp w mdX3_findLook (d + 2) 42 [some (.inr x0), some (.inl x1), none] [] M o M' := by
  unfold X3_findLook_J42 at h
  refine wp_iinc (v := x1 + 1) dX3_findLook_42 rfl rfl ?_
  refine wp_goto (tgt := 12) dX3_findLook_45 (by decide) ?_
  cases h
  exact wp_ls (lsS (lsS (lsN lsZ))) (hc (x1 + 1, M) rfl)

theorem X3_findLook_B12_ok {w : Gw} {d : Nat} {x0 : Nat} {q : Int32 × Gm} {o : Go} {M' : Gm} {out : (Int32 × Gm) ⊕ Gm} (h : X3_findLook_B12 x0 q = some out) (hc : ∀ t : Int32 × Gm, out = .inl t → Wp w mdX3_findLook (d + 2) 12 [some (.inr x0), some (.inl t.1), none] [] t.2 o M') (he0 : ∀ t : Gm, out = .inr t → Wp w mdX3_findLook (d + 2) 48 [none, none, none] [] t o M') : Wp w mdX3_findLook (d + 2) 12 [some (.inr x0), some (.inl q.1), none] [] q.2 o M' := by
  unfold X3_findLook_B12 at h
  refine wp_iload_n dX3_findLook_12 rfl ?_
  refine wp_bipush (v := 20) dX3_findLook_13 (by decide) ?_
  refine wp_icmp_gt (tgt := 48) dX3_findLook_15 (by decide) (fun hc_ => ?_) (fun hc_ => ?_)
  · replace h := ite_t hc_ h
    cases h
    exact wp_ls (lsN (lsN (lsN lsZ))) (he0 q.2 rfl)
  · replace h := ite_f hc_ h
    refine wp_aload_n dX3_findLook_18 rfl ?_
    refine wp_iload_n dX3_findLook_19 rfl ?_
    obtain ⟨q1, e2, h⟩ := bnd h
    refine wp_callV (As := [.inl q.1]) dX3_findLook_20 (sh_X3_countUnlike_ok (d := d) e2) okX3_countUnlike nnX3_countUnlike vvX3_countUnlike ml_RX3_121 rfl (Nat.le_of_ble_eq_true rfl) ?_
    refine wp_istore_n dX3_findLook_23 (Nat.le_of_ble_eq_true rfl) ?_
    refine wp_iload_n dX3_findLook_24 rfl ?_
    refine wp_aload_n dX3_findLook_25 rfl ?_
    obtain ⟨v3, e4, h⟩ := bnd h
    refine wp_getI (c := 3) (k := 4) dX3_findLook_26 e4 (by decide) (by decide) rfl fl_RX3_21 ?_
    refine wp_icmp_le (tgt := 42) dX3_findLook_29 (by decide) (fun hc_ => ?_) (fun hc_ => ?_)
    · replace h := ite_t hc_ h
      exact wp_ls (lsS (lsS (lsN lsZ))) (X3_findLook_J42_ok h hc he0)
    · replace h := ite_f hc_ h
      refine wp_aload_n dX3_findLook_32 rfl ?_
      refine wp_iload_n dX3_findLook_33 rfl ?_
      obtain ⟨M5, e6, h⟩ := bnd h
      refine wp_putI (c := 3) (k := 3) dX3_findLook_34 e6 (by decide) (by decide) rfl fl_RX3_18 (Or.inl rfl) ?_
      refine wp_aload_n dX3_findLook_37 rfl ?_
      refine wp_iload_n dX3_findLook_38 rfl ?_
      obtain ⟨M7, e8, h⟩ := bnd h
      refine wp_putI (c := 3) (k := 4) dX3_findLook_39 e8 (by decide) (by decide) rfl fl_RX3_21 (Or.inl rfl) ?_
      exact wp_ls (lsS (lsS (lsN lsZ))) (X3_findLook_J42_ok h hc he0)

theorem X3_findLook_B12_lp {w : Gw} {d : Nat} {x0 : Nat} {o : Go} {M' : Gm} {r : Gm} : ∀ (n : Nat) (q : Int32 × Gm), lp (X3_findLook_B12 x0) n q = some r → (∀ t : Gm, r = t → Wp w mdX3_findLook (d + 2) 48 [none, none, none] [] t o M') → Wp w mdX3_findLook (d + 2) 12 [some (.inr x0), some (.inl q.1), none] [] q.2 o M' := by
  intro n
  induction n with
  | zero => intro q h; cases h
  | succ n ih =>
    intro q h he0
    cases hb : X3_findLook_B12 x0 q with
    | none => rw [lp_succ, hb] at h; cases h
    | some out =>
      rw [lp_succ, hb] at h
      exact X3_findLook_B12_ok hb (fun t e => ih t (by rw [e] at h; exact h) he0) (fun t e => he0 t (by rw [e] at h; cases h; rfl))
theorem X3_findLook_F_ok {w : Gw} {d : Nat} {x0 : Nat} {M : Gm} {out : Gm} (h : X3_findLook_F x0 M = some out) : Wp w mdX3_findLook (d + 2) 0 [some (.inr x0), none, none] [] M (.inl none) out := by
  unfold X3_findLook_F at h
  refine wp_aload_n dX3_findLook_0 rfl ?_
  refine wp_iconst (v := (-1)) dX3_findLook_1 (by decide) ?_
  obtain ⟨M1, e2, h⟩ := bnd h
  refine wp_putI (c := 3) (k := 3) dX3_findLook_2 e2 (by decide) (by decide) rfl fl_RX3_18 (Or.inl rfl) ?_
  refine wp_aload_n dX3_findLook_5 rfl ?_
  refine wp_iconst (v := 0) dX3_findLook_6 (by decide) ?_
  obtain ⟨M3, e4, h⟩ := bnd h
  refine wp_putI (c := 3) (k := 4) dX3_findLook_7 e4 (by decide) (by decide) rfl fl_RX3_21 (Or.inl rfl) ?_
  refine wp_iconst (v := 0) dX3_findLook_10 (by decide) ?_
  refine wp_istore_n dX3_findLook_11 (Nat.le_of_ble_eq_true rfl) ?_
  obtain ⟨r5, e6, h⟩ := bnd h
  refine wp_ls (lsS (lsS (lsN lsZ))) (X3_findLook_B12_lp FU _ e6 ?_)
  intro t_ ht_; cases ht_
  cases h
  exact wp_ret dX3_findLook_48 rfl

theorem sh_X3_findLook_ok {w : Gw} {d : Nat} {x0 : Nat} {M : Gm} {out : Gm} (h : sh_X3_findLook x0 M = some out) : Ev w mdX3_findLook (d + 2) [.inr x0] M (.inl none) out := by
  obtain ⟨u, e0, h⟩ := bnd h
  exact ev_of okX3_findLook ⟨_, _, rfl, isO_of e0 (by decide), by decide⟩ (Nat.le_of_ble_eq_true rfl) (X3_findLook_F_ok h)

/-! HeatGovernor.look(II)I -/
def X11_look_J52 (s0 : Int32) (M : Gm) : Option ((Int32 × Gm) ⊕ (Nat × Gm)) :=
  some (.inl (s0, M))
def X11_look_F (x0 : Nat) (x1 : Int32) (x2 : Int32) (M : Gm) : Option ((Int32 × Gm) ⊕ (Nat × Gm)) :=
  (sh_X11_needZone x0 x1 M).bind fun q1 =>
  Sum.elim (fun u3 =>
    (sh_X11_needWhat x2 1 M).bind fun q5 =>
    Sum.elim (fun u7 =>
      (gfR M x0 11 10).bind fun v9 =>
      (gfR M x0 11 6).bind fun v11 =>
      (sh_X3_tryLeaks v9 v11 x1 20 M).bind fun q13 =>
      (gfR q13 x0 11 10).bind fun v15 =>
      (sh_X3_findLook v15 q13).bind fun q17 =>
      if x2 = 0 then
        (gfR q17 x0 11 10).bind fun v23 =>
        (gfI q17 v23 3 3).bind fun v25 =>
        X11_look_J52 v25 q17
      else
        (gfR q17 x0 11 10).bind fun v19 =>
        (gfI q17 v19 3 4).bind fun v21 =>
        X11_look_J52 v21 q17) (fun u8 =>
        some (.inr u8)) q5) (fun u4 =>
      some (.inr u4)) q1
def sh_X11_look (x0 : Nat) (x1 : Int32) (x2 : Int32) (M : Gm) : Option ((Int32 × Gm) ⊕ (Nat × Gm)) := (isO M x0 11).bind fun _ => X11_look_F x0 x1 x2 M
theorem X11_look_J52_ok {w : Gw} {d : Nat} {s0 : Int32} {M : Gm} {out : (Int32 × Gm) ⊕ (Nat × Gm)} (h : X11_look_J52 s0 M = some out) : Wp w mdX11_look (d + 7) 52 [none, none, none] [.inl s0] M (xoP out) (xmP out) := by
  unfold X11_look_J52 at h
  cases h
  exact wp_iret dX11_look_52 rfl

theorem X11_look_F_ok {w : Gw} {d : Nat} {x0 : Nat} {x1 : Int32} {x2 : Int32} {M : Gm} {out : (Int32 × Gm) ⊕ (Nat × Gm)} (h : X11_look_F x0 x1 x2 M = some out) : Wp w mdX11_look (d + 7) 0 [some (.inr x0), some (.inl x1), some (.inl x2)] [] M (xoP out) (xmP out) := by
  unfold X11_look_F at h
  refine wp_aload_n dX11_look_0 rfl ?_
  refine wp_iload_n dX11_look_1 rfl ?_
  obtain ⟨q1, e2, h⟩ := bnd h
  cases q1 with
  | inl u3 =>
    replace h := elim_l h
    refine wp_callV (As := [.inl x1]) dX11_look_2 (sh_X11_needZone_ok (d := d) e2) okX11_needZone nnX11_needZone vvX11_needZone ml_RX11_156 rfl (Nat.le_of_ble_eq_true rfl) ?_
    refine wp_iload_n dX11_look_5 rfl ?_
    refine wp_iconst (v := 1) dX11_look_6 (by decide) ?_
    obtain ⟨q5, e6, h⟩ := bnd h
    cases q5 with
    | inl u7 =>
      replace h := elim_l h
      refine wp_callS (As := [.inl x2, .inl 1]) dX11_look_7 (sh_X11_needWhat_ok (d := d) e6) okX11_needWhat nnX11_needWhat ssX11_needWhat ml_RX11_264 rfl (Nat.le_of_ble_eq_true rfl) ?_
      refine wp_aload_n dX11_look_10 rfl ?_
      obtain ⟨v9, e10, h⟩ := bnd h
      refine wp_getR (c := 11) (k := 10) dX11_look_11 e10 (by decide) (by decide) rfl fl_RX11_67 ?_
      refine wp_aload_n dX11_look_14 rfl ?_
      obtain ⟨v11, e12, h⟩ := bnd h
      refine wp_getR (c := 11) (k := 6) dX11_look_15 e12 (by decide) (by decide) rfl fl_RX11_44 ?_
      refine wp_iload_n dX11_look_18 rfl ?_
      refine wp_bipush (v := 20) dX11_look_19 (by decide) ?_
      obtain ⟨q13, e14, h⟩ := bnd h
      refine wp_callV (As := [.inr v11, .inl x1, .inl 20]) dX11_look_21 (sh_X3_tryLeaks_ok (d := d) e14) okX3_tryLeaks nnX3_tryLeaks vvX3_tryLeaks ml_RX11_337 rfl (Nat.le_of_ble_eq_true rfl) ?_
      refine wp_aload_n dX11_look_24 rfl ?_
      obtain ⟨v15, e16, h⟩ := bnd h
      refine wp_getR (c := 11) (k := 10) dX11_look_25 e16 (by decide) (by decide) rfl fl_RX11_67 ?_
      obtain ⟨q17, e18, h⟩ := bnd h
      refine wp_callV (As := []) dX11_look_28 (sh_X3_findLook_ok (d := d + 4) e18) okX3_findLook nnX3_findLook vvX3_findLook ml_RX11_347 rfl (Nat.le_of_ble_eq_true rfl) ?_
      refine wp_iload_n dX11_look_31 rfl ?_
      refine wp_if_ne (tgt := 45) dX11_look_32 (by decide) (fun hc_ => ?_) (fun hc_ => ?_)
      · replace h := ite_f hc_ h
        refine wp_aload_n dX11_look_45 rfl ?_
        obtain ⟨v19, e20, h⟩ := bnd h
        refine wp_getR (c := 11) (k := 10) dX11_look_46 e20 (by decide) (by decide) rfl fl_RX11_67 ?_
        obtain ⟨v21, e22, h⟩ := bnd h
        refine wp_getI (c := 3) (k := 4) dX11_look_49 e22 (by decide) (by decide) rfl fl_RX11_353 ?_
        exact wp_ls (lsN (lsN (lsN lsZ))) (X11_look_J52_ok h)
      · replace h := ite_t hc_ h
        refine wp_aload_n dX11_look_35 rfl ?_
        obtain ⟨v23, e24, h⟩ := bnd h
        refine wp_getR (c := 11) (k := 10) dX11_look_36 e24 (by decide) (by decide) rfl fl_RX11_67 ?_
        obtain ⟨v25, e26, h⟩ := bnd h
        refine wp_getI (c := 3) (k := 3) dX11_look_39 e26 (by decide) (by decide) rfl fl_RX11_350 ?_
        refine wp_goto (tgt := 52) dX11_look_42 (by decide) ?_
        exact wp_ls (lsN (lsN (lsN lsZ))) (X11_look_J52_ok h)
    | inr u8 =>
      replace h := elim_r h
      cases h
      exact wp_callSx (As := [.inl x2, .inl 1]) dX11_look_7 (sh_X11_needWhat_ok (d := d) e6) okX11_needWhat nnX11_needWhat ssX11_needWhat ml_RX11_264 rfl (Nat.le_of_ble_eq_true rfl) rfl
  | inr u4 =>
    replace h := elim_r h
    cases h
    exact wp_callVx (As := [.inl x1]) dX11_look_2 (sh_X11_needZone_ok (d := d) e2) okX11_needZone nnX11_needZone vvX11_needZone ml_RX11_156 rfl (Nat.le_of_ble_eq_true rfl) rfl

theorem sh_X11_look_ok {w : Gw} {d : Nat} {x0 : Nat} {x1 : Int32} {x2 : Int32} {M : Gm} {out : (Int32 × Gm) ⊕ (Nat × Gm)} (h : sh_X11_look x0 x1 x2 M = some out) : Ev w mdX11_look (d + 7) [.inr x0, .inl x1, .inl x2] M (xoP out) (xmP out) := by
  obtain ⟨u, e0, h⟩ := bnd h
  exact ev_of okX11_look ⟨_, _, rfl, isO_of e0 (by decide), by decide⟩ (Nat.le_of_ble_eq_true rfl) (X11_look_F_ok h)

/-! HeatGovernor$Foresight.draw(I)I -/
def X3_draw_J36 (s0 : Int32) (M : Gm) : Option (Int32 × Gm) :=
  some (s0, M)
def X3_draw_F (x0 : Nat) (x1 : Int32) (M : Gm) : Option (Int32 × Gm) :=
  (gfI M x0 3 7).bind fun v1 =>
  (pfI M x0 3 7 ((v1 * 1103515245) + 12345)).bind fun M3 =>
  if x1 ≤ 0 then
    X3_draw_J36 0 M3
  else
    (gfI M3 x0 3 7).bind fun v5 =>
    (rmI ((ushI v5 16) &&& 32767) x1).bind fun v7 =>
    X3_draw_J36 v7 M3
def sh_X3_draw (x0 : Nat) (x1 : Int32) (M : Gm) : Option (Int32 × Gm) := (isO M x0 3).bind fun _ => X3_draw_F x0 x1 M
theorem X3_draw_J36_ok {w : Gw} {d : Nat} {s0 : Int32} {M : Gm} {out : Int32 × Gm} (h : X3_draw_J36 s0 M = some out) : Wp w mdX3_draw d 36 [none, none] [.inl s0] M (.inl (some (.inl out.1))) out.2 := by
  unfold X3_draw_J36 at h
  cases h
  exact wp_iret dX3_draw_36 rfl

theorem X3_draw_F_ok {w : Gw} {d : Nat} {x0 : Nat} {x1 : Int32} {M : Gm} {out : Int32 × Gm} (h : X3_draw_F x0 x1 M = some out) : Wp w mdX3_draw d 0 [some (.inr x0), some (.inl x1)] [] M (.inl (some (.inl out.1))) out.2 := by
  unfold X3_draw_F at h
  refine wp_aload_n dX3_draw_0 rfl ?_
  refine wp_aload_n dX3_draw_1 rfl ?_
  obtain ⟨v1, e2, h⟩ := bnd h
  refine wp_getI (c := 3) (k := 7) dX3_draw_2 e2 (by decide) (by decide) rfl fl_RX3_28 ?_
  refine wp_ldc (v := 1103515245) dX3_draw_5 ct_RX3_131 ?_
  refine wp_imul dX3_draw_7 ?_
  refine wp_sipush (v := 12345) dX3_draw_8 (by decide) ?_
  refine wp_iadd dX3_draw_11 ?_
  obtain ⟨M3, e4, h⟩ := bnd h
  refine wp_putI (c := 3) (k := 7) dX3_draw_12 e4 (by decide) (by decide) rfl fl_RX3_28 (Or.inl rfl) ?_
  refine wp_iload_n dX3_draw_15 rfl ?_
  refine wp_if_le (tgt := 35) dX3_draw_16 (by decide) (fun hc_ => ?_) (fun hc_ => ?_)
  · replace h := ite_t hc_ h
    refine wp_iconst (v := 0) dX3_draw_35 (by decide) ?_
    exact wp_ls (lsN (lsN lsZ)) (X3_draw_J36_ok h)
  · replace h := ite_f hc_ h
    refine wp_aload_n dX3_draw_19 rfl ?_
    obtain ⟨v5, e6, h⟩ := bnd h
    refine wp_getI (c := 3) (k := 7) dX3_draw_20 e6 (by decide) (by decide) rfl fl_RX3_28 ?_
    refine wp_bipush (v := 16) dX3_draw_23 (by decide) ?_
    refine wp_iushr dX3_draw_25 ?_
    refine wp_sipush (v := 32767) dX3_draw_26 (by decide) ?_
    refine wp_iand dX3_draw_29 ?_
    refine wp_iload_n dX3_draw_30 rfl ?_
    obtain ⟨v7, e8, h⟩ := bnd h
    refine wp_irem dX3_draw_31 e8 ?_
    refine wp_goto (tgt := 36) dX3_draw_32 (by decide) ?_
    exact wp_ls (lsN (lsN lsZ)) (X3_draw_J36_ok h)

theorem sh_X3_draw_ok {w : Gw} {d : Nat} {x0 : Nat} {x1 : Int32} {M : Gm} {out : Int32 × Gm} (h : sh_X3_draw x0 x1 M = some out) : Ev w mdX3_draw d [.inr x0, .inl x1] M (.inl (some (.inl out.1))) out.2 := by
  obtain ⟨u, e0, h⟩ := bnd h
  exact ev_of okX3_draw ⟨_, _, rfl, isO_of e0 (by decide), by decide⟩ (Nat.le_of_ble_eq_true rfl) (X3_draw_F_ok h)

/-! HeatGovernor$Foresight.liveYears(LHeatGovernor$State;II)I -/
def X3_liveYears_B86 (x0 : Nat) (x1 : Nat) (x3 : Int32) (x5 : Int32) (M : Gm) (q : Int32 × Int32) : Option ((Int32 × Int32) ⊕ Int32) :=
  (gfR M x1 7 0).bind fun v1 =>
  (gfI M v1 5 5).bind fun v3 =>
  if v3 ≤ q.2 then
    some (.inr q.1)
  else
    (gfR M x0 3 0).bind fun v5 =>
    (gfR M v5 7 3).bind fun v7 =>
    (ldA M 0 v7 q.2).bind fun v9 =>
    (sh_J9_max_7cf53 q.1 v9 M).bind fun q11 =>
    some (.inl (q11, q.2 + 1))
def X3_liveYears_J72 (x0 : Nat) (x1 : Nat) (x3 : Int32) (x4 : Int32) (x5 : Int32) (M : Gm) : Option ((Int32 × Int32 × Gm) ⊕ (Int32 × Gm)) :=
  (gfR M x0 3 5).bind fun v1 =>
  (gfR M x0 3 0).bind fun v3 =>
  (sh_X1_passMinute v1 v3 M).bind fun q5 =>
  (lp (X3_liveYears_B86 x0 x1 x3 x5 q5) FU (x4, 0)).bind fun r7 =>
  some (.inl (r7, x5 + 1, q5))
def X3_liveYears_B19 (x0 : Nat) (x1 : Nat) (x3 : Int32) (q : Int32 × Int32 × Gm) : Option ((Int32 × Int32 × Gm) ⊕ (Int32 × Gm)) :=
  if x3 ≤ q.2.1 then
    some (.inr (q.1, q.2.2))
  else
    (sh_X3_draw x0 4 q.2.2).bind fun q1 =>
    if q1.1 = 0 then
      (gfR q1.2 x1 7 0).bind fun v3 =>
      (gfI q1.2 v3 5 5).bind fun v5 =>
      if v5 ≤ 0 then
        X3_liveYears_J72 x0 x1 x3 q.1 q.2.1 q1.2
      else
        (gfR q1.2 x1 7 0).bind fun v7 =>
        (gfI q1.2 v7 5 5).bind fun v9 =>
        (sh_X3_draw x0 v9 q1.2).bind fun q11 =>
        (gfR q11.2 x0 3 0).bind fun v13 =>
        (gfR q11.2 v13 7 4).bind fun v15 =>
        (sh_X3_draw x0 100 q11.2).bind fun q17 =>
        (stA q17.2 0 v15 q11.1 q17.1).bind fun M19 =>
        X3_liveYears_J72 x0 x1 x3 q.1 q.2.1 M19
    else
      X3_liveYears_J72 x0 x1 x3 q.1 q.2.1 q1.2
def X3_liveYears_F (x0 : Nat) (x1 : Nat) (x2 : Int32) (x3 : Int32) (M : Gm) : Option (Int32 × Gm) :=
  (gfR M x0 3 0).bind fun v1 =>
  (sh_X7_copyFrom v1 x1 M).bind fun q3 =>
  (pfI q3 x0 3 7 x2).bind fun M5 =>
  (lp (X3_liveYears_B19 x0 x1 x3) FU (0, 0, M5)).bind fun r7 =>
  some (r7.1, r7.2)
def sh_X3_liveYears (x0 : Nat) (x1 : Nat) (x2 : Int32) (x3 : Int32) (M : Gm) : Option (Int32 × Gm) := (isO M x0 3).bind fun _ => X3_liveYears_F x0 x1 x2 x3 M
theorem X3_liveYears_B86_ok {w : Gw} {d : Nat} {x0 : Nat} {x1 : Nat} {x3 : Int32} {x5 : Int32} {M : Gm} {q : Int32 × Int32} {o : Go} {M' : Gm} {out : (Int32 × Int32) ⊕ Int32} (h : X3_liveYears_B86 x0 x1 x3 x5 M q = some out) (hc : ∀ t : Int32 × Int32, out = .inl t → Wp w mdX3_liveYears (d + 5) 86 [some (.inr x0), some (.inr x1), none, some (.inl x3), some (.inl t.1), some (.inl x5), some (.inl t.2)] [] M o M') (he0 : ∀ t : Int32, out = .inr t → Wp w mdX3_liveYears (d + 5) 121 [some (.inr x0), some (.inr x1), none, some (.inl x3), some (.inl t), some (.inl x5), none] [] M o M') : Wp w mdX3_liveYears (d + 5) 86 [some (.inr x0), some (.inr x1), none, some (.inl x3), some (.inl q.1), some (.inl x5), some (.inl q.2)] [] M o M' := by
  unfold X3_liveYears_B86 at h
  refine wp_iload dX3_liveYears_86 rfl ?_
  refine wp_aload_n dX3_liveYears_88 rfl ?_
  obtain ⟨v1, e2, h⟩ := bnd h
  refine wp_getR (c := 7) (k := 0) dX3_liveYears_89 e2 (by decide) (by decide) rfl fl_RX3_69 ?_
  obtain ⟨v3, e4, h⟩ := bnd h
  refine wp_getI (c := 5) (k := 5) dX3_liveYears_92 e4 (by decide) (by decide) rfl fl_RX3_73 ?_
  refine wp_icmp_ge (tgt := 121) dX3_liveYears_95 (by decide) (fun hc_ => ?_) (fun hc_ => ?_)
  · replace h := ite_t hc_ h
    cases h
    exact wp_ls (lsS (lsS (lsN (lsS (lsS (lsS (lsN lsZ))))))) (he0 q.1 rfl)
  · replace h := ite_f hc_ h
    refine wp_iload dX3_liveYears_98 rfl ?_
    refine wp_aload_n dX3_liveYears_100 rfl ?_
    obtain ⟨v5, e6, h⟩ := bnd h
    refine wp_getR (c := 3) (k := 0) dX3_liveYears_101 e6 (by decide) (by decide) rfl fl_RX3_36 ?_
    obtain ⟨v7, e8, h⟩ := bnd h
    refine wp_getR (c := 7) (k := 3) dX3_liveYears_104 e8 (by decide) (by decide) rfl fl_RX3_53 ?_
    refine wp_iload dX3_liveYears_107 rfl ?_
    obtain ⟨v9, e10, h⟩ := bnd h
    refine wp_iaload dX3_liveYears_109 e10 ?_
    obtain ⟨q11, e12, h⟩ := bnd h
    refine wp_callS (As := [.inl q.1, .inl v9]) dX3_liveYears_110 (sh_J9_max_7cf53_ok (d := d + 4) e12) okJ9_max_7cf53 nnJ9_max_7cf53 ssJ9_max_7cf53 ml_RX3_56 rfl (Nat.le_of_ble_eq_true rfl) ?_
    refine wp_istore dX3_liveYears_113 (Nat.le_of_ble_eq_true rfl) ?_
    refine wp_iinc (v := q.2 + 1) dX3_liveYears_115 rfl rfl ?_
    refine wp_goto (tgt := 86) dX3_liveYears_118 (by decide) ?_
    cases h
    exact wp_ls (lsS (lsS (lsN (lsS (lsS (lsS (lsS lsZ))))))) (hc (q11, q.2 + 1) rfl)

theorem X3_liveYears_B86_lp {w : Gw} {d : Nat} {x0 : Nat} {x1 : Nat} {x3 : Int32} {x5 : Int32} {M : Gm} {o : Go} {M' : Gm} {r : Int32} : ∀ (n : Nat) (q : Int32 × Int32), lp (X3_liveYears_B86 x0 x1 x3 x5 M) n q = some r → (∀ t : Int32, r = t → Wp w mdX3_liveYears (d + 5) 121 [some (.inr x0), some (.inr x1), none, some (.inl x3), some (.inl t), some (.inl x5), none] [] M o M') → Wp w mdX3_liveYears (d + 5) 86 [some (.inr x0), some (.inr x1), none, some (.inl x3), some (.inl q.1), some (.inl x5), some (.inl q.2)] [] M o M' := by
  intro n
  induction n with
  | zero => intro q h; cases h
  | succ n ih =>
    intro q h he0
    cases hb : X3_liveYears_B86 x0 x1 x3 x5 M q with
    | none => rw [lp_succ, hb] at h; cases h
    | some out =>
      rw [lp_succ, hb] at h
      exact X3_liveYears_B86_ok hb (fun t e => ih t (by rw [e] at h; exact h) he0) (fun t e => he0 t (by rw [e] at h; cases h; rfl))
theorem X3_liveYears_J72_ok {w : Gw} {d : Nat} {x0 : Nat} {x1 : Nat} {x3 : Int32} {x4 : Int32} {x5 : Int32} {M : Gm} {o : Go} {M' : Gm} {out : (Int32 × Int32 × Gm) ⊕ (Int32 × Gm)} (h : X3_liveYears_J72 x0 x1 x3 x4 x5 M = some out) (hc : ∀ t : Int32 × Int32 × Gm, out = .inl t → Wp w mdX3_liveYears (d + 5) 19 [some (.inr x0), some (.inr x1), none, some (.inl x3), some (.inl t.1), some (.inl t.2.1), none] [] t.2.2 o M') (he0 : ∀ t : Int32 × Gm, out = .inr t → Wp w mdX3_liveYears (d + 5) 127 [none, none, none, none, some (.inl t.1), none, none] [] t.2 o M') : Wp w mdX3_liveYears (d + 5) 72 [some (.inr x0), some (.inr x1), none, some (.inl x3), some (.inl x4), some (.inl x5), none] [] M o M' := by
  unfold X3_liveYears_J72 at h
  refine wp_aload_n dX3_liveYears_72 rfl ?_
  obtain ⟨v1, e2, h⟩ := bnd h
  refine wp_getR (c := 3) (k := 5) dX3_liveYears_73 e2 (by decide) (by decide) rfl fl_RX3_40 ?_
  refine wp_aload_n dX3_liveYears_76 rfl ?_
  obtain ⟨v3, e4, h⟩ := bnd h
  refine wp_getR (c := 3) (k := 0) dX3_liveYears_77 e4 (by decide) (by decide) rfl fl_RX3_36 ?_
  obtain ⟨q5, e6, h⟩ := bnd h
  refine wp_callV (As := [.inr v3]) dX3_liveYears_80 (sh_X1_passMinute_ok (d := d) e6) okX1_passMinute nnX1_passMinute vvX1_passMinute ml_RX3_48 rfl (Nat.le_of_ble_eq_true rfl) ?_
  refine wp_iconst (v := 0) dX3_liveYears_83 (by decide) ?_
  refine wp_istore dX3_liveYears_84 (Nat.le_of_ble_eq_true rfl) ?_
  obtain ⟨r7, e8, h⟩ := bnd h
  refine wp_ls (lsS (lsS (lsN (lsS (lsS (lsS (lsS lsZ))))))) (X3_liveYears_B86_lp FU _ e8 ?_)
  intro t_ ht_; cases ht_
  refine wp_iinc (v := x5 + 1) dX3_liveYears_121 rfl rfl ?_
  refine wp_goto (tgt := 19) dX3_liveYears_124 (by decide) ?_
  cases h
  exact wp_ls (lsS (lsS (lsN (lsS (lsS (lsS (lsN lsZ))))))) (hc (r7, x5 + 1, q5) rfl)

theorem X3_liveYears_B19_ok {w : Gw} {d : Nat} {x0 : Nat} {x1 : Nat} {x3 : Int32} {q : Int32 × Int32 × Gm} {o : Go} {M' : Gm} {out : (Int32 × Int32 × Gm) ⊕ (Int32 × Gm)} (h : X3_liveYears_B19 x0 x1 x3 q = some out) (hc : ∀ t : Int32 × Int32 × Gm, out = .inl t → Wp w mdX3_liveYears (d + 5) 19 [some (.inr x0), some (.inr x1), none, some (.inl x3), some (.inl t.1), some (.inl t.2.1), none] [] t.2.2 o M') (he0 : ∀ t : Int32 × Gm, out = .inr t → Wp w mdX3_liveYears (d + 5) 127 [none, none, none, none, some (.inl t.1), none, none] [] t.2 o M') : Wp w mdX3_liveYears (d + 5) 19 [some (.inr x0), some (.inr x1), none, some (.inl x3), some (.inl q.1), some (.inl q.2.1), none] [] q.2.2 o M' := by
  unfold X3_liveYears_B19 at h
  refine wp_iload dX3_liveYears_19 rfl ?_
  refine wp_iload_n dX3_liveYears_21 rfl ?_
  refine wp_icmp_ge (tgt := 127) dX3_liveYears_22 (by decide) (fun hc_ => ?_) (fun hc_ => ?_)
  · replace h := ite_t hc_ h
    cases h
    exact wp_ls (lsN (lsN (lsN (lsN (lsS (lsN (lsN lsZ))))))) (he0 (q.1, q.2.2) rfl)
  · replace h := ite_f hc_ h
    refine wp_aload_n dX3_liveYears_25 rfl ?_
    refine wp_iconst (v := 4) dX3_liveYears_26 (by decide) ?_
    obtain ⟨q1, e2, h⟩ := bnd h
    refine wp_callV (As := [.inl 4]) dX3_liveYears_27 (sh_X3_draw_ok (d := d + 4) e2) okX3_draw nnX3_draw vvX3_draw ml_RX3_128 rfl (Nat.le_of_ble_eq_true rfl) ?_
    refine wp_if_ne (tgt := 72) dX3_liveYears_30 (by decide) (fun hc_ => ?_) (fun hc_ => ?_)
    · replace h := ite_f hc_ h
      exact wp_ls (lsS (lsS (lsN (lsS (lsS (lsS (lsN lsZ))))))) (X3_liveYears_J72_ok h hc he0)
    · replace h := ite_t hc_ h
      refine wp_aload_n dX3_liveYears_33 rfl ?_
      obtain ⟨v3, e4, h⟩ := bnd h
      refine wp_getR (c := 7) (k := 0) dX3_liveYears_34 e4 (by decide) (by decide) rfl fl_RX3_69 ?_
      obtain ⟨v5, e6, h⟩ := bnd h
      refine wp_getI (c := 5) (k := 5) dX3_liveYears_37 e6 (by decide) (by decide) rfl fl_RX3_73 ?_
      refine wp_if_le (tgt := 72) dX3_liveYears_40 (by decide) (fun hc_ => ?_) (fun hc_ => ?_)
      · replace h := ite_t hc_ h
        exact wp_ls (lsS (lsS (lsN (lsS (lsS (lsS (lsN lsZ))))))) (X3_liveYears_J72_ok h hc he0)
      · replace h := ite_f hc_ h
        refine wp_aload_n dX3_liveYears_43 rfl ?_
        refine wp_aload_n dX3_liveYears_44 rfl ?_
        obtain ⟨v7, e8, h⟩ := bnd h
        refine wp_getR (c := 7) (k := 0) dX3_liveYears_45 e8 (by decide) (by decide) rfl fl_RX3_69 ?_
        obtain ⟨v9, e10, h⟩ := bnd h
        refine wp_getI (c := 5) (k := 5) dX3_liveYears_48 e10 (by decide) (by decide) rfl fl_RX3_73 ?_
        obtain ⟨q11, e12, h⟩ := bnd h
        refine wp_callV (As := [.inl v9]) dX3_liveYears_51 (sh_X3_draw_ok (d := d + 4) e12) okX3_draw nnX3_draw vvX3_draw ml_RX3_128 rfl (Nat.le_of_ble_eq_true rfl) ?_
        refine wp_istore dX3_liveYears_54 (Nat.le_of_ble_eq_true rfl) ?_
        refine wp_aload_n dX3_liveYears_56 rfl ?_
        obtain ⟨v13, e14, h⟩ := bnd h
        refine wp_getR (c := 3) (k := 0) dX3_liveYears_57 e14 (by decide) (by decide) rfl fl_RX3_36 ?_
        obtain ⟨v15, e16, h⟩ := bnd h
        refine wp_getR (c := 7) (k := 4) dX3_liveYears_60 e16 (by decide) (by decide) rfl fl_RX3_95 ?_
        refine wp_iload dX3_liveYears_63 rfl ?_
        refine wp_aload_n dX3_liveYears_65 rfl ?_
        refine wp_bipush (v := 100) dX3_liveYears_66 (by decide) ?_
        obtain ⟨q17, e18, h⟩ := bnd h
        refine wp_callV (As := [.inl 100]) dX3_liveYears_68 (sh_X3_draw_ok (d := d + 4) e18) okX3_draw nnX3_draw vvX3_draw ml_RX3_128 rfl (Nat.le_of_ble_eq_true rfl) ?_
        obtain ⟨M19, e20, h⟩ := bnd h
        refine wp_iastore dX3_liveYears_71 e20 ?_
        exact wp_ls (lsS (lsS (lsN (lsS (lsS (lsS (lsN lsZ))))))) (X3_liveYears_J72_ok h hc he0)

theorem X3_liveYears_B19_lp {w : Gw} {d : Nat} {x0 : Nat} {x1 : Nat} {x3 : Int32} {o : Go} {M' : Gm} {r : (Int32 × Gm)} : ∀ (n : Nat) (q : Int32 × Int32 × Gm), lp (X3_liveYears_B19 x0 x1 x3) n q = some r → (∀ t : Int32 × Gm, r = t → Wp w mdX3_liveYears (d + 5) 127 [none, none, none, none, some (.inl t.1), none, none] [] t.2 o M') → Wp w mdX3_liveYears (d + 5) 19 [some (.inr x0), some (.inr x1), none, some (.inl x3), some (.inl q.1), some (.inl q.2.1), none] [] q.2.2 o M' := by
  intro n
  induction n with
  | zero => intro q h; cases h
  | succ n ih =>
    intro q h he0
    cases hb : X3_liveYears_B19 x0 x1 x3 q with
    | none => rw [lp_succ, hb] at h; cases h
    | some out =>
      rw [lp_succ, hb] at h
      exact X3_liveYears_B19_ok hb (fun t e => ih t (by rw [e] at h; exact h) he0) (fun t e => he0 t (by rw [e] at h; cases h; rfl))
theorem X3_liveYears_F_ok {w : Gw} {d : Nat} {x0 : Nat} {x1 : Nat} {x2 : Int32} {x3 : Int32} {M : Gm} {out : Int32 × Gm} (h : X3_liveYears_F x0 x1 x2 x3 M = some out) : Wp w mdX3_liveYears (d + 5) 0 [some (.inr x0), some (.inr x1), some (.inl x2), some (.inl x3), none, none, none] [] M (.inl (some (.inl out.1))) out.2 := by
  unfold X3_liveYears_F at h
  refine wp_aload_n dX3_liveYears_0 rfl ?_
  obtain ⟨v1, e2, h⟩ := bnd h
  refine wp_getR (c := 3) (k := 0) dX3_liveYears_1 e2 (by decide) (by decide) rfl fl_RX3_36 ?_
  refine wp_aload_n dX3_liveYears_4 rfl ?_
  obtain ⟨q3, e4, h⟩ := bnd h
  refine wp_callV (As := [.inr x1]) dX3_liveYears_5 (sh_X7_copyFrom_ok (d := d + 2) e4) okX7_copyFrom nnX7_copyFrom vvX7_copyFrom ml_RX3_44 rfl (Nat.le_of_ble_eq_true rfl) ?_
  refine wp_aload_n dX3_liveYears_8 rfl ?_
  refine wp_iload_n dX3_liveYears_9 rfl ?_
  obtain ⟨M5, e6, h⟩ := bnd h
  refine wp_putI (c := 3) (k := 7) dX3_liveYears_10 e6 (by decide) (by decide) rfl fl_RX3_28 (Or.inl rfl) ?_
  refine wp_iconst (v := 0) dX3_liveYears_13 (by decide) ?_
  refine wp_istore dX3_liveYears_14 (Nat.le_of_ble_eq_true rfl) ?_
  refine wp_iconst (v := 0) dX3_liveYears_16 (by decide) ?_
  refine wp_istore dX3_liveYears_17 (Nat.le_of_ble_eq_true rfl) ?_
  obtain ⟨r7, e8, h⟩ := bnd h
  refine wp_ls (lsS (lsS (lsN (lsS (lsS (lsS (lsN lsZ))))))) (X3_liveYears_B19_lp FU _ e8 ?_)
  intro t_ ht_; cases ht_
  refine wp_iload dX3_liveYears_127 rfl ?_
  cases h
  exact wp_iret dX3_liveYears_129 rfl

theorem sh_X3_liveYears_ok {w : Gw} {d : Nat} {x0 : Nat} {x1 : Nat} {x2 : Int32} {x3 : Int32} {M : Gm} {out : Int32 × Gm} (h : sh_X3_liveYears x0 x1 x2 x3 M = some out) : Ev w mdX3_liveYears (d + 5) [.inr x0, .inr x1, .inl x2, .inl x3] M (.inl (some (.inl out.1))) out.2 := by
  obtain ⟨u, e0, h⟩ := bnd h
  exact ev_of okX3_liveYears ⟨_, _, rfl, isO_of e0 (by decide), by decide⟩ (Nat.le_of_ble_eq_true rfl) (X3_liveYears_F_ok h)

/-! HeatGovernor.years(III)I -/
def X11_years_F (x0 : Nat) (x1 : Int32) (x2 : Int32) (x3 : Int32) (M : Gm) : Option ((Int32 × Gm) ⊕ (Nat × Gm)) :=
  (sh_X11_needWhat x3 2 M).bind fun q1 =>
  Sum.elim (fun u3 =>
    (sh_X11_needMinutes x2 0 60 M).bind fun q5 =>
    Sum.elim (fun u7 =>
      (gfR M x0 11 10).bind fun v9 =>
      (gfR M x0 11 6).bind fun v11 =>
      (gfR M v11 4 0).bind fun v13 =>
      (sh_X3_liveYears v9 v13 x1 x2 M).bind fun q15 =>
      if x3 = 0 then
        some (.inl (q15.1, q15.2))
      else if x3 = 1 then
        (gfR q15.2 x0 11 10).bind fun v17 =>
        (gfR q15.2 v17 3 0).bind fun v19 =>
        (sh_X7_shutBits v19 q15.2).bind fun q21 =>
        some (.inl (q21, q15.2))
      else
        (gfR q15.2 x0 11 10).bind fun v23 =>
        (gfR q15.2 v23 3 0).bind fun v25 =>
        (gfI q15.2 v25 7 19).bind fun v27 =>
        (gfR q15.2 x0 11 6).bind fun v29 =>
        (gfR q15.2 v29 4 0).bind fun v31 =>
        (gfI q15.2 v31 7 19).bind fun v33 =>
        some (.inl (v27 - v33, q15.2))) (fun u8 =>
        some (.inr u8)) q5) (fun u4 =>
      some (.inr u4)) q1
def sh_X11_years (x0 : Nat) (x1 : Int32) (x2 : Int32) (x3 : Int32) (M : Gm) : Option ((Int32 × Gm) ⊕ (Nat × Gm)) := (isO M x0 11).bind fun _ => X11_years_F x0 x1 x2 x3 M
theorem X11_years_F_ok {w : Gw} {d : Nat} {x0 : Nat} {x1 : Int32} {x2 : Int32} {x3 : Int32} {M : Gm} {out : (Int32 × Gm) ⊕ (Nat × Gm)} (h : X11_years_F x0 x1 x2 x3 M = some out) : Wp w mdX11_years (d + 7) 0 [some (.inr x0), some (.inl x1), some (.inl x2), some (.inl x3), none] [] M (xoP out) (xmP out) := by
  unfold X11_years_F at h
  refine wp_iload_n dX11_years_0 rfl ?_
  refine wp_iconst (v := 2) dX11_years_1 (by decide) ?_
  obtain ⟨q1, e2, h⟩ := bnd h
  cases q1 with
  | inl u3 =>
    replace h := elim_l h
    refine wp_callS (As := [.inl x3, .inl 2]) dX11_years_2 (sh_X11_needWhat_ok (d := d) e2) okX11_needWhat nnX11_needWhat ssX11_needWhat ml_RX11_264 rfl (Nat.le_of_ble_eq_true rfl) ?_
    refine wp_iload_n dX11_years_5 rfl ?_
    refine wp_iconst (v := 0) dX11_years_6 (by decide) ?_
    refine wp_bipush (v := 60) dX11_years_7 (by decide) ?_
    obtain ⟨q5, e6, h⟩ := bnd h
    cases q5 with
    | inl u7 =>
      replace h := elim_l h
      refine wp_callS (As := [.inl x2, .inl 0, .inl 60]) dX11_years_9 (sh_X11_needMinutes_ok (d := d) e6) okX11_needMinutes nnX11_needMinutes ssX11_needMinutes ml_RX11_289 rfl (Nat.le_of_ble_eq_true rfl) ?_
      refine wp_aload_n dX11_years_12 rfl ?_
      obtain ⟨v9, e10, h⟩ := bnd h
      refine wp_getR (c := 11) (k := 10) dX11_years_13 e10 (by decide) (by decide) rfl fl_RX11_67 ?_
      refine wp_aload_n dX11_years_16 rfl ?_
      obtain ⟨v11, e12, h⟩ := bnd h
      refine wp_getR (c := 11) (k := 6) dX11_years_17 e12 (by decide) (by decide) rfl fl_RX11_44 ?_
      obtain ⟨v13, e14, h⟩ := bnd h
      refine wp_getR (c := 4) (k := 0) dX11_years_20 e14 (by decide) (by decide) rfl fl_RX11_96 ?_
      refine wp_iload_n dX11_years_23 rfl ?_
      refine wp_iload_n dX11_years_24 rfl ?_
      obtain ⟨q15, e16, h⟩ := bnd h
      refine wp_callV (As := [.inr v13, .inl x1, .inl x2]) dX11_years_25 (sh_X3_liveYears_ok (d := d + 1) e16) okX3_liveYears nnX3_liveYears vvX3_liveYears ml_RX11_356 rfl (Nat.le_of_ble_eq_true rfl) ?_
      refine wp_istore dX11_years_28 (Nat.le_of_ble_eq_true rfl) ?_
      refine wp_iload_n dX11_years_30 rfl ?_
      by_cases cz0 : x3 = 0
      · replace h := ite_t cz0 h
        refine wp_lookup (tgt := 56) (off := 25) dX11_years_31 (by decide) (by rw [cz0]; decide) (by decide) ?_
        refine wp_iload dX11_years_56 rfl ?_
        cases h
        exact wp_iret dX11_years_58 rfl
      replace h := ite_f cz0 h
      by_cases cz1 : x3 = 1
      · replace h := ite_t cz1 h
        refine wp_lookup (tgt := 59) (off := 28) dX11_years_31 (by decide) (by rw [cz1]; decide) (by decide) ?_
        refine wp_aload_n dX11_years_59 rfl ?_
        obtain ⟨v17, e18, h⟩ := bnd h
        refine wp_getR (c := 11) (k := 10) dX11_years_60 e18 (by decide) (by decide) rfl fl_RX11_67 ?_
        obtain ⟨v19, e20, h⟩ := bnd h
        refine wp_getR (c := 3) (k := 0) dX11_years_63 e20 (by decide) (by decide) rfl fl_RX11_359 ?_
        obtain ⟨q21, e22, h⟩ := bnd h
        refine wp_callV (As := []) dX11_years_66 (sh_X7_shutBits_ok (d := d + 5) e22) okX7_shutBits nnX7_shutBits vvX7_shutBits ml_RX11_123 rfl (Nat.le_of_ble_eq_true rfl) ?_
        cases h
        exact wp_iret dX11_years_69 rfl
      replace h := ite_f cz1 h
      refine wp_lookup (tgt := 70) (off := 39) dX11_years_31 (by decide) (by rw [lv_osw cz0 (show (0 : Int32).toInt = 0 by decide)]; rw [lv_osw cz1 (show (1 : Int32).toInt = 1 by decide)]; rfl) (by decide) ?_
      refine wp_aload_n dX11_years_70 rfl ?_
      obtain ⟨v23, e24, h⟩ := bnd h
      refine wp_getR (c := 11) (k := 10) dX11_years_71 e24 (by decide) (by decide) rfl fl_RX11_67 ?_
      obtain ⟨v25, e26, h⟩ := bnd h
      refine wp_getR (c := 3) (k := 0) dX11_years_74 e26 (by decide) (by decide) rfl fl_RX11_359 ?_
      obtain ⟨v27, e28, h⟩ := bnd h
      refine wp_getI (c := 7) (k := 19) dX11_years_77 e28 (by decide) (by decide) rfl fl_RX11_362 ?_
      refine wp_aload_n dX11_years_80 rfl ?_
      obtain ⟨v29, e30, h⟩ := bnd h
      refine wp_getR (c := 11) (k := 6) dX11_years_81 e30 (by decide) (by decide) rfl fl_RX11_44 ?_
      obtain ⟨v31, e32, h⟩ := bnd h
      refine wp_getR (c := 4) (k := 0) dX11_years_84 e32 (by decide) (by decide) rfl fl_RX11_96 ?_
      obtain ⟨v33, e34, h⟩ := bnd h
      refine wp_getI (c := 7) (k := 19) dX11_years_87 e34 (by decide) (by decide) rfl fl_RX11_362 ?_
      refine wp_isub dX11_years_90 ?_
      cases h
      exact wp_iret dX11_years_91 rfl
    | inr u8 =>
      replace h := elim_r h
      cases h
      exact wp_callSx (As := [.inl x2, .inl 0, .inl 60]) dX11_years_9 (sh_X11_needMinutes_ok (d := d) e6) okX11_needMinutes nnX11_needMinutes ssX11_needMinutes ml_RX11_289 rfl (Nat.le_of_ble_eq_true rfl) rfl
  | inr u4 =>
    replace h := elim_r h
    cases h
    exact wp_callSx (As := [.inl x3, .inl 2]) dX11_years_2 (sh_X11_needWhat_ok (d := d) e2) okX11_needWhat nnX11_needWhat ssX11_needWhat ml_RX11_264 rfl (Nat.le_of_ble_eq_true rfl) rfl

theorem sh_X11_years_ok {w : Gw} {d : Nat} {x0 : Nat} {x1 : Int32} {x2 : Int32} {x3 : Int32} {M : Gm} {out : (Int32 × Gm) ⊕ (Nat × Gm)} (h : sh_X11_years x0 x1 x2 x3 M = some out) : Ev w mdX11_years (d + 7) [.inr x0, .inl x1, .inl x2, .inl x3] M (xoP out) (xmP out) := by
  obtain ⟨u, e0, h⟩ := bnd h
  exact ev_of okX11_years ⟨_, _, rfl, isO_of e0 (by decide), by decide⟩ (Nat.le_of_ble_eq_true rfl) (X11_years_F_ok h)

/-! HeatGovernorModel.empties([I[I)V -/
def X12_empties_B2 (x0 : Nat) (x1 : Nat) (q : Int32 × Gm) : Option ((Int32 × Gm) ⊕ Gm) :=
  if 305 ≤ q.1 then
    some (.inr q.2)
  else
    (stA q.2 0 x0 q.1 0).bind fun M1 =>
    some (.inl (q.1 + 1, M1))
def X12_empties_B21 (x0 : Nat) (x1 : Nat) (q : Int32 × Gm) : Option ((Int32 × Gm) ⊕ Gm) :=
  if 168 ≤ q.1 then
    some (.inr q.2)
  else
    (stA q.2 0 x1 q.1 0).bind fun M1 =>
    some (.inl (q.1 + 1, M1))
def X12_empties_B64 (x0 : Nat) (x2 : Int32) (q : Int32 × Gm) : Option ((Int32 × Gm) ⊕ Gm) :=
  if 4 ≤ q.1 then
    some (.inr q.2)
  else
    (stA q.2 0 x0 ((30 + (4 * x2)) + q.1) 200).bind fun M1 =>
    some (.inl (q.1 + 1, M1))
def X12_empties_B40 (x0 : Nat) (q : Int32 × Gm) : Option ((Int32 × Gm) ⊕ Gm) :=
  if 5 ≤ q.1 then
    some (.inr q.2)
  else
    (stA q.2 0 x0 (0 + q.1) 200).bind fun M1 =>
    (stA M1 0 x0 (20 + q.1) 200).bind fun M3 =>
    (lp (X12_empties_B64 x0 q.1) FU (0, M3)).bind fun r5 =>
    some (.inl (q.1 + 1, r5))
def X12_empties_B96 (x0 : Nat) (q : Int32 × Gm) : Option ((Int32 × Gm) ⊕ Gm) :=
  if 6 ≤ q.1 then
    some (.inr q.2)
  else
    (stA q.2 0 x0 (76 + q.1) ((-1))).bind fun M1 =>
    some (.inl (q.1 + 1, M1))
def X12_empties_F (x0 : Nat) (x1 : Nat) (M : Gm) : Option (Gm) :=
  (lp (X12_empties_B2 x0 x1) FU (0, M)).bind fun r1 =>
  (lp (X12_empties_B21 x0 x1) FU (0, r1)).bind fun r3 =>
  (lp (X12_empties_B40 x0) FU (0, r3)).bind fun r5 =>
  (lp (X12_empties_B96 x0) FU (0, r5)).bind fun r7 =>
  some r7
def sh_X12_empties (x0 : Nat) (x1 : Nat) (M : Gm) : Option (Gm) := X12_empties_F x0 x1 M
theorem X12_empties_B2_ok {w : Gw} {d : Nat} {x0 : Nat} {x1 : Nat} {q : Int32 × Gm} {o : Go} {M' : Gm} {out : (Int32 × Gm) ⊕ Gm} (h : X12_empties_B2 x0 x1 q = some out) (hc : ∀ t : Int32 × Gm, out = .inl t → Wp w mdX12_empties d 2 [some (.inr x0), some (.inr x1), some (.inl t.1), none] [] t.2 o M') (he0 : ∀ t : Gm, out = .inr t → Wp w mdX12_empties d 19 [some (.inr x0), some (.inr x1), none, none] [] t o M') : Wp w mdX12_empties d 2 [some (.inr x0), some (.inr x1), some (.inl q.1), none] [] q.2 o M' := by
  unfold X12_empties_B2 at h
  refine wp_iload_n dX12_empties_2 rfl ?_
  refine wp_sipush (v := 305) dX12_empties_3 (by decide) ?_
  refine wp_icmp_ge (tgt := 19) dX12_empties_6 (by decide) (fun hc_ => ?_) (fun hc_ => ?_)
  · replace h := ite_t hc_ h
    cases h
    exact wp_ls (lsS (lsS (lsN (lsN lsZ)))) (he0 q.2 rfl)
  · replace h := ite_f hc_ h
    refine wp_aload_n dX12_empties_9 rfl ?_
    refine wp_iload_n dX12_empties_10 rfl ?_
    refine wp_iconst (v := 0) dX12_empties_11 (by decide) ?_
    obtain ⟨M1, e2, h⟩ := bnd h
    refine wp_iastore dX12_empties_12 e2 ?_
    refine wp_iinc (v := q.1 + 1) dX12_empties_13 rfl rfl ?_
    refine wp_goto (tgt := 2) dX12_empties_16 (by decide) ?_
    cases h
    exact wp_ls (lsS (lsS (lsS (lsN lsZ)))) (hc (q.1 + 1, M1) rfl)

theorem X12_empties_B2_lp {w : Gw} {d : Nat} {x0 : Nat} {x1 : Nat} {o : Go} {M' : Gm} {r : Gm} : ∀ (n : Nat) (q : Int32 × Gm), lp (X12_empties_B2 x0 x1) n q = some r → (∀ t : Gm, r = t → Wp w mdX12_empties d 19 [some (.inr x0), some (.inr x1), none, none] [] t o M') → Wp w mdX12_empties d 2 [some (.inr x0), some (.inr x1), some (.inl q.1), none] [] q.2 o M' := by
  intro n
  induction n with
  | zero => intro q h; cases h
  | succ n ih =>
    intro q h he0
    cases hb : X12_empties_B2 x0 x1 q with
    | none => rw [lp_succ, hb] at h; cases h
    | some out =>
      rw [lp_succ, hb] at h
      exact X12_empties_B2_ok hb (fun t e => ih t (by rw [e] at h; exact h) he0) (fun t e => he0 t (by rw [e] at h; cases h; rfl))
theorem X12_empties_B21_ok {w : Gw} {d : Nat} {x0 : Nat} {x1 : Nat} {q : Int32 × Gm} {o : Go} {M' : Gm} {out : (Int32 × Gm) ⊕ Gm} (h : X12_empties_B21 x0 x1 q = some out) (hc : ∀ t : Int32 × Gm, out = .inl t → Wp w mdX12_empties d 21 [some (.inr x0), some (.inr x1), some (.inl t.1), none] [] t.2 o M') (he0 : ∀ t : Gm, out = .inr t → Wp w mdX12_empties d 38 [some (.inr x0), none, none, none] [] t o M') : Wp w mdX12_empties d 21 [some (.inr x0), some (.inr x1), some (.inl q.1), none] [] q.2 o M' := by
  unfold X12_empties_B21 at h
  refine wp_iload_n dX12_empties_21 rfl ?_
  refine wp_sipush (v := 168) dX12_empties_22 (by decide) ?_
  refine wp_icmp_ge (tgt := 38) dX12_empties_25 (by decide) (fun hc_ => ?_) (fun hc_ => ?_)
  · replace h := ite_t hc_ h
    cases h
    exact wp_ls (lsS (lsN (lsN (lsN lsZ)))) (he0 q.2 rfl)
  · replace h := ite_f hc_ h
    refine wp_aload_n dX12_empties_28 rfl ?_
    refine wp_iload_n dX12_empties_29 rfl ?_
    refine wp_iconst (v := 0) dX12_empties_30 (by decide) ?_
    obtain ⟨M1, e2, h⟩ := bnd h
    refine wp_iastore dX12_empties_31 e2 ?_
    refine wp_iinc (v := q.1 + 1) dX12_empties_32 rfl rfl ?_
    refine wp_goto (tgt := 21) dX12_empties_35 (by decide) ?_
    cases h
    exact wp_ls (lsS (lsS (lsS (lsN lsZ)))) (hc (q.1 + 1, M1) rfl)

theorem X12_empties_B21_lp {w : Gw} {d : Nat} {x0 : Nat} {x1 : Nat} {o : Go} {M' : Gm} {r : Gm} : ∀ (n : Nat) (q : Int32 × Gm), lp (X12_empties_B21 x0 x1) n q = some r → (∀ t : Gm, r = t → Wp w mdX12_empties d 38 [some (.inr x0), none, none, none] [] t o M') → Wp w mdX12_empties d 21 [some (.inr x0), some (.inr x1), some (.inl q.1), none] [] q.2 o M' := by
  intro n
  induction n with
  | zero => intro q h; cases h
  | succ n ih =>
    intro q h he0
    cases hb : X12_empties_B21 x0 x1 q with
    | none => rw [lp_succ, hb] at h; cases h
    | some out =>
      rw [lp_succ, hb] at h
      exact X12_empties_B21_ok hb (fun t e => ih t (by rw [e] at h; exact h) he0) (fun t e => he0 t (by rw [e] at h; cases h; rfl))
theorem X12_empties_B64_ok {w : Gw} {d : Nat} {x0 : Nat} {x2 : Int32} {q : Int32 × Gm} {o : Go} {M' : Gm} {out : (Int32 × Gm) ⊕ Gm} (h : X12_empties_B64 x0 x2 q = some out) (hc : ∀ t : Int32 × Gm, out = .inl t → Wp w mdX12_empties d 64 [some (.inr x0), none, some (.inl x2), some (.inl t.1)] [] t.2 o M') (he0 : ∀ t : Gm, out = .inr t → Wp w mdX12_empties d 88 [some (.inr x0), none, some (.inl x2), none] [] t o M') : Wp w mdX12_empties d 64 [some (.inr x0), none, some (.inl x2), some (.inl q.1)] [] q.2 o M' := by
  unfold X12_empties_B64 at h
  refine wp_iload_n dX12_empties_64 rfl ?_
  refine wp_iconst (v := 4) dX12_empties_65 (by decide) ?_
  refine wp_icmp_ge (tgt := 88) dX12_empties_66 (by decide) (fun hc_ => ?_) (fun hc_ => ?_)
  · replace h := ite_t hc_ h
    cases h
    exact wp_ls (lsS (lsN (lsS (lsN lsZ)))) (he0 q.2 rfl)
  · replace h := ite_f hc_ h
    refine wp_aload_n dX12_empties_69 rfl ?_
    refine wp_bipush (v := 30) dX12_empties_70 (by decide) ?_
    refine wp_iconst (v := 4) dX12_empties_72 (by decide) ?_
    refine wp_iload_n dX12_empties_73 rfl ?_
    refine wp_imul dX12_empties_74 ?_
    refine wp_iadd dX12_empties_75 ?_
    refine wp_iload_n dX12_empties_76 rfl ?_
    refine wp_iadd dX12_empties_77 ?_
    refine wp_sipush (v := 200) dX12_empties_78 (by decide) ?_
    obtain ⟨M1, e2, h⟩ := bnd h
    refine wp_iastore dX12_empties_81 e2 ?_
    refine wp_iinc (v := q.1 + 1) dX12_empties_82 rfl rfl ?_
    refine wp_goto (tgt := 64) dX12_empties_85 (by decide) ?_
    cases h
    exact wp_ls (lsS (lsN (lsS (lsS lsZ)))) (hc (q.1 + 1, M1) rfl)

theorem X12_empties_B64_lp {w : Gw} {d : Nat} {x0 : Nat} {x2 : Int32} {o : Go} {M' : Gm} {r : Gm} : ∀ (n : Nat) (q : Int32 × Gm), lp (X12_empties_B64 x0 x2) n q = some r → (∀ t : Gm, r = t → Wp w mdX12_empties d 88 [some (.inr x0), none, some (.inl x2), none] [] t o M') → Wp w mdX12_empties d 64 [some (.inr x0), none, some (.inl x2), some (.inl q.1)] [] q.2 o M' := by
  intro n
  induction n with
  | zero => intro q h; cases h
  | succ n ih =>
    intro q h he0
    cases hb : X12_empties_B64 x0 x2 q with
    | none => rw [lp_succ, hb] at h; cases h
    | some out =>
      rw [lp_succ, hb] at h
      exact X12_empties_B64_ok hb (fun t e => ih t (by rw [e] at h; exact h) he0) (fun t e => he0 t (by rw [e] at h; cases h; rfl))
theorem X12_empties_B40_ok {w : Gw} {d : Nat} {x0 : Nat} {q : Int32 × Gm} {o : Go} {M' : Gm} {out : (Int32 × Gm) ⊕ Gm} (h : X12_empties_B40 x0 q = some out) (hc : ∀ t : Int32 × Gm, out = .inl t → Wp w mdX12_empties d 40 [some (.inr x0), none, some (.inl t.1), none] [] t.2 o M') (he0 : ∀ t : Gm, out = .inr t → Wp w mdX12_empties d 94 [some (.inr x0), none, none, none] [] t o M') : Wp w mdX12_empties d 40 [some (.inr x0), none, some (.inl q.1), none] [] q.2 o M' := by
  unfold X12_empties_B40 at h
  refine wp_iload_n dX12_empties_40 rfl ?_
  refine wp_iconst (v := 5) dX12_empties_41 (by decide) ?_
  refine wp_icmp_ge (tgt := 94) dX12_empties_42 (by decide) (fun hc_ => ?_) (fun hc_ => ?_)
  · replace h := ite_t hc_ h
    cases h
    exact wp_ls (lsS (lsN (lsN (lsN lsZ)))) (he0 q.2 rfl)
  · replace h := ite_f hc_ h
    refine wp_aload_n dX12_empties_45 rfl ?_
    refine wp_iconst (v := 0) dX12_empties_46 (by decide) ?_
    refine wp_iload_n dX12_empties_47 rfl ?_
    refine wp_iadd dX12_empties_48 ?_
    refine wp_sipush (v := 200) dX12_empties_49 (by decide) ?_
    obtain ⟨M1, e2, h⟩ := bnd h
    refine wp_iastore dX12_empties_52 e2 ?_
    refine wp_aload_n dX12_empties_53 rfl ?_
    refine wp_bipush (v := 20) dX12_empties_54 (by decide) ?_
    refine wp_iload_n dX12_empties_56 rfl ?_
    refine wp_iadd dX12_empties_57 ?_
    refine wp_sipush (v := 200) dX12_empties_58 (by decide) ?_
    obtain ⟨M3, e4, h⟩ := bnd h
    refine wp_iastore dX12_empties_61 e4 ?_
    refine wp_iconst (v := 0) dX12_empties_62 (by decide) ?_
    refine wp_istore_n dX12_empties_63 (Nat.le_of_ble_eq_true rfl) ?_
    obtain ⟨r5, e6, h⟩ := bnd h
    refine wp_ls (lsS (lsN (lsS (lsS lsZ)))) (X12_empties_B64_lp FU _ e6 ?_)
    intro t_ ht_; cases ht_
    refine wp_iinc (v := q.1 + 1) dX12_empties_88 rfl rfl ?_
    refine wp_goto (tgt := 40) dX12_empties_91 (by decide) ?_
    cases h
    exact wp_ls (lsS (lsN (lsS (lsN lsZ)))) (hc (q.1 + 1, r5) rfl)

theorem X12_empties_B40_lp {w : Gw} {d : Nat} {x0 : Nat} {o : Go} {M' : Gm} {r : Gm} : ∀ (n : Nat) (q : Int32 × Gm), lp (X12_empties_B40 x0) n q = some r → (∀ t : Gm, r = t → Wp w mdX12_empties d 94 [some (.inr x0), none, none, none] [] t o M') → Wp w mdX12_empties d 40 [some (.inr x0), none, some (.inl q.1), none] [] q.2 o M' := by
  intro n
  induction n with
  | zero => intro q h; cases h
  | succ n ih =>
    intro q h he0
    cases hb : X12_empties_B40 x0 q with
    | none => rw [lp_succ, hb] at h; cases h
    | some out =>
      rw [lp_succ, hb] at h
      exact X12_empties_B40_ok hb (fun t e => ih t (by rw [e] at h; exact h) he0) (fun t e => he0 t (by rw [e] at h; cases h; rfl))
theorem X12_empties_B96_ok {w : Gw} {d : Nat} {x0 : Nat} {q : Int32 × Gm} {o : Go} {M' : Gm} {out : (Int32 × Gm) ⊕ Gm} (h : X12_empties_B96 x0 q = some out) (hc : ∀ t : Int32 × Gm, out = .inl t → Wp w mdX12_empties d 96 [some (.inr x0), none, some (.inl t.1), none] [] t.2 o M') (he0 : ∀ t : Gm, out = .inr t → Wp w mdX12_empties d 115 [none, none, none, none] [] t o M') : Wp w mdX12_empties d 96 [some (.inr x0), none, some (.inl q.1), none] [] q.2 o M' := by
  unfold X12_empties_B96 at h
  refine wp_iload_n dX12_empties_96 rfl ?_
  refine wp_bipush (v := 6) dX12_empties_97 (by decide) ?_
  refine wp_icmp_ge (tgt := 115) dX12_empties_99 (by decide) (fun hc_ => ?_) (fun hc_ => ?_)
  · replace h := ite_t hc_ h
    cases h
    exact wp_ls (lsN (lsN (lsN (lsN lsZ)))) (he0 q.2 rfl)
  · replace h := ite_f hc_ h
    refine wp_aload_n dX12_empties_102 rfl ?_
    refine wp_bipush (v := 76) dX12_empties_103 (by decide) ?_
    refine wp_iload_n dX12_empties_105 rfl ?_
    refine wp_iadd dX12_empties_106 ?_
    refine wp_iconst (v := (-1)) dX12_empties_107 (by decide) ?_
    obtain ⟨M1, e2, h⟩ := bnd h
    refine wp_iastore dX12_empties_108 e2 ?_
    refine wp_iinc (v := q.1 + 1) dX12_empties_109 rfl rfl ?_
    refine wp_goto (tgt := 96) dX12_empties_112 (by decide) ?_
    cases h
    exact wp_ls (lsS (lsN (lsS (lsN lsZ)))) (hc (q.1 + 1, M1) rfl)

theorem X12_empties_B96_lp {w : Gw} {d : Nat} {x0 : Nat} {o : Go} {M' : Gm} {r : Gm} : ∀ (n : Nat) (q : Int32 × Gm), lp (X12_empties_B96 x0) n q = some r → (∀ t : Gm, r = t → Wp w mdX12_empties d 115 [none, none, none, none] [] t o M') → Wp w mdX12_empties d 96 [some (.inr x0), none, some (.inl q.1), none] [] q.2 o M' := by
  intro n
  induction n with
  | zero => intro q h; cases h
  | succ n ih =>
    intro q h he0
    cases hb : X12_empties_B96 x0 q with
    | none => rw [lp_succ, hb] at h; cases h
    | some out =>
      rw [lp_succ, hb] at h
      exact X12_empties_B96_ok hb (fun t e => ih t (by rw [e] at h; exact h) he0) (fun t e => he0 t (by rw [e] at h; cases h; rfl))
theorem X12_empties_F_ok {w : Gw} {d : Nat} {x0 : Nat} {x1 : Nat} {M : Gm} {out : Gm} (h : X12_empties_F x0 x1 M = some out) : Wp w mdX12_empties d 0 [some (.inr x0), some (.inr x1), none, none] [] M (.inl none) out := by
  unfold X12_empties_F at h
  refine wp_iconst (v := 0) dX12_empties_0 (by decide) ?_
  refine wp_istore_n dX12_empties_1 (Nat.le_of_ble_eq_true rfl) ?_
  obtain ⟨r1, e2, h⟩ := bnd h
  refine wp_ls (lsS (lsS (lsS (lsN lsZ)))) (X12_empties_B2_lp FU _ e2 ?_)
  intro t_ ht_; cases ht_
  refine wp_iconst (v := 0) dX12_empties_19 (by decide) ?_
  refine wp_istore_n dX12_empties_20 (Nat.le_of_ble_eq_true rfl) ?_
  obtain ⟨r3, e4, h⟩ := bnd h
  refine wp_ls (lsS (lsS (lsS (lsN lsZ)))) (X12_empties_B21_lp FU _ e4 ?_)
  intro t_ ht_; cases ht_
  refine wp_iconst (v := 0) dX12_empties_38 (by decide) ?_
  refine wp_istore_n dX12_empties_39 (Nat.le_of_ble_eq_true rfl) ?_
  obtain ⟨r5, e6, h⟩ := bnd h
  refine wp_ls (lsS (lsN (lsS (lsN lsZ)))) (X12_empties_B40_lp FU _ e6 ?_)
  intro t_ ht_; cases ht_
  refine wp_iconst (v := 0) dX12_empties_94 (by decide) ?_
  refine wp_istore_n dX12_empties_95 (Nat.le_of_ble_eq_true rfl) ?_
  obtain ⟨r7, e8, h⟩ := bnd h
  refine wp_ls (lsS (lsN (lsS (lsN lsZ)))) (X12_empties_B96_lp FU _ e8 ?_)
  intro t_ ht_; cases ht_
  cases h
  exact wp_ret dX12_empties_115 rfl

theorem sh_X12_empties_ok {w : Gw} {d : Nat} {x0 : Nat} {x1 : Nat} {M : Gm} {out : Gm} (h : sh_X12_empties x0 x1 M = some out) : Ev w mdX12_empties d [.inr x0, .inr x1] M (.inl none) out := ev_of okX12_empties trivial (Nat.le_of_ble_eq_true rfl) (X12_empties_F_ok h)

/-! HeatGovernorModel.<init>()V -/
def X12_init_F (x0 : Nat) (M : Gm) : Option (Gm) :=
  (mkA M 10 6).bind fun M1 =>
  (stS M1 M.2.2.length 0 3).bind fun M3 =>
  (stS M3 M.2.2.length 1 7).bind fun M5 =>
  (stS M5 M.2.2.length 2 12).bind fun M7 =>
  (stS M7 M.2.2.length 3 16).bind fun M9 =>
  (stS M9 M.2.2.length 4 17).bind fun M11 =>
  (stS M11 M.2.2.length 5 18).bind fun M13 =>
  (pfR M13 x0 12 0 M.2.2.length).bind fun M15 =>
  (mkA M15 10 4).bind fun M17 =>
  (stS M17 M15.2.2.length 0 25).bind fun M19 =>
  (stS M19 M15.2.2.length 1 4).bind fun M21 =>
  (stS M21 M15.2.2.length 2 5).bind fun M23 =>
  (stS M23 M15.2.2.length 3 6).bind fun M25 =>
  (pfR M25 x0 12 1 M15.2.2.length).bind fun M27 =>
  (mkA M27 10 4).bind fun M29 =>
  (stS M29 M27.2.2.length 0 8).bind fun M31 =>
  (stS M31 M27.2.2.length 1 9).bind fun M33 =>
  (stS M33 M27.2.2.length 2 10).bind fun M35 =>
  (stS M35 M27.2.2.length 3 11).bind fun M37 =>
  (pfR M37 x0 12 2 M27.2.2.length).bind fun M39 =>
  (mkA M39 10 3).bind fun M41 =>
  (stS M41 M39.2.2.length 0 13).bind fun M43 =>
  (stS M43 M39.2.2.length 1 14).bind fun M45 =>
  (stS M45 M39.2.2.length 2 15).bind fun M47 =>
  (pfR M47 x0 12 3 M39.2.2.length).bind fun M49 =>
  (mkA M49 0 305).bind fun M51 =>
  (pfR M51 x0 12 5 M49.2.2.length).bind fun M53 =>
  (mkA M53 0 168).bind fun M55 =>
  (pfR M55 x0 12 6 M53.2.2.length).bind fun M57 =>
  (mkA M57 0 305).bind fun M59 =>
  (pfR M59 x0 12 7 M57.2.2.length).bind fun M61 =>
  (mkA M61 0 168).bind fun M63 =>
  (pfR M63 x0 12 8 M61.2.2.length).bind fun M65 =>
  (mkA M65 0 3).bind fun M67 =>
  (pfR M67 x0 12 9 M65.2.2.length).bind fun M69 =>
  (mkA M69 0 700).bind fun M71 =>
  (pfR M71 x0 12 10 M69.2.2.length).bind fun M73 =>
  (pfI M73 x0 12 20 ((-1))).bind fun M75 =>
  (mkA M75 0 5).bind fun M77 =>
  (pfR M77 x0 12 22 M75.2.2.length).bind fun M79 =>
  (mkA M79 2 6).bind fun M81 =>
  (pfR M81 x0 12 23 M79.2.2.length).bind fun M83 =>
  (mkA M83 0 305).bind fun M85 =>
  (pfR M85 x0 12 24 M83.2.2.length).bind fun M87 =>
  (mkA M87 0 12200).bind fun M89 =>
  (pfR M89 x0 12 27 M87.2.2.length).bind fun M91 =>
  (mkA M91 0 8).bind fun M93 =>
  (pfR M93 x0 12 29 M91.2.2.length).bind fun M95 =>
  (mkA M95 0 8).bind fun M97 =>
  (pfR M97 x0 12 30 M95.2.2.length).bind fun M99 =>
  (mkA M99 0 8).bind fun M101 =>
  (pfR M101 x0 12 31 M99.2.2.length).bind fun M103 =>
  (mkA M103 2 51).bind fun M105 =>
  (pfR M105 x0 12 32 M103.2.2.length).bind fun M107 =>
  (mkA M107 0 1071).bind fun M109 =>
  (pfR M109 x0 12 33 M107.2.2.length).bind fun M111 =>
  (mkA M111 0 305).bind fun M113 =>
  (pfR M113 x0 12 38 M111.2.2.length).bind fun M115 =>
  (mkA M115 0 12200).bind fun M117 =>
  (pfR M117 x0 12 39 M115.2.2.length).bind fun M119 =>
  (mkA M119 0 8).bind fun M121 =>
  (pfR M121 x0 12 40 M119.2.2.length).bind fun M123 =>
  (mkA M123 0 8).bind fun M125 =>
  (pfR M125 x0 12 41 M123.2.2.length).bind fun M127 =>
  (mkA M127 0 8).bind fun M129 =>
  (pfR M129 x0 12 42 M127.2.2.length).bind fun M131 =>
  (mkA M131 0 3).bind fun M133 =>
  (pfR M133 x0 12 43 M131.2.2.length).bind fun M135 =>
  (gfR M135 x0 12 5).bind fun v137 =>
  (gfR M135 x0 12 6).bind fun v139 =>
  (sh_X12_empties v137 v139 M135).bind fun q141 =>
  some q141
def sh_X12_init (x0 : Nat) (M : Gm) : Option (Gm) := (isO M x0 12).bind fun _ => X12_init_F x0 M
theorem X12_init_F_ok {w : Gw} {d : Nat} {x0 : Nat} {M : Gm} {out : Gm} (h0_ : M.2.2[x0]? = some (12, 0)) (h : X12_init_F x0 M = some out) : Wp w mdX12_init (d + 1) 0 [some (.inr x0)] [] M (.inl none) out := by
  unfold X12_init_F at h
  refine wp_aload_n dX12_init_0 rfl ?_
  refine wp_objInit dX12_init_1 h0_ (by decide) ml_RX12_1 oi_1 oi_2 (Nat.le_of_ble_eq_true rfl) ?_
  refine wp_aload_n dX12_init_4 rfl ?_
  refine wp_bipush (v := 6) dX12_init_5 (by decide) ?_
  obtain ⟨M1, e2, h⟩ := bnd h
  refine wp_anew (t := 10) dX12_init_7 e2 (by decide) rfl cl_RX12_7 ao_10 ?_
  refine wp_dup dX12_init_10 ?_
  refine wp_iconst (v := 0) dX12_init_11 (by decide) ?_
  refine wp_ldcS (tx := "zone") (sid := 3) dX12_init_12 (by decide +kernel) (by decide) ?_
  obtain ⟨M3, e4, h⟩ := bnd h
  refine wp_aastoreS dX12_init_14 e4 ?_
  refine wp_dup dX12_init_15 ?_
  refine wp_iconst (v := 1) dX12_init_16 (by decide) ?_
  refine wp_ldcS (tx := "trip") (sid := 7) dX12_init_17 (by decide +kernel) (by decide) ?_
  obtain ⟨M5, e6, h⟩ := bnd h
  refine wp_aastoreS dX12_init_19 e6 ?_
  refine wp_dup dX12_init_20 ?_
  refine wp_iconst (v := 2) dX12_init_21 (by decide) ?_
  refine wp_ldcS (tx := "device") (sid := 12) dX12_init_22 (by decide +kernel) (by decide) ?_
  obtain ⟨M7, e8, h⟩ := bnd h
  refine wp_aastoreS dX12_init_24 e8 ?_
  refine wp_dup dX12_init_25 ?_
  refine wp_iconst (v := 3) dX12_init_26 (by decide) ?_
  refine wp_ldcS (tx := "bind") (sid := 16) dX12_init_27 (by decide +kernel) (by decide) ?_
  obtain ⟨M9, e10, h⟩ := bnd h
  refine wp_aastoreS dX12_init_29 e10 ?_
  refine wp_dup dX12_init_30 ?_
  refine wp_iconst (v := 4) dX12_init_31 (by decide) ?_
  refine wp_ldcS (tx := "wall") (sid := 17) dX12_init_32 (by decide +kernel) (by decide) ?_
  obtain ⟨M11, e12, h⟩ := bnd h
  refine wp_aastoreS dX12_init_34 e12 ?_
  refine wp_dup dX12_init_35 ?_
  refine wp_iconst (v := 5) dX12_init_36 (by decide) ?_
  refine wp_ldcS (tx := "foreseen") (sid := 18) dX12_init_37 (by decide +kernel) (by decide) ?_
  obtain ⟨M13, e14, h⟩ := bnd h
  refine wp_aastoreS dX12_init_39 e14 ?_
  obtain ⟨M15, e16, h⟩ := bnd h
  refine wp_putR (c := 12) (k := 0) dX12_init_40 e16 (by decide) (by decide) rfl fl_RX12_21 (Or.inr ⟨rfl, rfl⟩) ?_
  refine wp_aload_n dX12_init_43 rfl ?_
  refine wp_iconst (v := 4) dX12_init_44 (by decide) ?_
  obtain ⟨M17, e18, h⟩ := bnd h
  refine wp_anew (t := 10) dX12_init_45 e18 (by decide) rfl cl_RX12_7 ao_10 ?_
  refine wp_dup dX12_init_48 ?_
  refine wp_iconst (v := 0) dX12_init_49 (by decide) ?_
  refine wp_ldcS (tx := "raw") (sid := 25) dX12_init_50 (by decide +kernel) (by decide) ?_
  obtain ⟨M19, e20, h⟩ := bnd h
  refine wp_aastoreS dX12_init_52 e20 ?_
  refine wp_dup dX12_init_53 ?_
  refine wp_iconst (v := 1) dX12_init_54 (by decide) ?_
  refine wp_ldcS (tx := "mean") (sid := 4) dX12_init_55 (by decide +kernel) (by decide) ?_
  obtain ⟨M21, e22, h⟩ := bnd h
  refine wp_aastoreS dX12_init_57 e22 ?_
  refine wp_dup dX12_init_58 ?_
  refine wp_iconst (v := 2) dX12_init_59 (by decide) ?_
  refine wp_ldcS (tx := "median") (sid := 5) dX12_init_60 (by decide +kernel) (by decide) ?_
  obtain ⟨M23, e24, h⟩ := bnd h
  refine wp_aastoreS dX12_init_62 e24 ?_
  refine wp_dup dX12_init_63 ?_
  refine wp_iconst (v := 3) dX12_init_64 (by decide) ?_
  refine wp_ldcS (tx := "slow") (sid := 6) dX12_init_65 (by decide +kernel) (by decide) ?_
  obtain ⟨M25, e26, h⟩ := bnd h
  refine wp_aastoreS dX12_init_67 e26 ?_
  obtain ⟨M27, e28, h⟩ := bnd h
  refine wp_putR (c := 12) (k := 1) dX12_init_68 e28 (by decide) (by decide) rfl fl_RX12_35 (Or.inr ⟨rfl, rfl⟩) ?_
  refine wp_aload_n dX12_init_71 rfl ?_
  refine wp_iconst (v := 4) dX12_init_72 (by decide) ?_
  obtain ⟨M29, e30, h⟩ := bnd h
  refine wp_anew (t := 10) dX12_init_73 e30 (by decide) rfl cl_RX12_7 ao_10 ?_
  refine wp_dup dX12_init_76 ?_
  refine wp_iconst (v := 0) dX12_init_77 (by decide) ?_
  refine wp_ldcS (tx := "step") (sid := 8) dX12_init_78 (by decide +kernel) (by decide) ?_
  obtain ⟨M31, e32, h⟩ := bnd h
  refine wp_aastoreS dX12_init_80 e32 ?_
  refine wp_dup dX12_init_81 ?_
  refine wp_iconst (v := 1) dX12_init_82 (by decide) ?_
  refine wp_ldcS (tx := "share") (sid := 9) dX12_init_83 (by decide +kernel) (by decide) ?_
  obtain ⟨M33, e34, h⟩ := bnd h
  refine wp_aastoreS dX12_init_85 e34 ?_
  refine wp_dup dX12_init_86 ?_
  refine wp_iconst (v := 2) dX12_init_87 (by decide) ?_
  refine wp_ldcS (tx := "hot") (sid := 10) dX12_init_88 (by decide +kernel) (by decide) ?_
  obtain ⟨M35, e36, h⟩ := bnd h
  refine wp_aastoreS dX12_init_90 e36 ?_
  refine wp_dup dX12_init_91 ?_
  refine wp_iconst (v := 3) dX12_init_92 (by decide) ?_
  refine wp_ldcS (tx := "critical") (sid := 11) dX12_init_93 (by decide +kernel) (by decide) ?_
  obtain ⟨M37, e38, h⟩ := bnd h
  refine wp_aastoreS dX12_init_95 e38 ?_
  obtain ⟨M39, e40, h⟩ := bnd h
  refine wp_putR (c := 12) (k := 2) dX12_init_96 e40 (by decide) (by decide) rfl fl_RX12_46 (Or.inr ⟨rfl, rfl⟩) ?_
  refine wp_aload_n dX12_init_99 rfl ?_
  refine wp_iconst (v := 3) dX12_init_100 (by decide) ?_
  obtain ⟨M41, e42, h⟩ := bnd h
  refine wp_anew (t := 10) dX12_init_101 e42 (by decide) rfl cl_RX12_7 ao_10 ?_
  refine wp_dup dX12_init_104 ?_
  refine wp_iconst (v := 0) dX12_init_105 (by decide) ?_
  refine wp_ldcS (tx := "fan") (sid := 13) dX12_init_106 (by decide +kernel) (by decide) ?_
  obtain ⟨M43, e44, h⟩ := bnd h
  refine wp_aastoreS dX12_init_108 e44 ?_
  refine wp_dup dX12_init_109 ?_
  refine wp_iconst (v := 1) dX12_init_110 (by decide) ?_
  refine wp_ldcS (tx := "valve") (sid := 14) dX12_init_111 (by decide +kernel) (by decide) ?_
  obtain ⟨M45, e46, h⟩ := bnd h
  refine wp_aastoreS dX12_init_113 e46 ?_
  refine wp_dup dX12_init_114 ?_
  refine wp_iconst (v := 2) dX12_init_115 (by decide) ?_
  refine wp_ldcS (tx := "pump") (sid := 15) dX12_init_116 (by decide +kernel) (by decide) ?_
  obtain ⟨M47, e48, h⟩ := bnd h
  refine wp_aastoreS dX12_init_118 e48 ?_
  obtain ⟨M49, e50, h⟩ := bnd h
  refine wp_putR (c := 12) (k := 3) dX12_init_119 e50 (by decide) (by decide) rfl fl_RX12_55 (Or.inr ⟨rfl, rfl⟩) ?_
  refine wp_aload_n dX12_init_122 rfl ?_
  refine wp_sipush (v := 305) dX12_init_123 (by decide) ?_
  obtain ⟨M51, e52, h⟩ := bnd h
  refine wp_newI dX12_init_126 e52 ac_int ?_
  obtain ⟨M53, e54, h⟩ := bnd h
  refine wp_putR (c := 12) (k := 5) dX12_init_128 e54 (by decide) (by decide) rfl fl_RX12_58 (Or.inr ⟨rfl, rfl⟩) ?_
  refine wp_aload_n dX12_init_131 rfl ?_
  refine wp_sipush (v := 168) dX12_init_132 (by decide) ?_
  obtain ⟨M55, e56, h⟩ := bnd h
  refine wp_newI dX12_init_135 e56 ac_int ?_
  obtain ⟨M57, e58, h⟩ := bnd h
  refine wp_putR (c := 12) (k := 6) dX12_init_137 e58 (by decide) (by decide) rfl fl_RX12_62 (Or.inr ⟨rfl, rfl⟩) ?_
  refine wp_aload_n dX12_init_140 rfl ?_
  refine wp_sipush (v := 305) dX12_init_141 (by decide) ?_
  obtain ⟨M59, e60, h⟩ := bnd h
  refine wp_newI dX12_init_144 e60 ac_int ?_
  obtain ⟨M61, e62, h⟩ := bnd h
  refine wp_putR (c := 12) (k := 7) dX12_init_146 e62 (by decide) (by decide) rfl fl_RX12_65 (Or.inr ⟨rfl, rfl⟩) ?_
  refine wp_aload_n dX12_init_149 rfl ?_
  refine wp_sipush (v := 168) dX12_init_150 (by decide) ?_
  obtain ⟨M63, e64, h⟩ := bnd h
  refine wp_newI dX12_init_153 e64 ac_int ?_
  obtain ⟨M65, e66, h⟩ := bnd h
  refine wp_putR (c := 12) (k := 8) dX12_init_155 e66 (by decide) (by decide) rfl fl_RX12_68 (Or.inr ⟨rfl, rfl⟩) ?_
  refine wp_aload_n dX12_init_158 rfl ?_
  refine wp_iconst (v := 3) dX12_init_159 (by decide) ?_
  obtain ⟨M67, e68, h⟩ := bnd h
  refine wp_newI dX12_init_160 e68 ac_int ?_
  obtain ⟨M69, e70, h⟩ := bnd h
  refine wp_putR (c := 12) (k := 9) dX12_init_162 e70 (by decide) (by decide) rfl fl_RX12_71 (Or.inr ⟨rfl, rfl⟩) ?_
  refine wp_aload_n dX12_init_165 rfl ?_
  refine wp_sipush (v := 700) dX12_init_166 (by decide) ?_
  obtain ⟨M71, e72, h⟩ := bnd h
  refine wp_newI dX12_init_169 e72 ac_int ?_
  obtain ⟨M73, e74, h⟩ := bnd h
  refine wp_putR (c := 12) (k := 10) dX12_init_171 e74 (by decide) (by decide) rfl fl_RX12_74 (Or.inr ⟨rfl, rfl⟩) ?_
  refine wp_aload_n dX12_init_174 rfl ?_
  refine wp_iconst (v := (-1)) dX12_init_175 (by decide) ?_
  obtain ⟨M75, e76, h⟩ := bnd h
  refine wp_putI (c := 12) (k := 20) dX12_init_176 e76 (by decide) (by decide) rfl fl_RX12_77 (Or.inl rfl) ?_
  refine wp_aload_n dX12_init_179 rfl ?_
  refine wp_iconst (v := 5) dX12_init_180 (by decide) ?_
  obtain ⟨M77, e78, h⟩ := bnd h
  refine wp_newI dX12_init_181 e78 ac_int ?_
  obtain ⟨M79, e80, h⟩ := bnd h
  refine wp_putR (c := 12) (k := 22) dX12_init_183 e80 (by decide) (by decide) rfl fl_RX12_81 (Or.inr ⟨rfl, rfl⟩) ?_
  refine wp_aload_n dX12_init_186 rfl ?_
  refine wp_bipush (v := 6) dX12_init_187 (by decide) ?_
  obtain ⟨M81, e82, h⟩ := bnd h
  refine wp_newZ dX12_init_189 e82 ac_boolean ?_
  obtain ⟨M83, e84, h⟩ := bnd h
  refine wp_putR (c := 12) (k := 23) dX12_init_191 e84 (by decide) (by decide) rfl fl_RX12_84 (Or.inr ⟨rfl, rfl⟩) ?_
  refine wp_aload_n dX12_init_194 rfl ?_
  refine wp_sipush (v := 305) dX12_init_195 (by decide) ?_
  obtain ⟨M85, e86, h⟩ := bnd h
  refine wp_newI dX12_init_198 e86 ac_int ?_
  obtain ⟨M87, e88, h⟩ := bnd h
  refine wp_putR (c := 12) (k := 24) dX12_init_200 e88 (by decide) (by decide) rfl fl_RX12_88 (Or.inr ⟨rfl, rfl⟩) ?_
  refine wp_aload_n dX12_init_203 rfl ?_
  refine wp_sipush (v := 12200) dX12_init_204 (by decide) ?_
  obtain ⟨M89, e90, h⟩ := bnd h
  refine wp_newI dX12_init_207 e90 ac_int ?_
  obtain ⟨M91, e92, h⟩ := bnd h
  refine wp_putR (c := 12) (k := 27) dX12_init_209 e92 (by decide) (by decide) rfl fl_RX12_91 (Or.inr ⟨rfl, rfl⟩) ?_
  refine wp_aload_n dX12_init_212 rfl ?_
  refine wp_bipush (v := 8) dX12_init_213 (by decide) ?_
  obtain ⟨M93, e94, h⟩ := bnd h
  refine wp_newI dX12_init_215 e94 ac_int ?_
  obtain ⟨M95, e96, h⟩ := bnd h
  refine wp_putR (c := 12) (k := 29) dX12_init_217 e96 (by decide) (by decide) rfl fl_RX12_94 (Or.inr ⟨rfl, rfl⟩) ?_
  refine wp_aload_n dX12_init_220 rfl ?_
  refine wp_bipush (v := 8) dX12_init_221 (by decide) ?_
  obtain ⟨M97, e98, h⟩ := bnd h
  refine wp_newI dX12_init_223 e98 ac_int ?_
  obtain ⟨M99, e100, h⟩ := bnd h
  refine wp_putR (c := 12) (k := 30) dX12_init_225 e100 (by decide) (by decide) rfl fl_RX12_97 (Or.inr ⟨rfl, rfl⟩) ?_
  refine wp_aload_n dX12_init_228 rfl ?_
  refine wp_bipush (v := 8) dX12_init_229 (by decide) ?_
  obtain ⟨M101, e102, h⟩ := bnd h
  refine wp_newI dX12_init_231 e102 ac_int ?_
  obtain ⟨M103, e104, h⟩ := bnd h
  refine wp_putR (c := 12) (k := 31) dX12_init_233 e104 (by decide) (by decide) rfl fl_RX12_100 (Or.inr ⟨rfl, rfl⟩) ?_
  refine wp_aload_n dX12_init_236 rfl ?_
  refine wp_bipush (v := 51) dX12_init_237 (by decide) ?_
  obtain ⟨M105, e106, h⟩ := bnd h
  refine wp_newZ dX12_init_239 e106 ac_boolean ?_
  obtain ⟨M107, e108, h⟩ := bnd h
  refine wp_putR (c := 12) (k := 32) dX12_init_241 e108 (by decide) (by decide) rfl fl_RX12_103 (Or.inr ⟨rfl, rfl⟩) ?_
  refine wp_aload_n dX12_init_244 rfl ?_
  refine wp_sipush (v := 1071) dX12_init_245 (by decide) ?_
  obtain ⟨M109, e110, h⟩ := bnd h
  refine wp_newI dX12_init_248 e110 ac_int ?_
  obtain ⟨M111, e112, h⟩ := bnd h
  refine wp_putR (c := 12) (k := 33) dX12_init_250 e112 (by decide) (by decide) rfl fl_RX12_106 (Or.inr ⟨rfl, rfl⟩) ?_
  refine wp_aload_n dX12_init_253 rfl ?_
  refine wp_sipush (v := 305) dX12_init_254 (by decide) ?_
  obtain ⟨M113, e114, h⟩ := bnd h
  refine wp_newI dX12_init_257 e114 ac_int ?_
  obtain ⟨M115, e116, h⟩ := bnd h
  refine wp_putR (c := 12) (k := 38) dX12_init_259 e116 (by decide) (by decide) rfl fl_RX12_109 (Or.inr ⟨rfl, rfl⟩) ?_
  refine wp_aload_n dX12_init_262 rfl ?_
  refine wp_sipush (v := 12200) dX12_init_263 (by decide) ?_
  obtain ⟨M117, e118, h⟩ := bnd h
  refine wp_newI dX12_init_266 e118 ac_int ?_
  obtain ⟨M119, e120, h⟩ := bnd h
  refine wp_putR (c := 12) (k := 39) dX12_init_268 e120 (by decide) (by decide) rfl fl_RX12_112 (Or.inr ⟨rfl, rfl⟩) ?_
  refine wp_aload_n dX12_init_271 rfl ?_
  refine wp_bipush (v := 8) dX12_init_272 (by decide) ?_
  obtain ⟨M121, e122, h⟩ := bnd h
  refine wp_newI dX12_init_274 e122 ac_int ?_
  obtain ⟨M123, e124, h⟩ := bnd h
  refine wp_putR (c := 12) (k := 40) dX12_init_276 e124 (by decide) (by decide) rfl fl_RX12_115 (Or.inr ⟨rfl, rfl⟩) ?_
  refine wp_aload_n dX12_init_279 rfl ?_
  refine wp_bipush (v := 8) dX12_init_280 (by decide) ?_
  obtain ⟨M125, e126, h⟩ := bnd h
  refine wp_newI dX12_init_282 e126 ac_int ?_
  obtain ⟨M127, e128, h⟩ := bnd h
  refine wp_putR (c := 12) (k := 41) dX12_init_284 e128 (by decide) (by decide) rfl fl_RX12_118 (Or.inr ⟨rfl, rfl⟩) ?_
  refine wp_aload_n dX12_init_287 rfl ?_
  refine wp_bipush (v := 8) dX12_init_288 (by decide) ?_
  obtain ⟨M129, e130, h⟩ := bnd h
  refine wp_newI dX12_init_290 e130 ac_int ?_
  obtain ⟨M131, e132, h⟩ := bnd h
  refine wp_putR (c := 12) (k := 42) dX12_init_292 e132 (by decide) (by decide) rfl fl_RX12_121 (Or.inr ⟨rfl, rfl⟩) ?_
  refine wp_aload_n dX12_init_295 rfl ?_
  refine wp_iconst (v := 3) dX12_init_296 (by decide) ?_
  obtain ⟨M133, e134, h⟩ := bnd h
  refine wp_newI dX12_init_297 e134 ac_int ?_
  obtain ⟨M135, e136, h⟩ := bnd h
  refine wp_putR (c := 12) (k := 43) dX12_init_299 e136 (by decide) (by decide) rfl fl_RX12_124 (Or.inr ⟨rfl, rfl⟩) ?_
  refine wp_aload_n dX12_init_302 rfl ?_
  obtain ⟨v137, e138, h⟩ := bnd h
  refine wp_getR (c := 12) (k := 5) dX12_init_303 e138 (by decide) (by decide) rfl fl_RX12_58 ?_
  refine wp_aload_n dX12_init_306 rfl ?_
  obtain ⟨v139, e140, h⟩ := bnd h
  refine wp_getR (c := 12) (k := 6) dX12_init_307 e140 (by decide) (by decide) rfl fl_RX12_62 ?_
  obtain ⟨q141, e142, h⟩ := bnd h
  refine wp_callS (As := [.inr v137, .inr v139]) dX12_init_310 (sh_X12_empties_ok (d := d) e142) okX12_empties nnX12_empties ssX12_empties ml_RX12_127 rfl (Nat.le_of_ble_eq_true rfl) ?_
  cases h
  exact wp_ret dX12_init_313 rfl

theorem sh_X12_init_ok {w : Gw} {d : Nat} {x0 : Nat} {M : Gm} {out : Gm} (h : sh_X12_init x0 M = some out) : Ev w mdX12_init (d + 1) [.inr x0] M (.inl none) out := by
  obtain ⟨u, e0, h⟩ := bnd h
  exact ev_of okX12_init ⟨_, _, rfl, isO_of e0 (by decide), by decide⟩ (Nat.le_of_ble_eq_true rfl) (X12_init_F_ok (isO_of e0 (by decide)) h)

/-! HeatGovernorModel.thrown()I -/
def X12_thrown_F (x0 : Nat) (M : Gm) : Option (Int32) :=
  (gfI M x0 12 4).bind fun v1 =>
  some v1
def sh_X12_thrown (x0 : Nat) (M : Gm) : Option (Int32) := (isO M x0 12).bind fun _ => X12_thrown_F x0 M
theorem X12_thrown_F_ok {w : Gw} {d : Nat} {x0 : Nat} {M : Gm} {out : Int32} (h : X12_thrown_F x0 M = some out) : Wp w mdX12_thrown d 0 [some (.inr x0)] [] M (.inl (some (.inl out))) M := by
  unfold X12_thrown_F at h
  refine wp_aload_n dX12_thrown_0 rfl ?_
  obtain ⟨v1, e2, h⟩ := bnd h
  refine wp_getI (c := 12) (k := 4) dX12_thrown_1 e2 (by decide) (by decide) rfl fl_RX12_131 ?_
  cases h
  exact wp_iret dX12_thrown_4 rfl

theorem sh_X12_thrown_ok {w : Gw} {d : Nat} {x0 : Nat} {M : Gm} {out : Int32} (h : sh_X12_thrown x0 M = some out) : Ev w mdX12_thrown d [.inr x0] M (.inl (some (.inl out))) M := by
  obtain ⟨u, e0, h⟩ := bnd h
  exact ev_of okX12_thrown ⟨_, _, rfl, isO_of e0 (by decide), by decide⟩ (Nat.le_of_ble_eq_true rfl) (X12_thrown_F_ok h)

/-! HeatGovernorModel.feed(IIIII)I -/
def X12_feed_J76 (x0 : Nat) (x1 : Int32) (x2 : Int32) (x3 : Int32) (x4 : Int32) (x5 : Int32) (x6 : Int32) (s0 : Int32) (M : Gm) : Option ((Int32 × Gm) ⊕ Gm) :=
  (gfR M x0 12 10).bind fun v1 =>
  (gfI M x0 12 11).bind fun v3 =>
  (rmI x6 4).bind fun v5 =>
  (stA M 0 v1 v3 ((s0 >>> ((24 - (8 * v5)) &&& 31)) &&& 255)).bind fun M7 =>
  (gfI M7 x0 12 11).bind fun v9 =>
  (pfI M7 x0 12 11 (v9 + 1)).bind fun M11 =>
  some (.inl (x6 + 1, M11))
def X12_feed_B23 (x0 : Nat) (x1 : Int32) (x2 : Int32) (x3 : Int32) (x4 : Int32) (x5 : Int32) (q : Int32 × Gm) : Option ((Int32 × Gm) ⊕ Gm) :=
  if 20 ≤ q.1 then
    some (.inr q.2)
  else
    if 4 ≤ q.1 then
      if 8 ≤ q.1 then
        if 12 ≤ q.1 then
          if 16 ≤ q.1 then
            X12_feed_J76 x0 x1 x2 x3 x4 x5 q.1 x5 q.2
          else
            X12_feed_J76 x0 x1 x2 x3 x4 x5 q.1 x4 q.2
        else
          X12_feed_J76 x0 x1 x2 x3 x4 x5 q.1 x3 q.2
      else
        X12_feed_J76 x0 x1 x2 x3 x4 x5 q.1 x2 q.2
    else
      X12_feed_J76 x0 x1 x2 x3 x4 x5 q.1 x1 q.2
def X12_feed_F (x0 : Nat) (x1 : Int32) (x2 : Int32) (x3 : Int32) (x4 : Int32) (x5 : Int32) (M : Gm) : Option (Int32 × Gm) :=
  (pfI M x0 12 4 0).bind fun M1 =>
  (gfI M1 x0 12 11).bind fun v3 =>
  if (v3 + 20) ≤ 700 then
    (lp (X12_feed_B23 x0 x1 x2 x3 x4 x5) FU (0, M1)).bind fun r5 =>
    (gfI r5 x0 12 11).bind fun v7 =>
    some (v7, r5)
  else
    some ((-1), M1)
def sh_X12_feed (x0 : Nat) (x1 : Int32) (x2 : Int32) (x3 : Int32) (x4 : Int32) (x5 : Int32) (M : Gm) : Option (Int32 × Gm) := (isO M x0 12).bind fun _ => X12_feed_F x0 x1 x2 x3 x4 x5 M
theorem X12_feed_J76_ok {w : Gw} {d : Nat} {x0 : Nat} {x1 : Int32} {x2 : Int32} {x3 : Int32} {x4 : Int32} {x5 : Int32} {x6 : Int32} {s0 : Int32} {M : Gm} {o : Go} {M' : Gm} {out : (Int32 × Gm) ⊕ Gm} (h : X12_feed_J76 x0 x1 x2 x3 x4 x5 x6 s0 M = some out) (hc : ∀ t : Int32 × Gm, out = .inl t → Wp w mdX12_feed d 23 [some (.inr x0), some (.inl x1), some (.inl x2), some (.inl x3), some (.inl x4), some (.inl x5), some (.inl t.1), none] [] t.2 o M') (he0 : ∀ t : Gm, out = .inr t → Wp w mdX12_feed d 120 [some (.inr x0), none, none, none, none, none, none, none] [] t o M') : Wp w mdX12_feed d 76 [some (.inr x0), some (.inl x1), some (.inl x2), some (.inl x3), some (.inl x4), some (.inl x5), some (.inl x6), none] [.inl s0] M o M' := by
  unfold X12_feed_J76 at h
  refine wp_istore dX12_feed_76 (Nat.le_of_ble_eq_true rfl) ?_
  refine wp_aload_n dX12_feed_78 rfl ?_
  obtain ⟨v1, e2, h⟩ := bnd h
  refine wp_getR (c := 12) (k := 10) dX12_feed_79 e2 (by decide) (by decide) rfl fl_RX12_74 ?_
  refine wp_aload_n dX12_feed_82 rfl ?_
  obtain ⟨v3, e4, h⟩ := bnd h
  refine wp_getI (c := 12) (k := 11) dX12_feed_83 e4 (by decide) (by decide) rfl fl_RX12_134 ?_
  refine wp_iload dX12_feed_86 rfl ?_
  refine wp_bipush (v := 24) dX12_feed_88 (by decide) ?_
  refine wp_bipush (v := 8) dX12_feed_90 (by decide) ?_
  refine wp_iload dX12_feed_92 rfl ?_
  refine wp_iconst (v := 4) dX12_feed_94 (by decide) ?_
  obtain ⟨v5, e6, h⟩ := bnd h
  refine wp_irem dX12_feed_95 e6 ?_
  refine wp_imul dX12_feed_96 ?_
  refine wp_isub dX12_feed_97 ?_
  refine wp_ishr dX12_feed_98 ?_
  refine wp_sipush (v := 255) dX12_feed_99 (by decide) ?_
  refine wp_iand dX12_feed_102 ?_
  obtain ⟨M7, e8, h⟩ := bnd h
  refine wp_iastore dX12_feed_103 e8 ?_
  refine wp_aload_n dX12_feed_104 rfl ?_
  refine wp_dup dX12_feed_105 ?_
  obtain ⟨v9, e10, h⟩ := bnd h
  refine wp_getI (c := 12) (k := 11) dX12_feed_106 e10 (by decide) (by decide) rfl fl_RX12_134 ?_
  refine wp_iconst (v := 1) dX12_feed_109 (by decide) ?_
  refine wp_iadd dX12_feed_110 ?_
  obtain ⟨M11, e12, h⟩ := bnd h
  refine wp_putI (c := 12) (k := 11) dX12_feed_111 e12 (by decide) (by decide) rfl fl_RX12_134 (Or.inl rfl) ?_
  refine wp_iinc (v := x6 + 1) dX12_feed_114 rfl rfl ?_
  refine wp_goto (tgt := 23) dX12_feed_117 (by decide) ?_
  cases h
  exact wp_ls (lsS (lsS (lsS (lsS (lsS (lsS (lsS (lsN lsZ)))))))) (hc (x6 + 1, M11) rfl)

theorem X12_feed_B23_ok {w : Gw} {d : Nat} {x0 : Nat} {x1 : Int32} {x2 : Int32} {x3 : Int32} {x4 : Int32} {x5 : Int32} {q : Int32 × Gm} {o : Go} {M' : Gm} {out : (Int32 × Gm) ⊕ Gm} (h : X12_feed_B23 x0 x1 x2 x3 x4 x5 q = some out) (hc : ∀ t : Int32 × Gm, out = .inl t → Wp w mdX12_feed d 23 [some (.inr x0), some (.inl x1), some (.inl x2), some (.inl x3), some (.inl x4), some (.inl x5), some (.inl t.1), none] [] t.2 o M') (he0 : ∀ t : Gm, out = .inr t → Wp w mdX12_feed d 120 [some (.inr x0), none, none, none, none, none, none, none] [] t o M') : Wp w mdX12_feed d 23 [some (.inr x0), some (.inl x1), some (.inl x2), some (.inl x3), some (.inl x4), some (.inl x5), some (.inl q.1), none] [] q.2 o M' := by
  unfold X12_feed_B23 at h
  refine wp_iload dX12_feed_23 rfl ?_
  refine wp_bipush (v := 20) dX12_feed_25 (by decide) ?_
  refine wp_icmp_ge (tgt := 120) dX12_feed_27 (by decide) (fun hc_ => ?_) (fun hc_ => ?_)
  · replace h := ite_t hc_ h
    cases h
    exact wp_ls (lsS (lsN (lsN (lsN (lsN (lsN (lsN (lsN lsZ)))))))) (he0 q.2 rfl)
  · replace h := ite_f hc_ h
    refine wp_iload dX12_feed_30 rfl ?_
    refine wp_iconst (v := 4) dX12_feed_32 (by decide) ?_
    refine wp_icmp_ge (tgt := 40) dX12_feed_33 (by decide) (fun hc_ => ?_) (fun hc_ => ?_)
    · replace h := ite_t hc_ h
      refine wp_iload dX12_feed_40 rfl ?_
      refine wp_bipush (v := 8) dX12_feed_42 (by decide) ?_
      refine wp_icmp_ge (tgt := 51) dX12_feed_44 (by decide) (fun hc_ => ?_) (fun hc_ => ?_)
      · replace h := ite_t hc_ h
        refine wp_iload dX12_feed_51 rfl ?_
        refine wp_bipush (v := 12) dX12_feed_53 (by decide) ?_
        refine wp_icmp_ge (tgt := 62) dX12_feed_55 (by decide) (fun hc_ => ?_) (fun hc_ => ?_)
        · replace h := ite_t hc_ h
          refine wp_iload dX12_feed_62 rfl ?_
          refine wp_bipush (v := 16) dX12_feed_64 (by decide) ?_
          refine wp_icmp_ge (tgt := 74) dX12_feed_66 (by decide) (fun hc_ => ?_) (fun hc_ => ?_)
          · replace h := ite_t hc_ h
            refine wp_iload dX12_feed_74 rfl ?_
            exact wp_ls (lsS (lsS (lsS (lsS (lsS (lsS (lsS (lsN lsZ)))))))) (X12_feed_J76_ok h hc he0)
          · replace h := ite_f hc_ h
            refine wp_iload dX12_feed_69 rfl ?_
            refine wp_goto (tgt := 76) dX12_feed_71 (by decide) ?_
            exact wp_ls (lsS (lsS (lsS (lsS (lsS (lsS (lsS (lsN lsZ)))))))) (X12_feed_J76_ok h hc he0)
        · replace h := ite_f hc_ h
          refine wp_iload_n dX12_feed_58 rfl ?_
          refine wp_goto (tgt := 76) dX12_feed_59 (by decide) ?_
          exact wp_ls (lsS (lsS (lsS (lsS (lsS (lsS (lsS (lsN lsZ)))))))) (X12_feed_J76_ok h hc he0)
      · replace h := ite_f hc_ h
        refine wp_iload_n dX12_feed_47 rfl ?_
        refine wp_goto (tgt := 76) dX12_feed_48 (by decide) ?_
        exact wp_ls (lsS (lsS (lsS (lsS (lsS (lsS (lsS (lsN lsZ)))))))) (X12_feed_J76_ok h hc he0)
    · replace h := ite_f hc_ h
      refine wp_iload_n dX12_feed_36 rfl ?_
      refine wp_goto (tgt := 76) dX12_feed_37 (by decide) ?_
      exact wp_ls (lsS (lsS (lsS (lsS (lsS (lsS (lsS (lsN lsZ)))))))) (X12_feed_J76_ok h hc he0)

theorem X12_feed_B23_lp {w : Gw} {d : Nat} {x0 : Nat} {x1 : Int32} {x2 : Int32} {x3 : Int32} {x4 : Int32} {x5 : Int32} {o : Go} {M' : Gm} {r : Gm} : ∀ (n : Nat) (q : Int32 × Gm), lp (X12_feed_B23 x0 x1 x2 x3 x4 x5) n q = some r → (∀ t : Gm, r = t → Wp w mdX12_feed d 120 [some (.inr x0), none, none, none, none, none, none, none] [] t o M') → Wp w mdX12_feed d 23 [some (.inr x0), some (.inl x1), some (.inl x2), some (.inl x3), some (.inl x4), some (.inl x5), some (.inl q.1), none] [] q.2 o M' := by
  intro n
  induction n with
  | zero => intro q h; cases h
  | succ n ih =>
    intro q h he0
    cases hb : X12_feed_B23 x0 x1 x2 x3 x4 x5 q with
    | none => rw [lp_succ, hb] at h; cases h
    | some out =>
      rw [lp_succ, hb] at h
      exact X12_feed_B23_ok hb (fun t e => ih t (by rw [e] at h; exact h) he0) (fun t e => he0 t (by rw [e] at h; cases h; rfl))
theorem X12_feed_F_ok {w : Gw} {d : Nat} {x0 : Nat} {x1 : Int32} {x2 : Int32} {x3 : Int32} {x4 : Int32} {x5 : Int32} {M : Gm} {out : Int32 × Gm} (h : X12_feed_F x0 x1 x2 x3 x4 x5 M = some out) : Wp w mdX12_feed d 0 [some (.inr x0), some (.inl x1), some (.inl x2), some (.inl x3), some (.inl x4), some (.inl x5), none, none] [] M (.inl (some (.inl out.1))) out.2 := by
  unfold X12_feed_F at h
  refine wp_aload_n dX12_feed_0 rfl ?_
  refine wp_iconst (v := 0) dX12_feed_1 (by decide) ?_
  obtain ⟨M1, e2, h⟩ := bnd h
  refine wp_putI (c := 12) (k := 4) dX12_feed_2 e2 (by decide) (by decide) rfl fl_RX12_131 (Or.inl rfl) ?_
  refine wp_aload_n dX12_feed_5 rfl ?_
  obtain ⟨v3, e4, h⟩ := bnd h
  refine wp_getI (c := 12) (k := 11) dX12_feed_6 e4 (by decide) (by decide) rfl fl_RX12_134 ?_
  refine wp_bipush (v := 20) dX12_feed_9 (by decide) ?_
  refine wp_iadd dX12_feed_11 ?_
  refine wp_sipush (v := 700) dX12_feed_12 (by decide) ?_
  refine wp_icmp_le (tgt := 20) dX12_feed_15 (by decide) (fun hc_ => ?_) (fun hc_ => ?_)
  · replace h := ite_t hc_ h
    refine wp_iconst (v := 0) dX12_feed_20 (by decide) ?_
    refine wp_istore dX12_feed_21 (Nat.le_of_ble_eq_true rfl) ?_
    obtain ⟨r5, e6, h⟩ := bnd h
    refine wp_ls (lsS (lsS (lsS (lsS (lsS (lsS (lsS (lsN lsZ)))))))) (X12_feed_B23_lp FU _ e6 ?_)
    intro t_ ht_; cases ht_
    refine wp_aload_n dX12_feed_120 rfl ?_
    obtain ⟨v7, e8, h⟩ := bnd h
    refine wp_getI (c := 12) (k := 11) dX12_feed_121 e8 (by decide) (by decide) rfl fl_RX12_134 ?_
    cases h
    exact wp_iret dX12_feed_124 rfl
  · replace h := ite_f hc_ h
    refine wp_iconst (v := (-1)) dX12_feed_18 (by decide) ?_
    cases h
    exact wp_iret dX12_feed_19 rfl

theorem sh_X12_feed_ok {w : Gw} {d : Nat} {x0 : Nat} {x1 : Int32} {x2 : Int32} {x3 : Int32} {x4 : Int32} {x5 : Int32} {M : Gm} {out : Int32 × Gm} (h : sh_X12_feed x0 x1 x2 x3 x4 x5 M = some out) : Ev w mdX12_feed d [.inr x0, .inl x1, .inl x2, .inl x3, .inl x4, .inl x5] M (.inl (some (.inl out.1))) out.2 := by
  obtain ⟨u, e0, h⟩ := bnd h
  exact ev_of okX12_feed ⟨_, _, rfl, isO_of e0 (by decide), by decide⟩ (Nat.le_of_ble_eq_true rfl) (X12_feed_F_ok h)

/-! HeatGovernorModel.copyTo([I[I)V -/
def X12_copyTo_B2 (x0 : Nat) (x1 : Nat) (q : Int32 × Gm) : Option ((Int32 × Gm) ⊕ Gm) :=
  (alen q.2 x0).bind fun v1 =>
  if v1 ≤ q.1 then
    some (.inr q.2)
  else
    (ldA q.2 0 x1 q.1).bind fun v3 =>
    (stA q.2 0 x0 q.1 v3).bind fun M5 =>
    some (.inl (q.1 + 1, M5))
def X12_copyTo_F (x0 : Nat) (x1 : Nat) (M : Gm) : Option (Gm) :=
  (lp (X12_copyTo_B2 x0 x1) FU (0, M)).bind fun r1 =>
  some r1
def sh_X12_copyTo (x0 : Nat) (x1 : Nat) (M : Gm) : Option (Gm) := X12_copyTo_F x0 x1 M
theorem X12_copyTo_B2_ok {w : Gw} {d : Nat} {x0 : Nat} {x1 : Nat} {q : Int32 × Gm} {o : Go} {M' : Gm} {out : (Int32 × Gm) ⊕ Gm} (h : X12_copyTo_B2 x0 x1 q = some out) (hc : ∀ t : Int32 × Gm, out = .inl t → Wp w mdX12_copyTo d 2 [some (.inr x0), some (.inr x1), some (.inl t.1)] [] t.2 o M') (he0 : ∀ t : Gm, out = .inr t → Wp w mdX12_copyTo d 20 [none, none, none] [] t o M') : Wp w mdX12_copyTo d 2 [some (.inr x0), some (.inr x1), some (.inl q.1)] [] q.2 o M' := by
  unfold X12_copyTo_B2 at h
  refine wp_iload_n dX12_copyTo_2 rfl ?_
  refine wp_aload_n dX12_copyTo_3 rfl ?_
  obtain ⟨v1, e2, h⟩ := bnd h
  refine wp_alen dX12_copyTo_4 e2 ?_
  refine wp_icmp_ge (tgt := 20) dX12_copyTo_5 (by decide) (fun hc_ => ?_) (fun hc_ => ?_)
  · replace h := ite_t hc_ h
    cases h
    exact wp_ls (lsN (lsN (lsN lsZ))) (he0 q.2 rfl)
  · replace h := ite_f hc_ h
    refine wp_aload_n dX12_copyTo_8 rfl ?_
    refine wp_iload_n dX12_copyTo_9 rfl ?_
    refine wp_aload_n dX12_copyTo_10 rfl ?_
    refine wp_iload_n dX12_copyTo_11 rfl ?_
    obtain ⟨v3, e4, h⟩ := bnd h
    refine wp_iaload dX12_copyTo_12 e4 ?_
    obtain ⟨M5, e6, h⟩ := bnd h
    refine wp_iastore dX12_copyTo_13 e6 ?_
    refine wp_iinc (v := q.1 + 1) dX12_copyTo_14 rfl rfl ?_
    refine wp_goto (tgt := 2) dX12_copyTo_17 (by decide) ?_
    cases h
    exact wp_ls (lsS (lsS (lsS lsZ))) (hc (q.1 + 1, M5) rfl)

theorem X12_copyTo_B2_lp {w : Gw} {d : Nat} {x0 : Nat} {x1 : Nat} {o : Go} {M' : Gm} {r : Gm} : ∀ (n : Nat) (q : Int32 × Gm), lp (X12_copyTo_B2 x0 x1) n q = some r → (∀ t : Gm, r = t → Wp w mdX12_copyTo d 20 [none, none, none] [] t o M') → Wp w mdX12_copyTo d 2 [some (.inr x0), some (.inr x1), some (.inl q.1)] [] q.2 o M' := by
  intro n
  induction n with
  | zero => intro q h; cases h
  | succ n ih =>
    intro q h he0
    cases hb : X12_copyTo_B2 x0 x1 q with
    | none => rw [lp_succ, hb] at h; cases h
    | some out =>
      rw [lp_succ, hb] at h
      exact X12_copyTo_B2_ok hb (fun t e => ih t (by rw [e] at h; exact h) he0) (fun t e => he0 t (by rw [e] at h; cases h; rfl))
theorem X12_copyTo_F_ok {w : Gw} {d : Nat} {x0 : Nat} {x1 : Nat} {M : Gm} {out : Gm} (h : X12_copyTo_F x0 x1 M = some out) : Wp w mdX12_copyTo d 0 [some (.inr x0), some (.inr x1), none] [] M (.inl none) out := by
  unfold X12_copyTo_F at h
  refine wp_iconst (v := 0) dX12_copyTo_0 (by decide) ?_
  refine wp_istore_n dX12_copyTo_1 (Nat.le_of_ble_eq_true rfl) ?_
  obtain ⟨r1, e2, h⟩ := bnd h
  refine wp_ls (lsS (lsS (lsS lsZ))) (X12_copyTo_B2_lp FU _ e2 ?_)
  intro t_ ht_; cases ht_
  cases h
  exact wp_ret dX12_copyTo_20 rfl

theorem sh_X12_copyTo_ok {w : Gw} {d : Nat} {x0 : Nat} {x1 : Nat} {M : Gm} {out : Gm} (h : sh_X12_copyTo x0 x1 M = some out) : Ev w mdX12_copyTo d [.inr x0, .inr x1] M (.inl none) out := ev_of okX12_copyTo trivial (Nat.le_of_ble_eq_true rfl) (X12_copyTo_F_ok h)

/-! HeatGovernorModel.fail(I)I -/
def X12_fail_F (x0 : Nat) (x1 : Int32) (M : Gm) : Option (Int32 × Gm) :=
  (pfI M x0 12 4 x1).bind fun M1 =>
  some (0, M1)
def sh_X12_fail (x0 : Nat) (x1 : Int32) (M : Gm) : Option (Int32 × Gm) := (isO M x0 12).bind fun _ => X12_fail_F x0 x1 M
theorem X12_fail_F_ok {w : Gw} {d : Nat} {x0 : Nat} {x1 : Int32} {M : Gm} {out : Int32 × Gm} (h : X12_fail_F x0 x1 M = some out) : Wp w mdX12_fail d 0 [some (.inr x0), some (.inl x1)] [] M (.inl (some (.inl out.1))) out.2 := by
  unfold X12_fail_F at h
  refine wp_aload_n dX12_fail_0 rfl ?_
  refine wp_iload_n dX12_fail_1 rfl ?_
  obtain ⟨M1, e2, h⟩ := bnd h
  refine wp_putI (c := 12) (k := 4) dX12_fail_2 e2 (by decide) (by decide) rfl fl_RX12_131 (Or.inl rfl) ?_
  refine wp_iconst (v := 0) dX12_fail_5 (by decide) ?_
  cases h
  exact wp_iret dX12_fail_6 rfl

theorem sh_X12_fail_ok {w : Gw} {d : Nat} {x0 : Nat} {x1 : Int32} {M : Gm} {out : Int32 × Gm} (h : sh_X12_fail x0 x1 M = some out) : Ev w mdX12_fail d [.inr x0, .inl x1] M (.inl (some (.inl out.1))) out.2 := by
  obtain ⟨u, e0, h⟩ := bnd h
  exact ev_of okX12_fail ⟨_, _, rfl, isO_of e0 (by decide), by decide⟩ (Nat.le_of_ble_eq_true rfl) (X12_fail_F_ok h)

/-! HeatGovernorModel.mostOf(I)I -/
def X12_mostOf_J40 (s0 : Int32) (M : Gm) : Option (Int32) :=
  some s0
def X12_mostOf_F (x0 : Int32) (M : Gm) : Option (Int32) :=
  if x0 = 0 then
    X12_mostOf_J40 5 M
  else
    if x0 = 1 then
      X12_mostOf_J40 10 M
    else
      if x0 = 2 then
        X12_mostOf_J40 6 M
      else
        if x0 = 4 then
          X12_mostOf_J40 8 M
        else
          X12_mostOf_J40 100000 M
def sh_X12_mostOf (x0 : Int32) (M : Gm) : Option (Int32) := X12_mostOf_F x0 M
theorem X12_mostOf_J40_ok {w : Gw} {d : Nat} {s0 : Int32} {M : Gm} {out : Int32} (h : X12_mostOf_J40 s0 M = some out) : Wp w mdX12_mostOf d 40 [none] [.inl s0] M (.inl (some (.inl out))) M := by
  unfold X12_mostOf_J40 at h
  cases h
  exact wp_iret dX12_mostOf_40 rfl

theorem X12_mostOf_F_ok {w : Gw} {d : Nat} {x0 : Int32} {M : Gm} {out : Int32} (h : X12_mostOf_F x0 M = some out) : Wp w mdX12_mostOf d 0 [some (.inl x0)] [] M (.inl (some (.inl out))) M := by
  unfold X12_mostOf_F at h
  refine wp_iload_n dX12_mostOf_0 rfl ?_
  refine wp_if_ne (tgt := 8) dX12_mostOf_1 (by decide) (fun hc_ => ?_) (fun hc_ => ?_)
  · replace h := ite_f hc_ h
    refine wp_iload_n dX12_mostOf_8 rfl ?_
    refine wp_iconst (v := 1) dX12_mostOf_9 (by decide) ?_
    refine wp_icmp_ne (tgt := 18) dX12_mostOf_10 (by decide) (fun hc_ => ?_) (fun hc_ => ?_)
    · replace h := ite_f hc_ h
      refine wp_iload_n dX12_mostOf_18 rfl ?_
      refine wp_iconst (v := 2) dX12_mostOf_19 (by decide) ?_
      refine wp_icmp_ne (tgt := 28) dX12_mostOf_20 (by decide) (fun hc_ => ?_) (fun hc_ => ?_)
      · replace h := ite_f hc_ h
        refine wp_iload_n dX12_mostOf_28 rfl ?_
        refine wp_iconst (v := 4) dX12_mostOf_29 (by decide) ?_
        refine wp_icmp_ne (tgt := 38) dX12_mostOf_30 (by decide) (fun hc_ => ?_) (fun hc_ => ?_)
        · replace h := ite_f hc_ h
          refine wp_ldc (v := 100000) dX12_mostOf_38 ct_RX12_163 ?_
          exact wp_ls (lsN lsZ) (X12_mostOf_J40_ok h)
        · replace h := ite_t hc_ h
          refine wp_bipush (v := 8) dX12_mostOf_33 (by decide) ?_
          refine wp_goto (tgt := 40) dX12_mostOf_35 (by decide) ?_
          exact wp_ls (lsN lsZ) (X12_mostOf_J40_ok h)
      · replace h := ite_t hc_ h
        refine wp_bipush (v := 6) dX12_mostOf_23 (by decide) ?_
        refine wp_goto (tgt := 40) dX12_mostOf_25 (by decide) ?_
        exact wp_ls (lsN lsZ) (X12_mostOf_J40_ok h)
    · replace h := ite_t hc_ h
      refine wp_bipush (v := 10) dX12_mostOf_13 (by decide) ?_
      refine wp_goto (tgt := 40) dX12_mostOf_15 (by decide) ?_
      exact wp_ls (lsN lsZ) (X12_mostOf_J40_ok h)
  · replace h := ite_t hc_ h
    refine wp_iconst (v := 5) dX12_mostOf_4 (by decide) ?_
    refine wp_goto (tgt := 40) dX12_mostOf_5 (by decide) ?_
    exact wp_ls (lsN lsZ) (X12_mostOf_J40_ok h)

theorem sh_X12_mostOf_ok {w : Gw} {d : Nat} {x0 : Int32} {M : Gm} {out : Int32} (h : sh_X12_mostOf x0 M = some out) : Ev w mdX12_mostOf d [.inl x0] M (.inl (some (.inl out))) M := ev_of okX12_mostOf trivial (Nat.le_of_ble_eq_true rfl) (X12_mostOf_F_ok h)

/-! HeatGovernorModel.byteAt(I)I -/
def X12_byteAt_J18 (s0 : Int32) (M : Gm) : Option (Int32) :=
  some s0
def X12_byteAt_F (x0 : Nat) (x1 : Int32) (M : Gm) : Option (Int32) :=
  (gfI M x0 12 13).bind fun v1 =>
  if v1 ≤ x1 then
    X12_byteAt_J18 ((-1)) M
  else
    (gfR M x0 12 10).bind fun v3 =>
    (ldA M 0 v3 x1).bind fun v5 =>
    X12_byteAt_J18 v5 M
def sh_X12_byteAt (x0 : Nat) (x1 : Int32) (M : Gm) : Option (Int32) := (isO M x0 12).bind fun _ => X12_byteAt_F x0 x1 M
theorem X12_byteAt_J18_ok {w : Gw} {d : Nat} {s0 : Int32} {M : Gm} {out : Int32} (h : X12_byteAt_J18 s0 M = some out) : Wp w mdX12_byteAt d 18 [none, none] [.inl s0] M (.inl (some (.inl out))) M := by
  unfold X12_byteAt_J18 at h
  cases h
  exact wp_iret dX12_byteAt_18 rfl

theorem X12_byteAt_F_ok {w : Gw} {d : Nat} {x0 : Nat} {x1 : Int32} {M : Gm} {out : Int32} (h : X12_byteAt_F x0 x1 M = some out) : Wp w mdX12_byteAt d 0 [some (.inr x0), some (.inl x1)] [] M (.inl (some (.inl out))) M := by
  unfold X12_byteAt_F at h
  refine wp_iload_n dX12_byteAt_0 rfl ?_
  refine wp_aload_n dX12_byteAt_1 rfl ?_
  obtain ⟨v1, e2, h⟩ := bnd h
  refine wp_getI (c := 12) (k := 13) dX12_byteAt_2 e2 (by decide) (by decide) rfl fl_RX12_137 ?_
  refine wp_icmp_ge (tgt := 17) dX12_byteAt_5 (by decide) (fun hc_ => ?_) (fun hc_ => ?_)
  · replace h := ite_t hc_ h
    refine wp_iconst (v := (-1)) dX12_byteAt_17 (by decide) ?_
    exact wp_ls (lsN (lsN lsZ)) (X12_byteAt_J18_ok h)
  · replace h := ite_f hc_ h
    refine wp_aload_n dX12_byteAt_8 rfl ?_
    obtain ⟨v3, e4, h⟩ := bnd h
    refine wp_getR (c := 12) (k := 10) dX12_byteAt_9 e4 (by decide) (by decide) rfl fl_RX12_74 ?_
    refine wp_iload_n dX12_byteAt_12 rfl ?_
    obtain ⟨v5, e6, h⟩ := bnd h
    refine wp_iaload dX12_byteAt_13 e6 ?_
    refine wp_goto (tgt := 18) dX12_byteAt_14 (by decide) ?_
    exact wp_ls (lsN (lsN lsZ)) (X12_byteAt_J18_ok h)

theorem sh_X12_byteAt_ok {w : Gw} {d : Nat} {x0 : Nat} {x1 : Int32} {M : Gm} {out : Int32} (h : sh_X12_byteAt x0 x1 M = some out) : Ev w mdX12_byteAt d [.inr x0, .inl x1] M (.inl (some (.inl out))) M := by
  obtain ⟨u, e0, h⟩ := bnd h
  exact ev_of okX12_byteAt ⟨_, _, rfl, isO_of e0 (by decide), by decide⟩ (Nat.le_of_ble_eq_true rfl) (X12_byteAt_F_ok h)

/-! HeatGovernorModel.isDigit(I)Z -/
def X12_isDigit_J17 (s0 : Int32) (M : Gm) : Option (Int32) :=
  (zck s0).bind fun z1 =>
  some z1
def X12_isDigit_J16 (M : Gm) : Option (Int32) :=
  X12_isDigit_J17 0 M
def X12_isDigit_F (x0 : Int32) (M : Gm) : Option (Int32) :=
  if x0 < 48 then
    X12_isDigit_J16 M
  else
    if 57 < x0 then
      X12_isDigit_J16 M
    else
      X12_isDigit_J17 1 M
def sh_X12_isDigit (x0 : Int32) (M : Gm) : Option (Int32) := X12_isDigit_F x0 M
theorem X12_isDigit_J17_ok {w : Gw} {d : Nat} {s0 : Int32} {M : Gm} {out : Int32} (h : X12_isDigit_J17 s0 M = some out) : Wp w mdX12_isDigit d 17 [none] [.inl s0] M (.inl (some (.inl out))) M := by
  unfold X12_isDigit_J17 at h
  obtain ⟨z1, e2, h⟩ := bnd h
  obtain ⟨hz_, rfl⟩ := zck_of e2
  cases h
  exact wp_zret dX12_isDigit_17 rfl hz_

theorem X12_isDigit_J16_ok {w : Gw} {d : Nat} {M : Gm} {out : Int32} (h : X12_isDigit_J16 M = some out) : Wp w mdX12_isDigit d 16 [none] [] M (.inl (some (.inl out))) M := by
  unfold X12_isDigit_J16 at h
  refine wp_iconst (v := 0) dX12_isDigit_16 (by decide) ?_
  exact wp_ls (lsN lsZ) (X12_isDigit_J17_ok h)

theorem X12_isDigit_F_ok {w : Gw} {d : Nat} {x0 : Int32} {M : Gm} {out : Int32} (h : X12_isDigit_F x0 M = some out) : Wp w mdX12_isDigit d 0 [some (.inl x0)] [] M (.inl (some (.inl out))) M := by
  unfold X12_isDigit_F at h
  refine wp_iload_n dX12_isDigit_0 rfl ?_
  refine wp_bipush (v := 48) dX12_isDigit_1 (by decide) ?_
  refine wp_icmp_lt (tgt := 16) dX12_isDigit_3 (by decide) (fun hc_ => ?_) (fun hc_ => ?_)
  · replace h := ite_t hc_ h
    exact wp_ls (lsN lsZ) (X12_isDigit_J16_ok h)
  · replace h := ite_f hc_ h
    refine wp_iload_n dX12_isDigit_6 rfl ?_
    refine wp_bipush (v := 57) dX12_isDigit_7 (by decide) ?_
    refine wp_icmp_gt (tgt := 16) dX12_isDigit_9 (by decide) (fun hc_ => ?_) (fun hc_ => ?_)
    · replace h := ite_t hc_ h
      exact wp_ls (lsN lsZ) (X12_isDigit_J16_ok h)
    · replace h := ite_f hc_ h
      refine wp_iconst (v := 1) dX12_isDigit_12 (by decide) ?_
      refine wp_goto (tgt := 17) dX12_isDigit_13 (by decide) ?_
      exact wp_ls (lsN lsZ) (X12_isDigit_J17_ok h)

theorem sh_X12_isDigit_ok {w : Gw} {d : Nat} {x0 : Int32} {M : Gm} {out : Int32} (h : sh_X12_isDigit x0 M = some out) : Ev w mdX12_isDigit d [.inl x0] M (.inl (some (.inl out))) M := ev_of okX12_isDigit trivial (Nat.le_of_ble_eq_true rfl) (X12_isDigit_F_ok h)

/-! HeatGovernorModel.isLetter(I)Z -/
def X12_isLetter_J17 (s0 : Int32) (M : Gm) : Option (Int32) :=
  (zck s0).bind fun z1 =>
  some z1
def X12_isLetter_J16 (M : Gm) : Option (Int32) :=
  X12_isLetter_J17 0 M
def X12_isLetter_F (x0 : Int32) (M : Gm) : Option (Int32) :=
  if x0 < 97 then
    X12_isLetter_J16 M
  else
    if 122 < x0 then
      X12_isLetter_J16 M
    else
      X12_isLetter_J17 1 M
def sh_X12_isLetter (x0 : Int32) (M : Gm) : Option (Int32) := X12_isLetter_F x0 M
theorem X12_isLetter_J17_ok {w : Gw} {d : Nat} {s0 : Int32} {M : Gm} {out : Int32} (h : X12_isLetter_J17 s0 M = some out) : Wp w mdX12_isLetter d 17 [none] [.inl s0] M (.inl (some (.inl out))) M := by
  unfold X12_isLetter_J17 at h
  obtain ⟨z1, e2, h⟩ := bnd h
  obtain ⟨hz_, rfl⟩ := zck_of e2
  cases h
  exact wp_zret dX12_isLetter_17 rfl hz_

theorem X12_isLetter_J16_ok {w : Gw} {d : Nat} {M : Gm} {out : Int32} (h : X12_isLetter_J16 M = some out) : Wp w mdX12_isLetter d 16 [none] [] M (.inl (some (.inl out))) M := by
  unfold X12_isLetter_J16 at h
  refine wp_iconst (v := 0) dX12_isLetter_16 (by decide) ?_
  exact wp_ls (lsN lsZ) (X12_isLetter_J17_ok h)

theorem X12_isLetter_F_ok {w : Gw} {d : Nat} {x0 : Int32} {M : Gm} {out : Int32} (h : X12_isLetter_F x0 M = some out) : Wp w mdX12_isLetter d 0 [some (.inl x0)] [] M (.inl (some (.inl out))) M := by
  unfold X12_isLetter_F at h
  refine wp_iload_n dX12_isLetter_0 rfl ?_
  refine wp_bipush (v := 97) dX12_isLetter_1 (by decide) ?_
  refine wp_icmp_lt (tgt := 16) dX12_isLetter_3 (by decide) (fun hc_ => ?_) (fun hc_ => ?_)
  · replace h := ite_t hc_ h
    exact wp_ls (lsN lsZ) (X12_isLetter_J16_ok h)
  · replace h := ite_f hc_ h
    refine wp_iload_n dX12_isLetter_6 rfl ?_
    refine wp_bipush (v := 122) dX12_isLetter_7 (by decide) ?_
    refine wp_icmp_gt (tgt := 16) dX12_isLetter_9 (by decide) (fun hc_ => ?_) (fun hc_ => ?_)
    · replace h := ite_t hc_ h
      exact wp_ls (lsN lsZ) (X12_isLetter_J16_ok h)
    · replace h := ite_f hc_ h
      refine wp_iconst (v := 1) dX12_isLetter_12 (by decide) ?_
      refine wp_goto (tgt := 17) dX12_isLetter_13 (by decide) ?_
      exact wp_ls (lsN lsZ) (X12_isLetter_J17_ok h)

theorem sh_X12_isLetter_ok {w : Gw} {d : Nat} {x0 : Int32} {M : Gm} {out : Int32} (h : sh_X12_isLetter x0 M = some out) : Ev w mdX12_isLetter d [.inl x0] M (.inl (some (.inl out))) M := ev_of okX12_isLetter trivial (Nat.le_of_ble_eq_true rfl) (X12_isLetter_F_ok h)

/-! HeatGovernorModel.stepOn()V -/
def X12_stepOn_J26 (x0 : Nat) (M : Gm) : Option (Gm ⊕ Gm) :=
  (gfI M x0 12 12).bind fun v1 =>
  (pfI M x0 12 12 (v1 + 1)).bind fun M3 =>
  some (.inl M3)
def X12_stepOn_B0 (x0 : Nat) (q : Gm) : Option (Gm ⊕ Gm) :=
  (gfI q x0 12 12).bind fun v1 =>
  (sh_X12_byteAt x0 v1 q).bind fun q3 =>
  if q3 = 32 then
    X12_stepOn_J26 x0 q
  else
    (gfI q x0 12 12).bind fun v5 =>
    (sh_X12_byteAt x0 v5 q).bind fun q7 =>
    if q7 = 10 then
      X12_stepOn_J26 x0 q
    else
      some (.inr q)
def X12_stepOn_J211 (x0 : Nat) (M : Gm) : Option (Gm) :=
  (gfI M x0 12 12).bind fun v1 =>
  (pfI M x0 12 17 v1).bind fun M3 =>
  some M3
def X12_stepOn_J208 (x0 : Nat) (s0 : Nat) (s1 : Int32) (M : Gm) : Option (Gm) :=
  (pfI M s0 12 14 s1).bind fun M1 =>
  X12_stepOn_J211 x0 M1
def X12_stepOn_B123 (x0 : Nat) (q : Gm) : Option (Gm ⊕ Gm) :=
  (gfI q x0 12 12).bind fun v1 =>
  (sh_X12_byteAt x0 v1 q).bind fun q3 =>
  (sh_X12_isDigit q3 q).bind fun q5 =>
  if q5 = 0 then
    some (.inr q)
  else
    (gfI q x0 12 15).bind fun v7 =>
    (gfI q x0 12 12).bind fun v9 =>
    (sh_X12_byteAt x0 v9 q).bind fun q11 =>
    (sh_J9_min_7cf53 100000 (((10 * v7) + q11) - 48) q).bind fun q13 =>
    (pfI q x0 12 15 q13).bind fun M15 =>
    (gfI M15 x0 12 12).bind fun v17 =>
    (pfI M15 x0 12 12 (v17 + 1)).bind fun M19 =>
    some (.inl M19)
def X12_stepOn_B76 (x0 : Nat) (q : Gm) : Option (Gm ⊕ Gm) :=
  (gfI q x0 12 12).bind fun v1 =>
  (sh_X12_byteAt x0 v1 q).bind fun q3 =>
  (sh_X12_isLetter q3 q).bind fun q5 =>
  if q5 = 0 then
    some (.inr q)
  else
    (gfI q x0 12 12).bind fun v7 =>
    (pfI q x0 12 12 (v7 + 1)).bind fun M9 =>
    some (.inl M9)
def X12_stepOn_F (x0 : Nat) (M : Gm) : Option (Gm) :=
  (lp (X12_stepOn_B0 x0) FU M).bind fun r1 =>
  (gfI r1 x0 12 12).bind fun v3 =>
  (pfI r1 x0 12 16 v3).bind fun M5 =>
  (gfI M5 x0 12 12).bind fun v7 =>
  (sh_X12_byteAt x0 v7 M5).bind fun q9 =>
  if q9 = ((-1)) then
    (pfI M5 x0 12 14 0).bind fun M29 =>
    X12_stepOn_J211 x0 M29
  else
    (sh_X12_isLetter q9 M5).bind fun q11 =>
    if q11 = 0 then
      (sh_X12_isDigit q9 M5).bind fun q13 =>
      if q13 = 0 then
        (gfI M5 x0 12 12).bind fun v15 =>
        (pfI M5 x0 12 12 (v15 + 1)).bind fun M17 =>
        if q9 = 59 then
          X12_stepOn_J208 x0 x0 3 M17
        else
          X12_stepOn_J208 x0 x0 4 M17
      else
        (pfI M5 x0 12 15 0).bind fun M19 =>
        (lp (X12_stepOn_B123 x0) FU M19).bind fun r21 =>
        (pfI r21 x0 12 14 2).bind fun M23 =>
        X12_stepOn_J211 x0 M23
    else
      (lp (X12_stepOn_B76 x0) FU M5).bind fun r25 =>
      (pfI r25 x0 12 14 1).bind fun M27 =>
      X12_stepOn_J211 x0 M27
def sh_X12_stepOn (x0 : Nat) (M : Gm) : Option (Gm) := (isO M x0 12).bind fun _ => X12_stepOn_F x0 M
theorem X12_stepOn_J26_ok {w : Gw} {d : Nat} {x0 : Nat} {M : Gm} {o : Go} {M' : Gm} {out : Gm ⊕ Gm} (h : X12_stepOn_J26 x0 M = some out) (hc : ∀ t : Gm, out = .inl t → Wp w mdX12_stepOn (d + 1) 0 [some (.inr x0), none] [] t o M') (he0 : ∀ t : Gm, out = .inr t → Wp w mdX12_stepOn (d + 1) 39 [some (.inr x0), none] [] t o M') : Wp w mdX12_stepOn (d + 1) 26 [some (.inr x0), none] [] M o M' := by
  unfold X12_stepOn_J26 at h
  refine wp_aload_n dX12_stepOn_26 rfl ?_
  refine wp_dup dX12_stepOn_27 ?_
  obtain ⟨v1, e2, h⟩ := bnd h
  refine wp_getI (c := 12) (k := 12) dX12_stepOn_28 e2 (by decide) (by decide) rfl fl_RX12_140 ?_
  refine wp_iconst (v := 1) dX12_stepOn_31 (by decide) ?_
  refine wp_iadd dX12_stepOn_32 ?_
  obtain ⟨M3, e4, h⟩ := bnd h
  refine wp_putI (c := 12) (k := 12) dX12_stepOn_33 e4 (by decide) (by decide) rfl fl_RX12_140 (Or.inl rfl) ?_
  refine wp_goto (tgt := 0) dX12_stepOn_36 (by decide) ?_
  cases h
  exact wp_ls (lsS (lsN lsZ)) (hc M3 rfl)

theorem X12_stepOn_B0_ok {w : Gw} {d : Nat} {x0 : Nat} {q : Gm} {o : Go} {M' : Gm} {out : Gm ⊕ Gm} (h : X12_stepOn_B0 x0 q = some out) (hc : ∀ t : Gm, out = .inl t → Wp w mdX12_stepOn (d + 1) 0 [some (.inr x0), none] [] t o M') (he0 : ∀ t : Gm, out = .inr t → Wp w mdX12_stepOn (d + 1) 39 [some (.inr x0), none] [] t o M') : Wp w mdX12_stepOn (d + 1) 0 [some (.inr x0), none] [] q o M' := by
  unfold X12_stepOn_B0 at h
  refine wp_aload_n dX12_stepOn_0 rfl ?_
  refine wp_aload_n dX12_stepOn_1 rfl ?_
  obtain ⟨v1, e2, h⟩ := bnd h
  refine wp_getI (c := 12) (k := 12) dX12_stepOn_2 e2 (by decide) (by decide) rfl fl_RX12_140 ?_
  obtain ⟨q3, e4, h⟩ := bnd h
  refine wp_callV (As := [.inl v1]) dX12_stepOn_5 (sh_X12_byteAt_ok (d := d) e4) okX12_byteAt nnX12_byteAt vvX12_byteAt ml_RX12_143 rfl (Nat.le_of_ble_eq_true rfl) ?_
  refine wp_bipush (v := 32) dX12_stepOn_8 (by decide) ?_
  refine wp_icmp_eq (tgt := 26) dX12_stepOn_10 (by decide) (fun hc_ => ?_) (fun hc_ => ?_)
  · replace h := ite_t hc_ h
    exact wp_ls (lsS (lsN lsZ)) (X12_stepOn_J26_ok h hc he0)
  · replace h := ite_f hc_ h
    refine wp_aload_n dX12_stepOn_13 rfl ?_
    refine wp_aload_n dX12_stepOn_14 rfl ?_
    obtain ⟨v5, e6, h⟩ := bnd h
    refine wp_getI (c := 12) (k := 12) dX12_stepOn_15 e6 (by decide) (by decide) rfl fl_RX12_140 ?_
    obtain ⟨q7, e8, h⟩ := bnd h
    refine wp_callV (As := [.inl v5]) dX12_stepOn_18 (sh_X12_byteAt_ok (d := d) e8) okX12_byteAt nnX12_byteAt vvX12_byteAt ml_RX12_143 rfl (Nat.le_of_ble_eq_true rfl) ?_
    refine wp_bipush (v := 10) dX12_stepOn_21 (by decide) ?_
    refine wp_icmp_ne (tgt := 39) dX12_stepOn_23 (by decide) (fun hc_ => ?_) (fun hc_ => ?_)
    · replace h := ite_f hc_ h
      cases h
      exact wp_ls (lsS (lsN lsZ)) (he0 q rfl)
    · replace h := ite_t hc_ h
      exact wp_ls (lsS (lsN lsZ)) (X12_stepOn_J26_ok h hc he0)

theorem X12_stepOn_B0_lp {w : Gw} {d : Nat} {x0 : Nat} {o : Go} {M' : Gm} {r : Gm} : ∀ (n : Nat) (q : Gm), lp (X12_stepOn_B0 x0) n q = some r → (∀ t : Gm, r = t → Wp w mdX12_stepOn (d + 1) 39 [some (.inr x0), none] [] t o M') → Wp w mdX12_stepOn (d + 1) 0 [some (.inr x0), none] [] q o M' := by
  intro n
  induction n with
  | zero => intro q h; cases h
  | succ n ih =>
    intro q h he0
    cases hb : X12_stepOn_B0 x0 q with
    | none => rw [lp_succ, hb] at h; cases h
    | some out =>
      rw [lp_succ, hb] at h
      exact X12_stepOn_B0_ok hb (fun t e => ih t (by rw [e] at h; exact h) he0) (fun t e => he0 t (by rw [e] at h; cases h; rfl))
theorem X12_stepOn_J211_ok {w : Gw} {d : Nat} {x0 : Nat} {M : Gm} {out : Gm} (h : X12_stepOn_J211 x0 M = some out) : Wp w mdX12_stepOn (d + 1) 211 [some (.inr x0), none] [] M (.inl none) out := by
  unfold X12_stepOn_J211 at h
  refine wp_aload_n dX12_stepOn_211 rfl ?_
  refine wp_aload_n dX12_stepOn_212 rfl ?_
  obtain ⟨v1, e2, h⟩ := bnd h
  refine wp_getI (c := 12) (k := 12) dX12_stepOn_213 e2 (by decide) (by decide) rfl fl_RX12_140 ?_
  obtain ⟨M3, e4, h⟩ := bnd h
  refine wp_putI (c := 12) (k := 17) dX12_stepOn_216 e4 (by decide) (by decide) rfl fl_RX12_170 (Or.inl rfl) ?_
  cases h
  exact wp_ret dX12_stepOn_219 rfl

theorem X12_stepOn_J208_ok {w : Gw} {d : Nat} {x0 : Nat} {s0 : Nat} {s1 : Int32} {M : Gm} {out : Gm} (h : X12_stepOn_J208 x0 s0 s1 M = some out) : Wp w mdX12_stepOn (d + 1) 208 [some (.inr x0), none] [.inl s1, .inr s0] M (.inl none) out := by
  unfold X12_stepOn_J208 at h
  obtain ⟨M1, e2, h⟩ := bnd h
  refine wp_putI (c := 12) (k := 14) dX12_stepOn_208 e2 (by decide) (by decide) rfl fl_RX12_150 (Or.inl rfl) ?_
  exact wp_ls (lsS (lsN lsZ)) (X12_stepOn_J211_ok h)

theorem X12_stepOn_B123_ok {w : Gw} {d : Nat} {x0 : Nat} {q : Gm} {o : Go} {M' : Gm} {out : Gm ⊕ Gm} (h : X12_stepOn_B123 x0 q = some out) (hc : ∀ t : Gm, out = .inl t → Wp w mdX12_stepOn (d + 1) 123 [some (.inr x0), none] [] t o M') (he0 : ∀ t : Gm, out = .inr t → Wp w mdX12_stepOn (d + 1) 178 [some (.inr x0), none] [] t o M') : Wp w mdX12_stepOn (d + 1) 123 [some (.inr x0), none] [] q o M' := by
  unfold X12_stepOn_B123 at h
  refine wp_aload_n dX12_stepOn_123 rfl ?_
  refine wp_aload_n dX12_stepOn_124 rfl ?_
  obtain ⟨v1, e2, h⟩ := bnd h
  refine wp_getI (c := 12) (k := 12) dX12_stepOn_125 e2 (by decide) (by decide) rfl fl_RX12_140 ?_
  obtain ⟨q3, e4, h⟩ := bnd h
  refine wp_callV (As := [.inl v1]) dX12_stepOn_128 (sh_X12_byteAt_ok (d := d) e4) okX12_byteAt nnX12_byteAt vvX12_byteAt ml_RX12_143 rfl (Nat.le_of_ble_eq_true rfl) ?_
  obtain ⟨q5, e6, h⟩ := bnd h
  refine wp_callS (As := [.inl q3]) dX12_stepOn_131 (sh_X12_isDigit_ok (d := d) e6) okX12_isDigit nnX12_isDigit ssX12_isDigit ml_RX12_157 rfl (Nat.le_of_ble_eq_true rfl) ?_
  refine wp_if_eq (tgt := 178) dX12_stepOn_134 (by decide) (fun hc_ => ?_) (fun hc_ => ?_)
  · replace h := ite_t hc_ h
    cases h
    exact wp_ls (lsS (lsN lsZ)) (he0 q rfl)
  · replace h := ite_f hc_ h
    refine wp_aload_n dX12_stepOn_137 rfl ?_
    refine wp_ldc (v := 100000) dX12_stepOn_138 ct_RX12_163 ?_
    refine wp_bipush (v := 10) dX12_stepOn_140 (by decide) ?_
    refine wp_aload_n dX12_stepOn_142 rfl ?_
    obtain ⟨v7, e8, h⟩ := bnd h
    refine wp_getI (c := 12) (k := 15) dX12_stepOn_143 e8 (by decide) (by decide) rfl fl_RX12_160 ?_
    refine wp_imul dX12_stepOn_146 ?_
    refine wp_aload_n dX12_stepOn_147 rfl ?_
    refine wp_aload_n dX12_stepOn_148 rfl ?_
    obtain ⟨v9, e10, h⟩ := bnd h
    refine wp_getI (c := 12) (k := 12) dX12_stepOn_149 e10 (by decide) (by decide) rfl fl_RX12_140 ?_
    obtain ⟨q11, e12, h⟩ := bnd h
    refine wp_callV (As := [.inl v9]) dX12_stepOn_152 (sh_X12_byteAt_ok (d := d) e12) okX12_byteAt nnX12_byteAt vvX12_byteAt ml_RX12_143 rfl (Nat.le_of_ble_eq_true rfl) ?_
    refine wp_iadd dX12_stepOn_155 ?_
    refine wp_bipush (v := 48) dX12_stepOn_156 (by decide) ?_
    refine wp_isub dX12_stepOn_158 ?_
    obtain ⟨q13, e14, h⟩ := bnd h
    refine wp_callS (As := [.inl 100000, .inl (((10 * v7) + q11) - 48)]) dX12_stepOn_159 (sh_J9_min_7cf53_ok (d := d) e14) okJ9_min_7cf53 nnJ9_min_7cf53 ssJ9_min_7cf53 ml_RX12_164 rfl (Nat.le_of_ble_eq_true rfl) ?_
    obtain ⟨M15, e16, h⟩ := bnd h
    refine wp_putI (c := 12) (k := 15) dX12_stepOn_162 e16 (by decide) (by decide) rfl fl_RX12_160 (Or.inl rfl) ?_
    refine wp_aload_n dX12_stepOn_165 rfl ?_
    refine wp_dup dX12_stepOn_166 ?_
    obtain ⟨v17, e18, h⟩ := bnd h
    refine wp_getI (c := 12) (k := 12) dX12_stepOn_167 e18 (by decide) (by decide) rfl fl_RX12_140 ?_
    refine wp_iconst (v := 1) dX12_stepOn_170 (by decide) ?_
    refine wp_iadd dX12_stepOn_171 ?_
    obtain ⟨M19, e20, h⟩ := bnd h
    refine wp_putI (c := 12) (k := 12) dX12_stepOn_172 e20 (by decide) (by decide) rfl fl_RX12_140 (Or.inl rfl) ?_
    refine wp_goto (tgt := 123) dX12_stepOn_175 (by decide) ?_
    cases h
    exact wp_ls (lsS (lsN lsZ)) (hc M19 rfl)

theorem X12_stepOn_B123_lp {w : Gw} {d : Nat} {x0 : Nat} {o : Go} {M' : Gm} {r : Gm} : ∀ (n : Nat) (q : Gm), lp (X12_stepOn_B123 x0) n q = some r → (∀ t : Gm, r = t → Wp w mdX12_stepOn (d + 1) 178 [some (.inr x0), none] [] t o M') → Wp w mdX12_stepOn (d + 1) 123 [some (.inr x0), none] [] q o M' := by
  intro n
  induction n with
  | zero => intro q h; cases h
  | succ n ih =>
    intro q h he0
    cases hb : X12_stepOn_B123 x0 q with
    | none => rw [lp_succ, hb] at h; cases h
    | some out =>
      rw [lp_succ, hb] at h
      exact X12_stepOn_B123_ok hb (fun t e => ih t (by rw [e] at h; exact h) he0) (fun t e => he0 t (by rw [e] at h; cases h; rfl))
theorem X12_stepOn_B76_ok {w : Gw} {d : Nat} {x0 : Nat} {q : Gm} {o : Go} {M' : Gm} {out : Gm ⊕ Gm} (h : X12_stepOn_B76 x0 q = some out) (hc : ∀ t : Gm, out = .inl t → Wp w mdX12_stepOn (d + 1) 76 [some (.inr x0), none] [] t o M') (he0 : ∀ t : Gm, out = .inr t → Wp w mdX12_stepOn (d + 1) 103 [some (.inr x0), none] [] t o M') : Wp w mdX12_stepOn (d + 1) 76 [some (.inr x0), none] [] q o M' := by
  unfold X12_stepOn_B76 at h
  refine wp_aload_n dX12_stepOn_76 rfl ?_
  refine wp_aload_n dX12_stepOn_77 rfl ?_
  obtain ⟨v1, e2, h⟩ := bnd h
  refine wp_getI (c := 12) (k := 12) dX12_stepOn_78 e2 (by decide) (by decide) rfl fl_RX12_140 ?_
  obtain ⟨q3, e4, h⟩ := bnd h
  refine wp_callV (As := [.inl v1]) dX12_stepOn_81 (sh_X12_byteAt_ok (d := d) e4) okX12_byteAt nnX12_byteAt vvX12_byteAt ml_RX12_143 rfl (Nat.le_of_ble_eq_true rfl) ?_
  obtain ⟨q5, e6, h⟩ := bnd h
  refine wp_callS (As := [.inl q3]) dX12_stepOn_84 (sh_X12_isLetter_ok (d := d) e6) okX12_isLetter nnX12_isLetter ssX12_isLetter ml_RX12_153 rfl (Nat.le_of_ble_eq_true rfl) ?_
  refine wp_if_eq (tgt := 103) dX12_stepOn_87 (by decide) (fun hc_ => ?_) (fun hc_ => ?_)
  · replace h := ite_t hc_ h
    cases h
    exact wp_ls (lsS (lsN lsZ)) (he0 q rfl)
  · replace h := ite_f hc_ h
    refine wp_aload_n dX12_stepOn_90 rfl ?_
    refine wp_dup dX12_stepOn_91 ?_
    obtain ⟨v7, e8, h⟩ := bnd h
    refine wp_getI (c := 12) (k := 12) dX12_stepOn_92 e8 (by decide) (by decide) rfl fl_RX12_140 ?_
    refine wp_iconst (v := 1) dX12_stepOn_95 (by decide) ?_
    refine wp_iadd dX12_stepOn_96 ?_
    obtain ⟨M9, e10, h⟩ := bnd h
    refine wp_putI (c := 12) (k := 12) dX12_stepOn_97 e10 (by decide) (by decide) rfl fl_RX12_140 (Or.inl rfl) ?_
    refine wp_goto (tgt := 76) dX12_stepOn_100 (by decide) ?_
    cases h
    exact wp_ls (lsS (lsN lsZ)) (hc M9 rfl)

theorem X12_stepOn_B76_lp {w : Gw} {d : Nat} {x0 : Nat} {o : Go} {M' : Gm} {r : Gm} : ∀ (n : Nat) (q : Gm), lp (X12_stepOn_B76 x0) n q = some r → (∀ t : Gm, r = t → Wp w mdX12_stepOn (d + 1) 103 [some (.inr x0), none] [] t o M') → Wp w mdX12_stepOn (d + 1) 76 [some (.inr x0), none] [] q o M' := by
  intro n
  induction n with
  | zero => intro q h; cases h
  | succ n ih =>
    intro q h he0
    cases hb : X12_stepOn_B76 x0 q with
    | none => rw [lp_succ, hb] at h; cases h
    | some out =>
      rw [lp_succ, hb] at h
      exact X12_stepOn_B76_ok hb (fun t e => ih t (by rw [e] at h; exact h) he0) (fun t e => he0 t (by rw [e] at h; cases h; rfl))
theorem X12_stepOn_F_ok {w : Gw} {d : Nat} {x0 : Nat} {M : Gm} {out : Gm} (h : X12_stepOn_F x0 M = some out) : Wp w mdX12_stepOn (d + 1) 0 [some (.inr x0), none] [] M (.inl none) out := by
  unfold X12_stepOn_F at h
  obtain ⟨r1, e2, h⟩ := bnd h
  refine wp_ls (lsS (lsN lsZ)) (X12_stepOn_B0_lp FU _ e2 ?_)
  intro t_ ht_; cases ht_
  refine wp_aload_n dX12_stepOn_39 rfl ?_
  refine wp_aload_n dX12_stepOn_40 rfl ?_
  obtain ⟨v3, e4, h⟩ := bnd h
  refine wp_getI (c := 12) (k := 12) dX12_stepOn_41 e4 (by decide) (by decide) rfl fl_RX12_140 ?_
  obtain ⟨M5, e6, h⟩ := bnd h
  refine wp_putI (c := 12) (k := 16) dX12_stepOn_44 e6 (by decide) (by decide) rfl fl_RX12_147 (Or.inl rfl) ?_
  refine wp_aload_n dX12_stepOn_47 rfl ?_
  refine wp_aload_n dX12_stepOn_48 rfl ?_
  obtain ⟨v7, e8, h⟩ := bnd h
  refine wp_getI (c := 12) (k := 12) dX12_stepOn_49 e8 (by decide) (by decide) rfl fl_RX12_140 ?_
  obtain ⟨q9, e10, h⟩ := bnd h
  refine wp_callV (As := [.inl v7]) dX12_stepOn_52 (sh_X12_byteAt_ok (d := d) e10) okX12_byteAt nnX12_byteAt vvX12_byteAt ml_RX12_143 rfl (Nat.le_of_ble_eq_true rfl) ?_
  refine wp_istore_n dX12_stepOn_55 (Nat.le_of_ble_eq_true rfl) ?_
  refine wp_iload_n dX12_stepOn_56 rfl ?_
  refine wp_iconst (v := (-1)) dX12_stepOn_57 (by decide) ?_
  refine wp_icmp_ne (tgt := 69) dX12_stepOn_58 (by decide) (fun hc_ => ?_) (fun hc_ => ?_)
  · replace h := ite_f hc_ h
    refine wp_iload_n dX12_stepOn_69 rfl ?_
    obtain ⟨q11, e12, h⟩ := bnd h
    refine wp_callS (As := [.inl q9]) dX12_stepOn_70 (sh_X12_isLetter_ok (d := d) e12) okX12_isLetter nnX12_isLetter ssX12_isLetter ml_RX12_153 rfl (Nat.le_of_ble_eq_true rfl) ?_
    refine wp_if_eq (tgt := 111) dX12_stepOn_73 (by decide) (fun hc_ => ?_) (fun hc_ => ?_)
    · replace h := ite_t hc_ h
      refine wp_iload_n dX12_stepOn_111 rfl ?_
      obtain ⟨q13, e14, h⟩ := bnd h
      refine wp_callS (As := [.inl q9]) dX12_stepOn_112 (sh_X12_isDigit_ok (d := d) e14) okX12_isDigit nnX12_isDigit ssX12_isDigit ml_RX12_157 rfl (Nat.le_of_ble_eq_true rfl) ?_
      refine wp_if_eq (tgt := 186) dX12_stepOn_115 (by decide) (fun hc_ => ?_) (fun hc_ => ?_)
      · replace h := ite_t hc_ h
        refine wp_aload_n dX12_stepOn_186 rfl ?_
        refine wp_dup dX12_stepOn_187 ?_
        obtain ⟨v15, e16, h⟩ := bnd h
        refine wp_getI (c := 12) (k := 12) dX12_stepOn_188 e16 (by decide) (by decide) rfl fl_RX12_140 ?_
        refine wp_iconst (v := 1) dX12_stepOn_191 (by decide) ?_
        refine wp_iadd dX12_stepOn_192 ?_
        obtain ⟨M17, e18, h⟩ := bnd h
        refine wp_putI (c := 12) (k := 12) dX12_stepOn_193 e18 (by decide) (by decide) rfl fl_RX12_140 (Or.inl rfl) ?_
        refine wp_aload_n dX12_stepOn_196 rfl ?_
        refine wp_iload_n dX12_stepOn_197 rfl ?_
        refine wp_bipush (v := 59) dX12_stepOn_198 (by decide) ?_
        refine wp_icmp_ne (tgt := 207) dX12_stepOn_200 (by decide) (fun hc_ => ?_) (fun hc_ => ?_)
        · replace h := ite_f hc_ h
          refine wp_iconst (v := 4) dX12_stepOn_207 (by decide) ?_
          exact wp_ls (lsS (lsN lsZ)) (X12_stepOn_J208_ok h)
        · replace h := ite_t hc_ h
          refine wp_iconst (v := 3) dX12_stepOn_203 (by decide) ?_
          refine wp_goto (tgt := 208) dX12_stepOn_204 (by decide) ?_
          exact wp_ls (lsS (lsN lsZ)) (X12_stepOn_J208_ok h)
      · replace h := ite_f hc_ h
        refine wp_aload_n dX12_stepOn_118 rfl ?_
        refine wp_iconst (v := 0) dX12_stepOn_119 (by decide) ?_
        obtain ⟨M19, e20, h⟩ := bnd h
        refine wp_putI (c := 12) (k := 15) dX12_stepOn_120 e20 (by decide) (by decide) rfl fl_RX12_160 (Or.inl rfl) ?_
        obtain ⟨r21, e22, h⟩ := bnd h
        refine wp_ls (lsS (lsN lsZ)) (X12_stepOn_B123_lp FU _ e22 ?_)
        intro t_ ht_; cases ht_
        refine wp_aload_n dX12_stepOn_178 rfl ?_
        refine wp_iconst (v := 2) dX12_stepOn_179 (by decide) ?_
        obtain ⟨M23, e24, h⟩ := bnd h
        refine wp_putI (c := 12) (k := 14) dX12_stepOn_180 e24 (by decide) (by decide) rfl fl_RX12_150 (Or.inl rfl) ?_
        refine wp_goto (tgt := 211) dX12_stepOn_183 (by decide) ?_
        exact wp_ls (lsS (lsN lsZ)) (X12_stepOn_J211_ok h)
    · replace h := ite_f hc_ h
      obtain ⟨r25, e26, h⟩ := bnd h
      refine wp_ls (lsS (lsN lsZ)) (X12_stepOn_B76_lp FU _ e26 ?_)
      intro t_ ht_; cases ht_
      refine wp_aload_n dX12_stepOn_103 rfl ?_
      refine wp_iconst (v := 1) dX12_stepOn_104 (by decide) ?_
      obtain ⟨M27, e28, h⟩ := bnd h
      refine wp_putI (c := 12) (k := 14) dX12_stepOn_105 e28 (by decide) (by decide) rfl fl_RX12_150 (Or.inl rfl) ?_
      refine wp_goto (tgt := 211) dX12_stepOn_108 (by decide) ?_
      exact wp_ls (lsS (lsN lsZ)) (X12_stepOn_J211_ok h)
  · replace h := ite_t hc_ h
    refine wp_aload_n dX12_stepOn_61 rfl ?_
    refine wp_iconst (v := 0) dX12_stepOn_62 (by decide) ?_
    obtain ⟨M29, e30, h⟩ := bnd h
    refine wp_putI (c := 12) (k := 14) dX12_stepOn_63 e30 (by decide) (by decide) rfl fl_RX12_150 (Or.inl rfl) ?_
    refine wp_goto (tgt := 211) dX12_stepOn_66 (by decide) ?_
    exact wp_ls (lsS (lsN lsZ)) (X12_stepOn_J211_ok h)

theorem sh_X12_stepOn_ok {w : Gw} {d : Nat} {x0 : Nat} {M : Gm} {out : Gm} (h : sh_X12_stepOn x0 M = some out) : Ev w mdX12_stepOn (d + 1) [.inr x0] M (.inl none) out := by
  obtain ⟨u, e0, h⟩ := bnd h
  exact ev_of okX12_stepOn ⟨_, _, rfl, isO_of e0 (by decide), by decide⟩ (Nat.le_of_ble_eq_true rfl) (X12_stepOn_F_ok h)

/-! HeatGovernorModel.pass()V -/
def X12_pass_J11 (M : Gm) : Option (Gm) :=
  some M
def X12_pass_F (x0 : Nat) (M : Gm) : Option (Gm) :=
  (gfI M x0 12 18).bind fun v1 =>
  if v1 = 0 then
    (sh_X12_stepOn x0 M).bind fun q3 =>
    X12_pass_J11 q3
  else
    X12_pass_J11 M
def sh_X12_pass (x0 : Nat) (M : Gm) : Option (Gm) := (isO M x0 12).bind fun _ => X12_pass_F x0 M
theorem X12_pass_J11_ok {w : Gw} {d : Nat} {M : Gm} {out : Gm} (h : X12_pass_J11 M = some out) : Wp w mdX12_pass (d + 2) 11 [none] [] M (.inl none) out := by
  unfold X12_pass_J11 at h
  cases h
  exact wp_ret dX12_pass_11 rfl

theorem X12_pass_F_ok {w : Gw} {d : Nat} {x0 : Nat} {M : Gm} {out : Gm} (h : X12_pass_F x0 M = some out) : Wp w mdX12_pass (d + 2) 0 [some (.inr x0)] [] M (.inl none) out := by
  unfold X12_pass_F at h
  refine wp_aload_n dX12_pass_0 rfl ?_
  obtain ⟨v1, e2, h⟩ := bnd h
  refine wp_getI (c := 12) (k := 18) dX12_pass_1 e2 (by decide) (by decide) rfl fl_RX12_173 ?_
  refine wp_if_ne (tgt := 11) dX12_pass_4 (by decide) (fun hc_ => ?_) (fun hc_ => ?_)
  · replace h := ite_f hc_ h
    exact wp_ls (lsN lsZ) (X12_pass_J11_ok h)
  · replace h := ite_t hc_ h
    refine wp_aload_n dX12_pass_7 rfl ?_
    obtain ⟨q3, e4, h⟩ := bnd h
    refine wp_callV (As := []) dX12_pass_8 (sh_X12_stepOn_ok (d := d) e4) okX12_stepOn nnX12_stepOn vvX12_stepOn ml_RX12_191 rfl (Nat.le_of_ble_eq_true rfl) ?_
    exact wp_ls (lsN lsZ) (X12_pass_J11_ok h)

theorem sh_X12_pass_ok {w : Gw} {d : Nat} {x0 : Nat} {M : Gm} {out : Gm} (h : sh_X12_pass x0 M = some out) : Ev w mdX12_pass (d + 2) [.inr x0] M (.inl none) out := by
  obtain ⟨u, e0, h⟩ := bnd h
  exact ev_of okX12_pass ⟨_, _, rfl, isO_of e0 (by decide), by decide⟩ (Nat.le_of_ble_eq_true rfl) (X12_pass_F_ok h)

/-! HeatGovernorModel.wrong(I)V -/
def X12_wrong_F (x0 : Nat) (x1 : Int32) (M : Gm) : Option (Gm) :=
  (gfI M x0 12 18).bind fun v1 =>
  if v1 = 0 then
    (pfI M x0 12 18 x1).bind fun M3 =>
    (gfI M3 x0 12 16).bind fun v5 =>
    (pfI M3 x0 12 19 v5).bind fun M7 =>
    some M7
  else
    some M
def sh_X12_wrong (x0 : Nat) (x1 : Int32) (M : Gm) : Option (Gm) := (isO M x0 12).bind fun _ => X12_wrong_F x0 x1 M
theorem X12_wrong_F_ok {w : Gw} {d : Nat} {x0 : Nat} {x1 : Int32} {M : Gm} {out : Gm} (h : X12_wrong_F x0 x1 M = some out) : Wp w mdX12_wrong d 0 [some (.inr x0), some (.inl x1)] [] M (.inl none) out := by
  unfold X12_wrong_F at h
  refine wp_aload_n dX12_wrong_0 rfl ?_
  obtain ⟨v1, e2, h⟩ := bnd h
  refine wp_getI (c := 12) (k := 18) dX12_wrong_1 e2 (by decide) (by decide) rfl fl_RX12_173 ?_
  refine wp_if_eq (tgt := 8) dX12_wrong_4 (by decide) (fun hc_ => ?_) (fun hc_ => ?_)
  · replace h := ite_t hc_ h
    refine wp_aload_n dX12_wrong_8 rfl ?_
    refine wp_iload_n dX12_wrong_9 rfl ?_
    obtain ⟨M3, e4, h⟩ := bnd h
    refine wp_putI (c := 12) (k := 18) dX12_wrong_10 e4 (by decide) (by decide) rfl fl_RX12_173 (Or.inl rfl) ?_
    refine wp_aload_n dX12_wrong_13 rfl ?_
    refine wp_aload_n dX12_wrong_14 rfl ?_
    obtain ⟨v5, e6, h⟩ := bnd h
    refine wp_getI (c := 12) (k := 16) dX12_wrong_15 e6 (by decide) (by decide) rfl fl_RX12_147 ?_
    obtain ⟨M7, e8, h⟩ := bnd h
    refine wp_putI (c := 12) (k := 19) dX12_wrong_18 e8 (by decide) (by decide) rfl fl_RX12_176 (Or.inl rfl) ?_
    cases h
    exact wp_ret dX12_wrong_21 rfl
  · replace h := ite_f hc_ h
    cases h
    exact wp_ret dX12_wrong_7 rfl

theorem sh_X12_wrong_ok {w : Gw} {d : Nat} {x0 : Nat} {x1 : Int32} {M : Gm} {out : Gm} (h : sh_X12_wrong x0 x1 M = some out) : Ev w mdX12_wrong d [.inr x0, .inl x1] M (.inl none) out := by
  obtain ⟨u, e0, h⟩ := bnd h
  exact ev_of okX12_wrong ⟨_, _, rfl, isO_of e0 (by decide), by decide⟩ (Nat.le_of_ble_eq_true rfl) (X12_wrong_F_ok h)

/-! HeatGovernorModel.numberNow(II)I -/
def X12_numberNow_J74 (s0 : Int32) (M : Gm) : Option (Int32 × Gm) :=
  some (s0, M)
def X12_numberNow_J59 (x0 : Nat) (x1 : Int32) (M : Gm) : Option (Int32 × Gm) :=
  (gfI M x0 12 18).bind fun v1 =>
  if v1 = 0 then
    (gfI M x0 12 15).bind fun v3 =>
    X12_numberNow_J74 v3 M
  else
    X12_numberNow_J74 x1 M
def X12_numberNow_J54 (x0 : Nat) (x1 : Int32) (M : Gm) : Option (Int32 × Gm) :=
  (sh_X12_wrong x0 2 M).bind fun q1 =>
  X12_numberNow_J59 x0 x1 q1
def X12_numberNow_F (x0 : Nat) (x1 : Int32) (x2 : Int32) (M : Gm) : Option (Int32 × Gm) :=
  (gfI M x0 12 18).bind fun v1 =>
  if v1 = 0 then
    (gfI M x0 12 14).bind fun v3 =>
    if v3 = 2 then
      (gfI M x0 12 17).bind fun v5 =>
      (gfI M x0 12 16).bind fun v7 =>
      if 3 < (v5 - v7) then
        X12_numberNow_J54 x0 x1 M
      else
        (gfI M x0 12 15).bind fun v9 =>
        if v9 < x1 then
          X12_numberNow_J54 x0 x1 M
        else
          (gfI M x0 12 15).bind fun v11 =>
          if v11 ≤ x2 then
            X12_numberNow_J59 x0 x1 M
          else
            X12_numberNow_J54 x0 x1 M
    else
      (sh_X12_wrong x0 1 M).bind fun q13 =>
      X12_numberNow_J59 x0 x1 q13
  else
    some (x1, M)
def sh_X12_numberNow (x0 : Nat) (x1 : Int32) (x2 : Int32) (M : Gm) : Option (Int32 × Gm) := (isO M x0 12).bind fun _ => X12_numberNow_F x0 x1 x2 M
theorem X12_numberNow_J74_ok {w : Gw} {d : Nat} {s0 : Int32} {M : Gm} {out : Int32 × Gm} (h : X12_numberNow_J74 s0 M = some out) : Wp w mdX12_numberNow (d + 1) 74 [none, none, none] [.inl s0] M (.inl (some (.inl out.1))) out.2 := by
  unfold X12_numberNow_J74 at h
  cases h
  exact wp_iret dX12_numberNow_74 rfl

theorem X12_numberNow_J59_ok {w : Gw} {d : Nat} {x0 : Nat} {x1 : Int32} {M : Gm} {out : Int32 × Gm} (h : X12_numberNow_J59 x0 x1 M = some out) : Wp w mdX12_numberNow (d + 1) 59 [some (.inr x0), some (.inl x1), none] [] M (.inl (some (.inl out.1))) out.2 := by
  unfold X12_numberNow_J59 at h
  refine wp_aload_n dX12_numberNow_59 rfl ?_
  obtain ⟨v1, e2, h⟩ := bnd h
  refine wp_getI (c := 12) (k := 18) dX12_numberNow_60 e2 (by decide) (by decide) rfl fl_RX12_173 ?_
  refine wp_if_ne (tgt := 73) dX12_numberNow_63 (by decide) (fun hc_ => ?_) (fun hc_ => ?_)
  · replace h := ite_f hc_ h
    refine wp_iload_n dX12_numberNow_73 rfl ?_
    exact wp_ls (lsN (lsN (lsN lsZ))) (X12_numberNow_J74_ok h)
  · replace h := ite_t hc_ h
    refine wp_aload_n dX12_numberNow_66 rfl ?_
    obtain ⟨v3, e4, h⟩ := bnd h
    refine wp_getI (c := 12) (k := 15) dX12_numberNow_67 e4 (by decide) (by decide) rfl fl_RX12_160 ?_
    refine wp_goto (tgt := 74) dX12_numberNow_70 (by decide) ?_
    exact wp_ls (lsN (lsN (lsN lsZ))) (X12_numberNow_J74_ok h)

theorem X12_numberNow_J54_ok {w : Gw} {d : Nat} {x0 : Nat} {x1 : Int32} {M : Gm} {out : Int32 × Gm} (h : X12_numberNow_J54 x0 x1 M = some out) : Wp w mdX12_numberNow (d + 1) 54 [some (.inr x0), some (.inl x1), none] [] M (.inl (some (.inl out.1))) out.2 := by
  unfold X12_numberNow_J54 at h
  refine wp_aload_n dX12_numberNow_54 rfl ?_
  refine wp_iconst (v := 2) dX12_numberNow_55 (by decide) ?_
  obtain ⟨q1, e2, h⟩ := bnd h
  refine wp_callV (As := [.inl 2]) dX12_numberNow_56 (sh_X12_wrong_ok (d := d) e2) okX12_wrong nnX12_wrong vvX12_wrong ml_RX12_194 rfl (Nat.le_of_ble_eq_true rfl) ?_
  exact wp_ls (lsS (lsS (lsN lsZ))) (X12_numberNow_J59_ok h)

theorem X12_numberNow_F_ok {w : Gw} {d : Nat} {x0 : Nat} {x1 : Int32} {x2 : Int32} {M : Gm} {out : Int32 × Gm} (h : X12_numberNow_F x0 x1 x2 M = some out) : Wp w mdX12_numberNow (d + 1) 0 [some (.inr x0), some (.inl x1), some (.inl x2)] [] M (.inl (some (.inl out.1))) out.2 := by
  unfold X12_numberNow_F at h
  refine wp_aload_n dX12_numberNow_0 rfl ?_
  obtain ⟨v1, e2, h⟩ := bnd h
  refine wp_getI (c := 12) (k := 18) dX12_numberNow_1 e2 (by decide) (by decide) rfl fl_RX12_173 ?_
  refine wp_if_eq (tgt := 9) dX12_numberNow_4 (by decide) (fun hc_ => ?_) (fun hc_ => ?_)
  · replace h := ite_t hc_ h
    refine wp_aload_n dX12_numberNow_9 rfl ?_
    obtain ⟨v3, e4, h⟩ := bnd h
    refine wp_getI (c := 12) (k := 14) dX12_numberNow_10 e4 (by decide) (by decide) rfl fl_RX12_150 ?_
    refine wp_iconst (v := 2) dX12_numberNow_13 (by decide) ?_
    refine wp_icmp_eq (tgt := 25) dX12_numberNow_14 (by decide) (fun hc_ => ?_) (fun hc_ => ?_)
    · replace h := ite_t hc_ h
      refine wp_aload_n dX12_numberNow_25 rfl ?_
      obtain ⟨v5, e6, h⟩ := bnd h
      refine wp_getI (c := 12) (k := 17) dX12_numberNow_26 e6 (by decide) (by decide) rfl fl_RX12_170 ?_
      refine wp_aload_n dX12_numberNow_29 rfl ?_
      obtain ⟨v7, e8, h⟩ := bnd h
      refine wp_getI (c := 12) (k := 16) dX12_numberNow_30 e8 (by decide) (by decide) rfl fl_RX12_147 ?_
      refine wp_isub dX12_numberNow_33 ?_
      refine wp_iconst (v := 3) dX12_numberNow_34 (by decide) ?_
      refine wp_icmp_gt (tgt := 54) dX12_numberNow_35 (by decide) (fun hc_ => ?_) (fun hc_ => ?_)
      · replace h := ite_t hc_ h
        exact wp_ls (lsS (lsS (lsN lsZ))) (X12_numberNow_J54_ok h)
      · replace h := ite_f hc_ h
        refine wp_aload_n dX12_numberNow_38 rfl ?_
        obtain ⟨v9, e10, h⟩ := bnd h
        refine wp_getI (c := 12) (k := 15) dX12_numberNow_39 e10 (by decide) (by decide) rfl fl_RX12_160 ?_
        refine wp_iload_n dX12_numberNow_42 rfl ?_
        refine wp_icmp_lt (tgt := 54) dX12_numberNow_43 (by decide) (fun hc_ => ?_) (fun hc_ => ?_)
        · replace h := ite_t hc_ h
          exact wp_ls (lsS (lsS (lsN lsZ))) (X12_numberNow_J54_ok h)
        · replace h := ite_f hc_ h
          refine wp_aload_n dX12_numberNow_46 rfl ?_
          obtain ⟨v11, e12, h⟩ := bnd h
          refine wp_getI (c := 12) (k := 15) dX12_numberNow_47 e12 (by decide) (by decide) rfl fl_RX12_160 ?_
          refine wp_iload_n dX12_numberNow_50 rfl ?_
          refine wp_icmp_le (tgt := 59) dX12_numberNow_51 (by decide) (fun hc_ => ?_) (fun hc_ => ?_)
          · replace h := ite_t hc_ h
            exact wp_ls (lsS (lsS (lsN lsZ))) (X12_numberNow_J59_ok h)
          · replace h := ite_f hc_ h
            exact wp_ls (lsS (lsS (lsN lsZ))) (X12_numberNow_J54_ok h)
    · replace h := ite_f hc_ h
      refine wp_aload_n dX12_numberNow_17 rfl ?_
      refine wp_iconst (v := 1) dX12_numberNow_18 (by decide) ?_
      obtain ⟨q13, e14, h⟩ := bnd h
      refine wp_callV (As := [.inl 1]) dX12_numberNow_19 (sh_X12_wrong_ok (d := d) e14) okX12_wrong nnX12_wrong vvX12_wrong ml_RX12_194 rfl (Nat.le_of_ble_eq_true rfl) ?_
      refine wp_goto (tgt := 59) dX12_numberNow_22 (by decide) ?_
      exact wp_ls (lsS (lsS (lsN lsZ))) (X12_numberNow_J59_ok h)
  · replace h := ite_f hc_ h
    refine wp_iload_n dX12_numberNow_7 rfl ?_
    cases h
    exact wp_iret dX12_numberNow_8 rfl

theorem sh_X12_numberNow_ok {w : Gw} {d : Nat} {x0 : Nat} {x1 : Int32} {x2 : Int32} {M : Gm} {out : Int32 × Gm} (h : sh_X12_numberNow x0 x1 x2 M = some out) : Ev w mdX12_numberNow (d + 1) [.inr x0, .inl x1, .inl x2] M (.inl (some (.inl out.1))) out.2 := by
  obtain ⟨u, e0, h⟩ := bnd h
  exact ev_of okX12_numberNow ⟨_, _, rfl, isO_of e0 (by decide), by decide⟩ (Nat.le_of_ble_eq_true rfl) (X12_numberNow_F_ok h)
