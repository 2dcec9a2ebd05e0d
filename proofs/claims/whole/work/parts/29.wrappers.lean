theorem okL_plan : MdOkH mdL_plan := ⟨gt_mem 860 (by decide +kernel) (by decide +kernel), gt_mem 111 (by decide +kernel) (by decide +kernel), by decide +kernel, ⟨by decide +kernel, by decide +kernel⟩, by decide⟩
theorem nnL_plan : MdN mdL_plan 3 := by unfold MdN; decide +kernel
theorem ssL_plan : Cond.static yL_plan ∈ gtbl := gt_mem 859 (by decide +kernel) (by decide +kernel)
theorem okL_count : MdOkH mdL_count := ⟨gt_mem 1124 (by decide +kernel) (by decide +kernel), gt_mem 111 (by decide +kernel) (by decide +kernel), by decide +kernel, ⟨by decide +kernel, by decide +kernel⟩, by decide⟩
theorem nnL_count : MdN mdL_count 3 := by unfold MdN; decide +kernel
theorem ssL_count : Cond.static yL_count ∈ gtbl := gt_mem 1123 (by decide +kernel) (by decide +kernel)
theorem okL_zone : MdOkH mdL_zone := ⟨gt_mem 1200 (by decide +kernel) (by decide +kernel), gt_mem 111 (by decide +kernel) (by decide +kernel), by decide +kernel, ⟨by decide +kernel, by decide +kernel⟩, by decide⟩
theorem nnL_zone : MdN mdL_zone 4 := by unfold MdN; decide +kernel
theorem ssL_zone : Cond.static yL_zone ∈ gtbl := gt_mem 1199 (by decide +kernel) (by decide +kernel)
theorem okL_trip : MdOkH mdL_trip := ⟨gt_mem 1220 (by decide +kernel) (by decide +kernel), gt_mem 111 (by decide +kernel) (by decide +kernel), by decide +kernel, ⟨by decide +kernel, by decide +kernel⟩, by decide⟩
theorem nnL_trip : MdN mdL_trip 4 := by unfold MdN; decide +kernel
theorem ssL_trip : Cond.static yL_trip ∈ gtbl := gt_mem 1219 (by decide +kernel) (by decide +kernel)
theorem okL_device : MdOkH mdL_device := ⟨gt_mem 1237 (by decide +kernel) (by decide +kernel), gt_mem 111 (by decide +kernel) (by decide +kernel), by decide +kernel, ⟨by decide +kernel, by decide +kernel⟩, by decide⟩
theorem nnL_device : MdN mdL_device 4 := by unfold MdN; decide +kernel
theorem ssL_device : Cond.static yL_device ∈ gtbl := gt_mem 1236 (by decide +kernel) (by decide +kernel)
theorem okL_bind : MdOkH mdL_bind := ⟨gt_mem 1250 (by decide +kernel) (by decide +kernel), gt_mem 111 (by decide +kernel) (by decide +kernel), by decide +kernel, ⟨by decide +kernel, by decide +kernel⟩, by decide⟩
theorem nnL_bind : MdN mdL_bind 5 := by unfold MdN; decide +kernel
theorem ssL_bind : Cond.static yL_bind ∈ gtbl := gt_mem 1249 (by decide +kernel) (by decide +kernel)
theorem okL_log : MdOkH mdL_log := ⟨gt_mem 1261 (by decide +kernel) (by decide +kernel), gt_mem 111 (by decide +kernel) (by decide +kernel), by decide +kernel, ⟨by decide +kernel, by decide +kernel⟩, by decide⟩
theorem nnL_log : MdN mdL_log 4 := by unfold MdN; decide +kernel
theorem ssL_log : Cond.static yL_log ∈ gtbl := gt_mem 1260 (by decide +kernel) (by decide +kernel)
theorem okL_ahead : MdOkH mdL_ahead := ⟨gt_mem 1274 (by decide +kernel) (by decide +kernel), gt_mem 111 (by decide +kernel) (by decide +kernel), by decide +kernel, ⟨by decide +kernel, by decide +kernel⟩, by decide⟩
theorem nnL_ahead : MdN mdL_ahead 5 := by unfold MdN; decide +kernel
theorem ssL_ahead : Cond.static yL_ahead ∈ gtbl := gt_mem 1273 (by decide +kernel) (by decide +kernel)
theorem okL_bears : MdOkH mdL_bears := ⟨gt_mem 1289 (by decide +kernel) (by decide +kernel), gt_mem 111 (by decide +kernel) (by decide +kernel), by decide +kernel, ⟨by decide +kernel, by decide +kernel⟩, by decide⟩
theorem nnL_bears : MdN mdL_bears 5 := by unfold MdN; decide +kernel
theorem ssL_bears : Cond.static yL_bears ∈ gtbl := gt_mem 1288 (by decide +kernel) (by decide +kernel)
theorem okL_flips : MdOkH mdL_flips := ⟨gt_mem 1309 (by decide +kernel) (by decide +kernel), gt_mem 111 (by decide +kernel) (by decide +kernel), by decide +kernel, ⟨by decide +kernel, by decide +kernel⟩, by decide⟩
theorem nnL_flips : MdN mdL_flips 4 := by unfold MdN; decide +kernel
theorem ssL_flips : Cond.static yL_flips ∈ gtbl := gt_mem 1308 (by decide +kernel) (by decide +kernel)
theorem okL_fits : MdOkH mdL_fits := ⟨gt_mem 1320 (by decide +kernel) (by decide +kernel), gt_mem 111 (by decide +kernel) (by decide +kernel), by decide +kernel, ⟨by decide +kernel, by decide +kernel⟩, by decide⟩
theorem nnL_fits : MdN mdL_fits 4 := by unfold MdN; decide +kernel
theorem ssL_fits : Cond.static yL_fits ∈ gtbl := gt_mem 1319 (by decide +kernel) (by decide +kernel)
theorem okL_look : MdOkH mdL_look := ⟨gt_mem 1344 (by decide +kernel) (by decide +kernel), gt_mem 111 (by decide +kernel) (by decide +kernel), by decide +kernel, ⟨by decide +kernel, by decide +kernel⟩, by decide⟩
theorem nnL_look : MdN mdL_look 4 := by unfold MdN; decide +kernel
theorem ssL_look : Cond.static yL_look ∈ gtbl := gt_mem 1343 (by decide +kernel) (by decide +kernel)
theorem okL_years : MdOkH mdL_years := ⟨gt_mem 1363 (by decide +kernel) (by decide +kernel), gt_mem 111 (by decide +kernel) (by decide +kernel), by decide +kernel, ⟨by decide +kernel, by decide +kernel⟩, by decide⟩
theorem nnL_years : MdN mdL_years 5 := by unfold MdN; decide +kernel
theorem ssL_years : Cond.static yL_years ∈ gtbl := gt_mem 1362 (by decide +kernel) (by decide +kernel)
/-! HeatGovernorLaw.plan(LHeatGovernor;I[J)I -/
def L_plan_F (x0 : Nat) (x1 : Int32) (x2 : Nat) (M : Gm) : Option (Int32 × Gm) :=
  (sh_X11_plan x0 x1 M).bind fun q1 =>
  Sum.elim (fun u3 =>
    (stA u3.2 3 x2 0 u3.1).bind fun M5 =>
    some (0, M5)) (fun u4 =>
      if u4.1 = 2 then
      some (1, u4.2)
      else none) q1
def sh_L_plan (x0 : Nat) (x1 : Int32) (x2 : Nat) (M : Gm) : Option (Int32 × Gm) := L_plan_F x0 x1 x2 M
theorem L_plan_F_ok {w : Gw} {d : Nat} {x0 : Nat} {x1 : Int32} {x2 : Nat} {M : Gm} {out : Int32 × Gm} (h : L_plan_F x0 x1 x2 M = some out) : Wp w mdL_plan (d + 12) 0 [some (.inr x0), some (.inl x1), some (.inr x2), none] [] M (.inl (some (.inl out.1))) out.2 := by
  unfold L_plan_F at h
  refine wp_aload_n dL_plan_0 rfl ?_
  refine wp_iconst (v := 0) dL_plan_1 (by decide) ?_
  refine wp_aload_n dL_plan_2 rfl ?_
  refine wp_iload_n dL_plan_3 rfl ?_
  obtain ⟨q1, e2, h⟩ := bnd h
  cases q1 with
  | inl u3 =>
    replace h := elim_l h
    refine wp_callV (As := [.inl x1]) dL_plan_4 (sh_X11_plan_ok (d := d) e2) okX11_plan nnX11_plan vvX11_plan ml_RL_7 rfl (Nat.le_of_ble_eq_true rfl) ?_
    obtain ⟨M5, e6, h⟩ := bnd h
    refine wp_lastI dL_plan_7 dL_plan_8 e6 ?_
    refine wp_goto (tgt := 15) dL_plan_9 (by decide) ?_
    refine wp_iconst (v := 0) dL_plan_15 (by decide) ?_
    cases h
    exact wp_iret dL_plan_16 rfl
  | inr u4 =>
    replace h := elim_r h
    by_cases cx0 : u4.1 = 2
    · replace h := ite_t cx0 h
      have E_ := sh_X11_plan_ok (w := w) (d := d) e2
      rw [show xoP (.inr u4) = .inr eIAE by (obtain ⟨z1, z2⟩ := u4; cases cx0; rfl)] at E_
      refine wp_callVc (As := [.inl x1]) dL_plan_4 E_ okX11_plan nnX11_plan vvX11_plan ml_RL_7 rfl (Nat.le_of_ble_eq_true rfl) [] (0, 9, 12, 13) [] rfl (by decide) (by decide) cl_RL_13 ca_IAE (fun _ z hz => nomatch hz) (j := 3) (Or.inl ⟨_, dL_plan_12, rfl, rfl⟩) (Nat.le_of_ble_eq_true rfl) ?_
      refine wp_iconst (v := 1) dL_plan_13 (by decide) ?_
      cases h
      exact wp_iret dL_plan_14 rfl
    replace h := ite_f cx0 h
    cases h

theorem sh_L_plan_ok {w : Gw} {d : Nat} {x0 : Nat} {x1 : Int32} {x2 : Nat} {M : Gm} {out : Int32 × Gm} (h : sh_L_plan x0 x1 x2 M = some out) : EvH w mdL_plan (d + 12) [.inr x0, .inl x1, .inr x2] M (some (.inl out.1)) out.2 := ev_ofH okL_plan (Nat.le_of_ble_eq_true rfl) (L_plan_F_ok h)
/-! HeatGovernorLaw.count(LHeatGovernor;I[J)I -/
def L_count_F (x0 : Nat) (x1 : Int32) (x2 : Nat) (M : Gm) : Option (Int32 × Gm) :=
  (sh_X11_count x0 x1 M).bind fun q1 =>
  Sum.elim (fun u3 =>
    (stA u3.2 3 x2 0 u3.1).bind fun M5 =>
    some (0, M5)) (fun u4 =>
      if u4.1 = 1 then
      some (1, u4.2)
      else none) q1
def sh_L_count (x0 : Nat) (x1 : Int32) (x2 : Nat) (M : Gm) : Option (Int32 × Gm) := L_count_F x0 x1 x2 M
theorem L_count_F_ok {w : Gw} {d : Nat} {x0 : Nat} {x1 : Int32} {x2 : Nat} {M : Gm} {out : Int32 × Gm} (h : L_count_F x0 x1 x2 M = some out) : Wp w mdL_count (d + 8) 0 [some (.inr x0), some (.inl x1), some (.inr x2), none] [] M (.inl (some (.inl out.1))) out.2 := by
  unfold L_count_F at h
  refine wp_aload_n dL_count_0 rfl ?_
  refine wp_iconst (v := 0) dL_count_1 (by decide) ?_
  refine wp_aload_n dL_count_2 rfl ?_
  refine wp_iload_n dL_count_3 rfl ?_
  obtain ⟨q1, e2, h⟩ := bnd h
  cases q1 with
  | inl u3 =>
    replace h := elim_l h
    refine wp_callV (As := [.inl x1]) dL_count_4 (sh_X11_count_ok (d := d) e2) okX11_count nnX11_count vvX11_count ml_RL_15 rfl (Nat.le_of_ble_eq_true rfl) ?_
    obtain ⟨M5, e6, h⟩ := bnd h
    refine wp_lastI dL_count_7 dL_count_8 e6 ?_
    refine wp_goto (tgt := 15) dL_count_9 (by decide) ?_
    refine wp_iconst (v := 0) dL_count_15 (by decide) ?_
    cases h
    exact wp_iret dL_count_16 rfl
  | inr u4 =>
    replace h := elim_r h
    by_cases cx0 : u4.1 = 1
    · replace h := ite_t cx0 h
      have E_ := sh_X11_count_ok (w := w) (d := d) e2
      rw [show xoP (.inr u4) = .inr eNSE by (obtain ⟨z1, z2⟩ := u4; cases cx0; rfl)] at E_
      refine wp_callVc (As := [.inl x1]) dL_count_4 E_ okX11_count nnX11_count vvX11_count ml_RL_15 rfl (Nat.le_of_ble_eq_true rfl) [] (0, 9, 12, 18) [] rfl (by decide) (by decide) cl_RL_18 ca_NSE (fun _ z hz => nomatch hz) (j := 3) (Or.inl ⟨_, dL_count_12, rfl, rfl⟩) (Nat.le_of_ble_eq_true rfl) ?_
      refine wp_iconst (v := 1) dL_count_13 (by decide) ?_
      cases h
      exact wp_iret dL_count_14 rfl
    replace h := ite_f cx0 h
    cases h

theorem sh_L_count_ok {w : Gw} {d : Nat} {x0 : Nat} {x1 : Int32} {x2 : Nat} {M : Gm} {out : Int32 × Gm} (h : sh_L_count x0 x1 x2 M = some out) : EvH w mdL_count (d + 8) [.inr x0, .inl x1, .inr x2] M (some (.inl out.1)) out.2 := ev_ofH okL_count (Nat.le_of_ble_eq_true rfl) (L_count_F_ok h)
/-! HeatGovernorLaw.zone(LHeatGovernor;II[J)I -/
def L_zone_F (x0 : Nat) (x1 : Int32) (x2 : Int32) (x3 : Nat) (M : Gm) : Option (Int32 × Gm) :=
  (sh_X11_zone x0 x1 x2 M).bind fun q1 =>
  Sum.elim (fun u3 =>
    (stA M 3 x3 0 u3).bind fun M5 =>
    some (0, M5)) (fun u4 =>
      if u4.1 = 1 then
      some (1, u4.2)
      else none) q1
def sh_L_zone (x0 : Nat) (x1 : Int32) (x2 : Int32) (x3 : Nat) (M : Gm) : Option (Int32 × Gm) := L_zone_F x0 x1 x2 x3 M
theorem L_zone_F_ok {w : Gw} {d : Nat} {x0 : Nat} {x1 : Int32} {x2 : Int32} {x3 : Nat} {M : Gm} {out : Int32 × Gm} (h : L_zone_F x0 x1 x2 x3 M = some out) : Wp w mdL_zone (d + 8) 0 [some (.inr x0), some (.inl x1), some (.inl x2), some (.inr x3), none] [] M (.inl (some (.inl out.1))) out.2 := by
  unfold L_zone_F at h
  refine wp_aload_n dL_zone_0 rfl ?_
  refine wp_iconst (v := 0) dL_zone_1 (by decide) ?_
  refine wp_aload_n dL_zone_2 rfl ?_
  refine wp_iload_n dL_zone_3 rfl ?_
  refine wp_iload_n dL_zone_4 rfl ?_
  obtain ⟨q1, e2, h⟩ := bnd h
  cases q1 with
  | inl u3 =>
    replace h := elim_l h
    refine wp_callV (As := [.inl x1, .inl x2]) dL_zone_5 (sh_X11_zone_ok (d := d) e2) okX11_zone nnX11_zone vvX11_zone ml_RL_20 rfl (Nat.le_of_ble_eq_true rfl) ?_
    obtain ⟨M5, e6, h⟩ := bnd h
    refine wp_lastI dL_zone_8 dL_zone_9 e6 ?_
    refine wp_goto (tgt := 17) dL_zone_10 (by decide) ?_
    refine wp_iconst (v := 0) dL_zone_17 (by decide) ?_
    cases h
    exact wp_iret dL_zone_18 rfl
  | inr u4 =>
    replace h := elim_r h
    by_cases cx0 : u4.1 = 1
    · replace h := ite_t cx0 h
      have E_ := sh_X11_zone_ok (w := w) (d := d) e2
      rw [show xoI (.inr u4) = .inr eNSE by (obtain ⟨z1, z2⟩ := u4; cases cx0; rfl)] at E_
      refine wp_callVc (As := [.inl x1, .inl x2]) dL_zone_5 E_ okX11_zone nnX11_zone vvX11_zone ml_RL_20 rfl (Nat.le_of_ble_eq_true rfl) [] (0, 10, 13, 18) [] rfl (by decide) (by decide) cl_RL_18 ca_NSE (fun _ z hz => nomatch hz) (j := 4) (Or.inr ⟨dL_zone_13, rfl⟩) (Nat.le_of_ble_eq_true rfl) ?_
      refine wp_iconst (v := 1) dL_zone_15 (by decide) ?_
      cases h
      exact wp_iret dL_zone_16 rfl
    replace h := ite_f cx0 h
    cases h

theorem sh_L_zone_ok {w : Gw} {d : Nat} {x0 : Nat} {x1 : Int32} {x2 : Int32} {x3 : Nat} {M : Gm} {out : Int32 × Gm} (h : sh_L_zone x0 x1 x2 x3 M = some out) : EvH w mdL_zone (d + 8) [.inr x0, .inl x1, .inl x2, .inr x3] M (some (.inl out.1)) out.2 := ev_ofH okL_zone (Nat.le_of_ble_eq_true rfl) (L_zone_F_ok h)
/-! HeatGovernorLaw.trip(LHeatGovernor;II[J)I -/
def L_trip_F (x0 : Nat) (x1 : Int32) (x2 : Int32) (x3 : Nat) (M : Gm) : Option (Int32 × Gm) :=
  (sh_X11_trip x0 x1 x2 M).bind fun q1 =>
  Sum.elim (fun u3 =>
    (stA M 3 x3 0 u3).bind fun M5 =>
    some (0, M5)) (fun u4 =>
      if u4.1 = 1 then
      some (1, u4.2)
      else none) q1
def sh_L_trip (x0 : Nat) (x1 : Int32) (x2 : Int32) (x3 : Nat) (M : Gm) : Option (Int32 × Gm) := L_trip_F x0 x1 x2 x3 M
theorem L_trip_F_ok {w : Gw} {d : Nat} {x0 : Nat} {x1 : Int32} {x2 : Int32} {x3 : Nat} {M : Gm} {out : Int32 × Gm} (h : L_trip_F x0 x1 x2 x3 M = some out) : Wp w mdL_trip (d + 8) 0 [some (.inr x0), some (.inl x1), some (.inl x2), some (.inr x3), none] [] M (.inl (some (.inl out.1))) out.2 := by
  unfold L_trip_F at h
  refine wp_aload_n dL_trip_0 rfl ?_
  refine wp_iconst (v := 0) dL_trip_1 (by decide) ?_
  refine wp_aload_n dL_trip_2 rfl ?_
  refine wp_iload_n dL_trip_3 rfl ?_
  refine wp_iload_n dL_trip_4 rfl ?_
  obtain ⟨q1, e2, h⟩ := bnd h
  cases q1 with
  | inl u3 =>
    replace h := elim_l h
    refine wp_callV (As := [.inl x1, .inl x2]) dL_trip_5 (sh_X11_trip_ok (d := d) e2) okX11_trip nnX11_trip vvX11_trip ml_RL_24 rfl (Nat.le_of_ble_eq_true rfl) ?_
    obtain ⟨M5, e6, h⟩ := bnd h
    refine wp_lastI dL_trip_8 dL_trip_9 e6 ?_
    refine wp_goto (tgt := 17) dL_trip_10 (by decide) ?_
    refine wp_iconst (v := 0) dL_trip_17 (by decide) ?_
    cases h
    exact wp_iret dL_trip_18 rfl
  | inr u4 =>
    replace h := elim_r h
    by_cases cx0 : u4.1 = 1
    · replace h := ite_t cx0 h
      have E_ := sh_X11_trip_ok (w := w) (d := d) e2
      rw [show xoI (.inr u4) = .inr eNSE by (obtain ⟨z1, z2⟩ := u4; cases cx0; rfl)] at E_
      refine wp_callVc (As := [.inl x1, .inl x2]) dL_trip_5 E_ okX11_trip nnX11_trip vvX11_trip ml_RL_24 rfl (Nat.le_of_ble_eq_true rfl) [] (0, 10, 13, 18) [] rfl (by decide) (by decide) cl_RL_18 ca_NSE (fun _ z hz => nomatch hz) (j := 4) (Or.inr ⟨dL_trip_13, rfl⟩) (Nat.le_of_ble_eq_true rfl) ?_
      refine wp_iconst (v := 1) dL_trip_15 (by decide) ?_
      cases h
      exact wp_iret dL_trip_16 rfl
    replace h := ite_f cx0 h
    cases h

theorem sh_L_trip_ok {w : Gw} {d : Nat} {x0 : Nat} {x1 : Int32} {x2 : Int32} {x3 : Nat} {M : Gm} {out : Int32 × Gm} (h : sh_L_trip x0 x1 x2 x3 M = some out) : EvH w mdL_trip (d + 8) [.inr x0, .inl x1, .inl x2, .inr x3] M (some (.inl out.1)) out.2 := ev_ofH okL_trip (Nat.le_of_ble_eq_true rfl) (L_trip_F_ok h)
/-! HeatGovernorLaw.device(LHeatGovernor;II[J)I -/
def L_device_F (x0 : Nat) (x1 : Int32) (x2 : Int32) (x3 : Nat) (M : Gm) : Option (Int32 × Gm) :=
  (sh_X11_device x0 x1 x2 M).bind fun q1 =>
  Sum.elim (fun u3 =>
    (stA M 3 x3 0 u3).bind fun M5 =>
    some (0, M5)) (fun u4 =>
      if u4.1 = 1 then
      some (1, u4.2)
      else none) q1
def sh_L_device (x0 : Nat) (x1 : Int32) (x2 : Int32) (x3 : Nat) (M : Gm) : Option (Int32 × Gm) := L_device_F x0 x1 x2 x3 M
theorem L_device_F_ok {w : Gw} {d : Nat} {x0 : Nat} {x1 : Int32} {x2 : Int32} {x3 : Nat} {M : Gm} {out : Int32 × Gm} (h : L_device_F x0 x1 x2 x3 M = some out) : Wp w mdL_device (d + 8) 0 [some (.inr x0), some (.inl x1), some (.inl x2), some (.inr x3), none] [] M (.inl (some (.inl out.1))) out.2 := by
  unfold L_device_F at h
  refine wp_aload_n dL_device_0 rfl ?_
  refine wp_iconst (v := 0) dL_device_1 (by decide) ?_
  refine wp_aload_n dL_device_2 rfl ?_
  refine wp_iload_n dL_device_3 rfl ?_
  refine wp_iload_n dL_device_4 rfl ?_
  obtain ⟨q1, e2, h⟩ := bnd h
  cases q1 with
  | inl u3 =>
    replace h := elim_l h
    refine wp_callV (As := [.inl x1, .inl x2]) dL_device_5 (sh_X11_device_ok (d := d) e2) okX11_device nnX11_device vvX11_device ml_RL_27 rfl (Nat.le_of_ble_eq_true rfl) ?_
    obtain ⟨M5, e6, h⟩ := bnd h
    refine wp_lastI dL_device_8 dL_device_9 e6 ?_
    refine wp_goto (tgt := 17) dL_device_10 (by decide) ?_
    refine wp_iconst (v := 0) dL_device_17 (by decide) ?_
    cases h
    exact wp_iret dL_device_18 rfl
  | inr u4 =>
    replace h := elim_r h
    by_cases cx0 : u4.1 = 1
    · replace h := ite_t cx0 h
      have E_ := sh_X11_device_ok (w := w) (d := d) e2
      rw [show xoI (.inr u4) = .inr eNSE by (obtain ⟨z1, z2⟩ := u4; cases cx0; rfl)] at E_
      refine wp_callVc (As := [.inl x1, .inl x2]) dL_device_5 E_ okX11_device nnX11_device vvX11_device ml_RL_27 rfl (Nat.le_of_ble_eq_true rfl) [] (0, 10, 13, 18) [] rfl (by decide) (by decide) cl_RL_18 ca_NSE (fun _ z hz => nomatch hz) (j := 4) (Or.inr ⟨dL_device_13, rfl⟩) (Nat.le_of_ble_eq_true rfl) ?_
      refine wp_iconst (v := 1) dL_device_15 (by decide) ?_
      cases h
      exact wp_iret dL_device_16 rfl
    replace h := ite_f cx0 h
    cases h

theorem sh_L_device_ok {w : Gw} {d : Nat} {x0 : Nat} {x1 : Int32} {x2 : Int32} {x3 : Nat} {M : Gm} {out : Int32 × Gm} (h : sh_L_device x0 x1 x2 x3 M = some out) : EvH w mdL_device (d + 8) [.inr x0, .inl x1, .inl x2, .inr x3] M (some (.inl out.1)) out.2 := ev_ofH okL_device (Nat.le_of_ble_eq_true rfl) (L_device_F_ok h)
/-! HeatGovernorLaw.bind(LHeatGovernor;III[J)I -/
def L_bind_F (x0 : Nat) (x1 : Int32) (x2 : Int32) (x3 : Int32) (x4 : Nat) (M : Gm) : Option (Int32 × Gm) :=
  (sh_X11_bind x0 x1 x2 x3 M).bind fun q1 =>
  Sum.elim (fun u3 =>
    (stA M 3 x4 0 u3).bind fun M5 =>
    some (0, M5)) (fun u4 =>
      if u4.1 = 1 then
      some (1, u4.2)
      else none) q1
def sh_L_bind (x0 : Nat) (x1 : Int32) (x2 : Int32) (x3 : Int32) (x4 : Nat) (M : Gm) : Option (Int32 × Gm) := L_bind_F x0 x1 x2 x3 x4 M
theorem L_bind_F_ok {w : Gw} {d : Nat} {x0 : Nat} {x1 : Int32} {x2 : Int32} {x3 : Int32} {x4 : Nat} {M : Gm} {out : Int32 × Gm} (h : L_bind_F x0 x1 x2 x3 x4 M = some out) : Wp w mdL_bind (d + 8) 0 [some (.inr x0), some (.inl x1), some (.inl x2), some (.inl x3), some (.inr x4), none] [] M (.inl (some (.inl out.1))) out.2 := by
  unfold L_bind_F at h
  refine wp_aload dL_bind_0 rfl ?_
  refine wp_iconst (v := 0) dL_bind_2 (by decide) ?_
  refine wp_aload_n dL_bind_3 rfl ?_
  refine wp_iload_n dL_bind_4 rfl ?_
  refine wp_iload_n dL_bind_5 rfl ?_
  refine wp_iload_n dL_bind_6 rfl ?_
  obtain ⟨q1, e2, h⟩ := bnd h
  cases q1 with
  | inl u3 =>
    replace h := elim_l h
    refine wp_callV (As := [.inl x1, .inl x2, .inl x3]) dL_bind_7 (sh_X11_bind_ok (d := d) e2) okX11_bind nnX11_bind vvX11_bind ml_RL_30 rfl (Nat.le_of_ble_eq_true rfl) ?_
    obtain ⟨M5, e6, h⟩ := bnd h
    refine wp_lastI dL_bind_10 dL_bind_11 e6 ?_
    refine wp_goto (tgt := 19) dL_bind_12 (by decide) ?_
    refine wp_iconst (v := 0) dL_bind_19 (by decide) ?_
    cases h
    exact wp_iret dL_bind_20 rfl
  | inr u4 =>
    replace h := elim_r h
    by_cases cx0 : u4.1 = 1
    · replace h := ite_t cx0 h
      have E_ := sh_X11_bind_ok (w := w) (d := d) e2
      rw [show xoI (.inr u4) = .inr eNSE by (obtain ⟨z1, z2⟩ := u4; cases cx0; rfl)] at E_
      refine wp_callVc (As := [.inl x1, .inl x2, .inl x3]) dL_bind_7 E_ okX11_bind nnX11_bind vvX11_bind ml_RL_30 rfl (Nat.le_of_ble_eq_true rfl) [] (0, 12, 15, 18) [] rfl (by decide) (by decide) cl_RL_18 ca_NSE (fun _ z hz => nomatch hz) (j := 5) (Or.inr ⟨dL_bind_15, rfl⟩) (Nat.le_of_ble_eq_true rfl) ?_
      refine wp_iconst (v := 1) dL_bind_17 (by decide) ?_
      cases h
      exact wp_iret dL_bind_18 rfl
    replace h := ite_f cx0 h
    cases h

theorem sh_L_bind_ok {w : Gw} {d : Nat} {x0 : Nat} {x1 : Int32} {x2 : Int32} {x3 : Int32} {x4 : Nat} {M : Gm} {out : Int32 × Gm} (h : sh_L_bind x0 x1 x2 x3 x4 M = some out) : EvH w mdL_bind (d + 8) [.inr x0, .inl x1, .inl x2, .inl x3, .inr x4] M (some (.inl out.1)) out.2 := ev_ofH okL_bind (Nat.le_of_ble_eq_true rfl) (L_bind_F_ok h)
/-! HeatGovernorLaw.log(LHeatGovernor;II[J)I -/
def L_log_F (x0 : Nat) (x1 : Int32) (x2 : Int32) (x3 : Nat) (M : Gm) : Option (Int32 × Gm) :=
  (sh_X11_log x0 x1 x2 M).bind fun q1 =>
  Sum.elim (fun u3 =>
    (stA M 3 x3 0 u3).bind fun M5 =>
    some (0, M5)) (fun u4 =>
      if u4.1 = 1 then
      some (1, u4.2)
      else none) q1
def sh_L_log (x0 : Nat) (x1 : Int32) (x2 : Int32) (x3 : Nat) (M : Gm) : Option (Int32 × Gm) := L_log_F x0 x1 x2 x3 M
theorem L_log_F_ok {w : Gw} {d : Nat} {x0 : Nat} {x1 : Int32} {x2 : Int32} {x3 : Nat} {M : Gm} {out : Int32 × Gm} (h : L_log_F x0 x1 x2 x3 M = some out) : Wp w mdL_log (d + 8) 0 [some (.inr x0), some (.inl x1), some (.inl x2), some (.inr x3), none] [] M (.inl (some (.inl out.1))) out.2 := by
  unfold L_log_F at h
  refine wp_aload_n dL_log_0 rfl ?_
  refine wp_iconst (v := 0) dL_log_1 (by decide) ?_
  refine wp_aload_n dL_log_2 rfl ?_
  refine wp_iload_n dL_log_3 rfl ?_
  refine wp_iload_n dL_log_4 rfl ?_
  obtain ⟨q1, e2, h⟩ := bnd h
  cases q1 with
  | inl u3 =>
    replace h := elim_l h
    refine wp_callV (As := [.inl x1, .inl x2]) dL_log_5 (sh_X11_log_ok (d := d) e2) okX11_log nnX11_log vvX11_log ml_RL_34 rfl (Nat.le_of_ble_eq_true rfl) ?_
    obtain ⟨M5, e6, h⟩ := bnd h
    refine wp_lastI dL_log_8 dL_log_9 e6 ?_
    refine wp_goto (tgt := 17) dL_log_10 (by decide) ?_
    refine wp_iconst (v := 0) dL_log_17 (by decide) ?_
    cases h
    exact wp_iret dL_log_18 rfl
  | inr u4 =>
    replace h := elim_r h
    by_cases cx0 : u4.1 = 1
    · replace h := ite_t cx0 h
      have E_ := sh_X11_log_ok (w := w) (d := d) e2
      rw [show xoI (.inr u4) = .inr eNSE by (obtain ⟨z1, z2⟩ := u4; cases cx0; rfl)] at E_
      refine wp_callVc (As := [.inl x1, .inl x2]) dL_log_5 E_ okX11_log nnX11_log vvX11_log ml_RL_34 rfl (Nat.le_of_ble_eq_true rfl) [] (0, 10, 13, 18) [] rfl (by decide) (by decide) cl_RL_18 ca_NSE (fun _ z hz => nomatch hz) (j := 4) (Or.inr ⟨dL_log_13, rfl⟩) (Nat.le_of_ble_eq_true rfl) ?_
      refine wp_iconst (v := 1) dL_log_15 (by decide) ?_
      cases h
      exact wp_iret dL_log_16 rfl
    replace h := ite_f cx0 h
    cases h

theorem sh_L_log_ok {w : Gw} {d : Nat} {x0 : Nat} {x1 : Int32} {x2 : Int32} {x3 : Nat} {M : Gm} {out : Int32 × Gm} (h : sh_L_log x0 x1 x2 x3 M = some out) : EvH w mdL_log (d + 8) [.inr x0, .inl x1, .inl x2, .inr x3] M (some (.inl out.1)) out.2 := ev_ofH okL_log (Nat.le_of_ble_eq_true rfl) (L_log_F_ok h)
/-! HeatGovernorLaw.ahead(LHeatGovernor;III[J)I -/
def L_ahead_F (x0 : Nat) (x1 : Int32) (x2 : Int32) (x3 : Int32) (x4 : Nat) (M : Gm) : Option (Int32 × Gm) :=
  (sh_X11_ahead x0 x1 x2 x3 M).bind fun q1 =>
  Sum.elim (fun u3 =>
    (stA u3.2 3 x4 0 u3.1).bind fun M5 =>
    some (0, M5)) (fun u4 =>
      if u4.1 = 1 then
      some (1, u4.2)
      else if u4.1 = 2 then
      some (2, u4.2)
      else none) q1
def sh_L_ahead (x0 : Nat) (x1 : Int32) (x2 : Int32) (x3 : Int32) (x4 : Nat) (M : Gm) : Option (Int32 × Gm) := L_ahead_F x0 x1 x2 x3 x4 M
theorem L_ahead_F_ok {w : Gw} {d : Nat} {x0 : Nat} {x1 : Int32} {x2 : Int32} {x3 : Int32} {x4 : Nat} {M : Gm} {out : Int32 × Gm} (h : L_ahead_F x0 x1 x2 x3 x4 M = some out) : Wp w mdL_ahead (d + 8) 0 [some (.inr x0), some (.inl x1), some (.inl x2), some (.inl x3), some (.inr x4), none] [] M (.inl (some (.inl out.1))) out.2 := by
  unfold L_ahead_F at h
  refine wp_aload dL_ahead_0 rfl ?_
  refine wp_iconst (v := 0) dL_ahead_2 (by decide) ?_
  refine wp_aload_n dL_ahead_3 rfl ?_
  refine wp_iload_n dL_ahead_4 rfl ?_
  refine wp_iload_n dL_ahead_5 rfl ?_
  refine wp_iload_n dL_ahead_6 rfl ?_
  obtain ⟨q1, e2, h⟩ := bnd h
  cases q1 with
  | inl u3 =>
    replace h := elim_l h
    refine wp_callV (As := [.inl x1, .inl x2, .inl x3]) dL_ahead_7 (sh_X11_ahead_ok (d := d) e2) okX11_ahead nnX11_ahead vvX11_ahead ml_RL_37 rfl (Nat.le_of_ble_eq_true rfl) ?_
    obtain ⟨M5, e6, h⟩ := bnd h
    refine wp_lastI dL_ahead_10 dL_ahead_11 e6 ?_
    refine wp_goto (tgt := 23) dL_ahead_12 (by decide) ?_
    refine wp_iconst (v := 0) dL_ahead_23 (by decide) ?_
    cases h
    exact wp_iret dL_ahead_24 rfl
  | inr u4 =>
    replace h := elim_r h
    by_cases cx0 : u4.1 = 1
    · replace h := ite_t cx0 h
      have E_ := sh_X11_ahead_ok (w := w) (d := d) e2
      rw [show xoP (.inr u4) = .inr eNSE by (obtain ⟨z1, z2⟩ := u4; cases cx0; rfl)] at E_
      refine wp_callVc (As := [.inl x1, .inl x2, .inl x3]) dL_ahead_7 E_ okX11_ahead nnX11_ahead vvX11_ahead ml_RL_37 rfl (Nat.le_of_ble_eq_true rfl) [] (0, 12, 15, 18) [(0, 12, 19, 13)] rfl (by decide) (by decide) cl_RL_18 ca_NSE (fun _ z hz => nomatch hz) (j := 5) (Or.inr ⟨dL_ahead_15, rfl⟩) (Nat.le_of_ble_eq_true rfl) ?_
      refine wp_iconst (v := 1) dL_ahead_17 (by decide) ?_
      cases h
      exact wp_iret dL_ahead_18 rfl
    replace h := ite_f cx0 h
    by_cases cx1 : u4.1 = 2
    · replace h := ite_t cx1 h
      have E_ := sh_X11_ahead_ok (w := w) (d := d) e2
      rw [show xoP (.inr u4) = .inr eIAE by (obtain ⟨z1, z2⟩ := u4; cases cx1; rfl)] at E_
      refine wp_callVc (As := [.inl x1, .inl x2, .inl x3]) dL_ahead_7 E_ okX11_ahead nnX11_ahead vvX11_ahead ml_RL_37 rfl (Nat.le_of_ble_eq_true rfl) [(0, 12, 15, 18)] (0, 12, 19, 13) [] rfl (by decide) (by decide) cl_RL_13 ca_IAE (fun hw z hz => by cases List.mem_singleton.mp hz; exact ⟨by decide, _, cl_RL_18, hw.2.2.2.2.2.2.2.2.1⟩) (j := 5) (Or.inr ⟨dL_ahead_19, rfl⟩) (Nat.le_of_ble_eq_true rfl) ?_
      refine wp_iconst (v := 2) dL_ahead_21 (by decide) ?_
      cases h
      exact wp_iret dL_ahead_22 rfl
    replace h := ite_f cx1 h
    cases h

theorem sh_L_ahead_ok {w : Gw} {d : Nat} {x0 : Nat} {x1 : Int32} {x2 : Int32} {x3 : Int32} {x4 : Nat} {M : Gm} {out : Int32 × Gm} (h : sh_L_ahead x0 x1 x2 x3 x4 M = some out) : EvH w mdL_ahead (d + 8) [.inr x0, .inl x1, .inl x2, .inl x3, .inr x4] M (some (.inl out.1)) out.2 := ev_ofH okL_ahead (Nat.le_of_ble_eq_true rfl) (L_ahead_F_ok h)
/-! HeatGovernorLaw.bears(LHeatGovernor;III[J)I -/
def L_bears_F (x0 : Nat) (x1 : Int32) (x2 : Int32) (x3 : Int32) (x4 : Nat) (M : Gm) : Option (Int32 × Gm) :=
  (sh_X11_bears x0 x1 x2 x3 M).bind fun q1 =>
  Sum.elim (fun u3 =>
    (stA u3.2 3 x4 0 u3.1).bind fun M5 =>
    some (0, M5)) (fun u4 =>
      if u4.1 = 1 then
      some (1, u4.2)
      else if u4.1 = 2 then
      some (2, u4.2)
      else none) q1
def sh_L_bears (x0 : Nat) (x1 : Int32) (x2 : Int32) (x3 : Int32) (x4 : Nat) (M : Gm) : Option (Int32 × Gm) := L_bears_F x0 x1 x2 x3 x4 M
theorem L_bears_F_ok {w : Gw} {d : Nat} {x0 : Nat} {x1 : Int32} {x2 : Int32} {x3 : Int32} {x4 : Nat} {M : Gm} {out : Int32 × Gm} (h : L_bears_F x0 x1 x2 x3 x4 M = some out) : Wp w mdL_bears (d + 8) 0 [some (.inr x0), some (.inl x1), some (.inl x2), some (.inl x3), some (.inr x4), none] [] M (.inl (some (.inl out.1))) out.2 := by
  unfold L_bears_F at h
  refine wp_aload dL_bears_0 rfl ?_
  refine wp_iconst (v := 0) dL_bears_2 (by decide) ?_
  refine wp_aload_n dL_bears_3 rfl ?_
  refine wp_iload_n dL_bears_4 rfl ?_
  refine wp_iload_n dL_bears_5 rfl ?_
  refine wp_iload_n dL_bears_6 rfl ?_
  obtain ⟨q1, e2, h⟩ := bnd h
  cases q1 with
  | inl u3 =>
    replace h := elim_l h
    refine wp_callV (As := [.inl x1, .inl x2, .inl x3]) dL_bears_7 (sh_X11_bears_ok (d := d) e2) okX11_bears nnX11_bears vvX11_bears ml_RL_40 rfl (Nat.le_of_ble_eq_true rfl) ?_
    obtain ⟨M5, e6, h⟩ := bnd h
    refine wp_lastI dL_bears_10 dL_bears_11 e6 ?_
    refine wp_goto (tgt := 23) dL_bears_12 (by decide) ?_
    refine wp_iconst (v := 0) dL_bears_23 (by decide) ?_
    cases h
    exact wp_iret dL_bears_24 rfl
  | inr u4 =>
    replace h := elim_r h
    by_cases cx0 : u4.1 = 1
    · replace h := ite_t cx0 h
      have E_ := sh_X11_bears_ok (w := w) (d := d) e2
      rw [show xoP (.inr u4) = .inr eNSE by (obtain ⟨z1, z2⟩ := u4; cases cx0; rfl)] at E_
      refine wp_callVc (As := [.inl x1, .inl x2, .inl x3]) dL_bears_7 E_ okX11_bears nnX11_bears vvX11_bears ml_RL_40 rfl (Nat.le_of_ble_eq_true rfl) [] (0, 12, 15, 18) [(0, 12, 19, 13)] rfl (by decide) (by decide) cl_RL_18 ca_NSE (fun _ z hz => nomatch hz) (j := 5) (Or.inr ⟨dL_bears_15, rfl⟩) (Nat.le_of_ble_eq_true rfl) ?_
      refine wp_iconst (v := 1) dL_bears_17 (by decide) ?_
      cases h
      exact wp_iret dL_bears_18 rfl
    replace h := ite_f cx0 h
    by_cases cx1 : u4.1 = 2
    · replace h := ite_t cx1 h
      have E_ := sh_X11_bears_ok (w := w) (d := d) e2
      rw [show xoP (.inr u4) = .inr eIAE by (obtain ⟨z1, z2⟩ := u4; cases cx1; rfl)] at E_
      refine wp_callVc (As := [.inl x1, .inl x2, .inl x3]) dL_bears_7 E_ okX11_bears nnX11_bears vvX11_bears ml_RL_40 rfl (Nat.le_of_ble_eq_true rfl) [(0, 12, 15, 18)] (0, 12, 19, 13) [] rfl (by decide) (by decide) cl_RL_13 ca_IAE (fun hw z hz => by cases List.mem_singleton.mp hz; exact ⟨by decide, _, cl_RL_18, hw.2.2.2.2.2.2.2.2.1⟩) (j := 5) (Or.inr ⟨dL_bears_19, rfl⟩) (Nat.le_of_ble_eq_true rfl) ?_
      refine wp_iconst (v := 2) dL_bears_21 (by decide) ?_
      cases h
      exact wp_iret dL_bears_22 rfl
    replace h := ite_f cx1 h
    cases h

theorem sh_L_bears_ok {w : Gw} {d : Nat} {x0 : Nat} {x1 : Int32} {x2 : Int32} {x3 : Int32} {x4 : Nat} {M : Gm} {out : Int32 × Gm} (h : sh_L_bears x0 x1 x2 x3 x4 M = some out) : EvH w mdL_bears (d + 8) [.inr x0, .inl x1, .inl x2, .inl x3, .inr x4] M (some (.inl out.1)) out.2 := ev_ofH okL_bears (Nat.le_of_ble_eq_true rfl) (L_bears_F_ok h)
/-! HeatGovernorLaw.flips(LHeatGovernor;II[J)I -/
def L_flips_F (x0 : Nat) (x1 : Int32) (x2 : Int32) (x3 : Nat) (M : Gm) : Option (Int32 × Gm) :=
  (sh_X11_flips x0 x1 x2 M).bind fun q1 =>
  Sum.elim (fun u3 =>
    (stA u3.2 3 x3 0 u3.1).bind fun M5 =>
    some (0, M5)) (fun u4 =>
      if u4.1 = 1 then
      some (1, u4.2)
      else if u4.1 = 2 then
      some (2, u4.2)
      else none) q1
def sh_L_flips (x0 : Nat) (x1 : Int32) (x2 : Int32) (x3 : Nat) (M : Gm) : Option (Int32 × Gm) := L_flips_F x0 x1 x2 x3 M
theorem L_flips_F_ok {w : Gw} {d : Nat} {x0 : Nat} {x1 : Int32} {x2 : Int32} {x3 : Nat} {M : Gm} {out : Int32 × Gm} (h : L_flips_F x0 x1 x2 x3 M = some out) : Wp w mdL_flips (d + 8) 0 [some (.inr x0), some (.inl x1), some (.inl x2), some (.inr x3), none] [] M (.inl (some (.inl out.1))) out.2 := by
  unfold L_flips_F at h
  refine wp_aload_n dL_flips_0 rfl ?_
  refine wp_iconst (v := 0) dL_flips_1 (by decide) ?_
  refine wp_aload_n dL_flips_2 rfl ?_
  refine wp_iload_n dL_flips_3 rfl ?_
  refine wp_iload_n dL_flips_4 rfl ?_
  obtain ⟨q1, e2, h⟩ := bnd h
  cases q1 with
  | inl u3 =>
    replace h := elim_l h
    refine wp_callV (As := [.inl x1, .inl x2]) dL_flips_5 (sh_X11_flips_ok (d := d) e2) okX11_flips nnX11_flips vvX11_flips ml_RL_43 rfl (Nat.le_of_ble_eq_true rfl) ?_
    obtain ⟨M5, e6, h⟩ := bnd h
    refine wp_lastI dL_flips_8 dL_flips_9 e6 ?_
    refine wp_goto (tgt := 21) dL_flips_10 (by decide) ?_
    refine wp_iconst (v := 0) dL_flips_21 (by decide) ?_
    cases h
    exact wp_iret dL_flips_22 rfl
  | inr u4 =>
    replace h := elim_r h
    by_cases cx0 : u4.1 = 1
    · replace h := ite_t cx0 h
      have E_ := sh_X11_flips_ok (w := w) (d := d) e2
      rw [show xoP (.inr u4) = .inr eNSE by (obtain ⟨z1, z2⟩ := u4; cases cx0; rfl)] at E_
      refine wp_callVc (As := [.inl x1, .inl x2]) dL_flips_5 E_ okX11_flips nnX11_flips vvX11_flips ml_RL_43 rfl (Nat.le_of_ble_eq_true rfl) [] (0, 10, 13, 18) [(0, 10, 17, 13)] rfl (by decide) (by decide) cl_RL_18 ca_NSE (fun _ z hz => nomatch hz) (j := 4) (Or.inr ⟨dL_flips_13, rfl⟩) (Nat.le_of_ble_eq_true rfl) ?_
      refine wp_iconst (v := 1) dL_flips_15 (by decide) ?_
      cases h
      exact wp_iret dL_flips_16 rfl
    replace h := ite_f cx0 h
    by_cases cx1 : u4.1 = 2
    · replace h := ite_t cx1 h
      have E_ := sh_X11_flips_ok (w := w) (d := d) e2
      rw [show xoP (.inr u4) = .inr eIAE by (obtain ⟨z1, z2⟩ := u4; cases cx1; rfl)] at E_
      refine wp_callVc (As := [.inl x1, .inl x2]) dL_flips_5 E_ okX11_flips nnX11_flips vvX11_flips ml_RL_43 rfl (Nat.le_of_ble_eq_true rfl) [(0, 10, 13, 18)] (0, 10, 17, 13) [] rfl (by decide) (by decide) cl_RL_13 ca_IAE (fun hw z hz => by cases List.mem_singleton.mp hz; exact ⟨by decide, _, cl_RL_18, hw.2.2.2.2.2.2.2.2.1⟩) (j := 4) (Or.inr ⟨dL_flips_17, rfl⟩) (Nat.le_of_ble_eq_true rfl) ?_
      refine wp_iconst (v := 2) dL_flips_19 (by decide) ?_
      cases h
      exact wp_iret dL_flips_20 rfl
    replace h := ite_f cx1 h
    cases h

theorem sh_L_flips_ok {w : Gw} {d : Nat} {x0 : Nat} {x1 : Int32} {x2 : Int32} {x3 : Nat} {M : Gm} {out : Int32 × Gm} (h : sh_L_flips x0 x1 x2 x3 M = some out) : EvH w mdL_flips (d + 8) [.inr x0, .inl x1, .inl x2, .inr x3] M (some (.inl out.1)) out.2 := ev_ofH okL_flips (Nat.le_of_ble_eq_true rfl) (L_flips_F_ok h)
/-! HeatGovernorLaw.fits(LHeatGovernor;II[J)I -/
def L_fits_F (x0 : Nat) (x1 : Int32) (x2 : Int32) (x3 : Nat) (M : Gm) : Option (Int32 × Gm) :=
  (sh_X11_fits x0 x1 x2 M).bind fun q1 =>
  Sum.elim (fun u3 =>
    (stA u3.2 3 x3 0 u3.1).bind fun M5 =>
    some (0, M5)) (fun u4 =>
      if u4.1 = 1 then
      some (1, u4.2)
      else none) q1
def sh_L_fits (x0 : Nat) (x1 : Int32) (x2 : Int32) (x3 : Nat) (M : Gm) : Option (Int32 × Gm) := L_fits_F x0 x1 x2 x3 M
theorem L_fits_F_ok {w : Gw} {d : Nat} {x0 : Nat} {x1 : Int32} {x2 : Int32} {x3 : Nat} {M : Gm} {out : Int32 × Gm} (h : L_fits_F x0 x1 x2 x3 M = some out) : Wp w mdL_fits (d + 8) 0 [some (.inr x0), some (.inl x1), some (.inl x2), some (.inr x3), none] [] M (.inl (some (.inl out.1))) out.2 := by
  unfold L_fits_F at h
  refine wp_aload_n dL_fits_0 rfl ?_
  refine wp_iconst (v := 0) dL_fits_1 (by decide) ?_
  refine wp_aload_n dL_fits_2 rfl ?_
  refine wp_iload_n dL_fits_3 rfl ?_
  refine wp_iload_n dL_fits_4 rfl ?_
  obtain ⟨q1, e2, h⟩ := bnd h
  cases q1 with
  | inl u3 =>
    replace h := elim_l h
    refine wp_callV (As := [.inl x1, .inl x2]) dL_fits_5 (sh_X11_fits_ok (d := d) e2) okX11_fits nnX11_fits vvX11_fits ml_RL_46 rfl (Nat.le_of_ble_eq_true rfl) ?_
    obtain ⟨M5, e6, h⟩ := bnd h
    refine wp_lastI dL_fits_8 dL_fits_9 e6 ?_
    refine wp_goto (tgt := 17) dL_fits_10 (by decide) ?_
    refine wp_iconst (v := 0) dL_fits_17 (by decide) ?_
    cases h
    exact wp_iret dL_fits_18 rfl
  | inr u4 =>
    replace h := elim_r h
    by_cases cx0 : u4.1 = 1
    · replace h := ite_t cx0 h
      have E_ := sh_X11_fits_ok (w := w) (d := d) e2
      rw [show xoP (.inr u4) = .inr eNSE by (obtain ⟨z1, z2⟩ := u4; cases cx0; rfl)] at E_
      refine wp_callVc (As := [.inl x1, .inl x2]) dL_fits_5 E_ okX11_fits nnX11_fits vvX11_fits ml_RL_46 rfl (Nat.le_of_ble_eq_true rfl) [] (0, 10, 13, 18) [] rfl (by decide) (by decide) cl_RL_18 ca_NSE (fun _ z hz => nomatch hz) (j := 4) (Or.inr ⟨dL_fits_13, rfl⟩) (Nat.le_of_ble_eq_true rfl) ?_
      refine wp_iconst (v := 1) dL_fits_15 (by decide) ?_
      cases h
      exact wp_iret dL_fits_16 rfl
    replace h := ite_f cx0 h
    cases h

theorem sh_L_fits_ok {w : Gw} {d : Nat} {x0 : Nat} {x1 : Int32} {x2 : Int32} {x3 : Nat} {M : Gm} {out : Int32 × Gm} (h : sh_L_fits x0 x1 x2 x3 M = some out) : EvH w mdL_fits (d + 8) [.inr x0, .inl x1, .inl x2, .inr x3] M (some (.inl out.1)) out.2 := ev_ofH okL_fits (Nat.le_of_ble_eq_true rfl) (L_fits_F_ok h)
/-! HeatGovernorLaw.look(LHeatGovernor;II[J)I -/
def L_look_F (x0 : Nat) (x1 : Int32) (x2 : Int32) (x3 : Nat) (M : Gm) : Option (Int32 × Gm) :=
  (sh_X11_look x0 x1 x2 M).bind fun q1 =>
  Sum.elim (fun u3 =>
    (stA u3.2 3 x3 0 u3.1).bind fun M5 =>
    some (0, M5)) (fun u4 =>
      if u4.1 = 1 then
      some (1, u4.2)
      else none) q1
def sh_L_look (x0 : Nat) (x1 : Int32) (x2 : Int32) (x3 : Nat) (M : Gm) : Option (Int32 × Gm) := L_look_F x0 x1 x2 x3 M
theorem L_look_F_ok {w : Gw} {d : Nat} {x0 : Nat} {x1 : Int32} {x2 : Int32} {x3 : Nat} {M : Gm} {out : Int32 × Gm} (h : L_look_F x0 x1 x2 x3 M = some out) : Wp w mdL_look (d + 8) 0 [some (.inr x0), some (.inl x1), some (.inl x2), some (.inr x3), none] [] M (.inl (some (.inl out.1))) out.2 := by
  unfold L_look_F at h
  refine wp_aload_n dL_look_0 rfl ?_
  refine wp_iconst (v := 0) dL_look_1 (by decide) ?_
  refine wp_aload_n dL_look_2 rfl ?_
  refine wp_iload_n dL_look_3 rfl ?_
  refine wp_iload_n dL_look_4 rfl ?_
  obtain ⟨q1, e2, h⟩ := bnd h
  cases q1 with
  | inl u3 =>
    replace h := elim_l h
    refine wp_callV (As := [.inl x1, .inl x2]) dL_look_5 (sh_X11_look_ok (d := d) e2) okX11_look nnX11_look vvX11_look ml_RL_49 rfl (Nat.le_of_ble_eq_true rfl) ?_
    obtain ⟨M5, e6, h⟩ := bnd h
    refine wp_lastI dL_look_8 dL_look_9 e6 ?_
    refine wp_goto (tgt := 17) dL_look_10 (by decide) ?_
    refine wp_iconst (v := 0) dL_look_17 (by decide) ?_
    cases h
    exact wp_iret dL_look_18 rfl
  | inr u4 =>
    replace h := elim_r h
    by_cases cx0 : u4.1 = 1
    · replace h := ite_t cx0 h
      have E_ := sh_X11_look_ok (w := w) (d := d) e2
      rw [show xoP (.inr u4) = .inr eNSE by (obtain ⟨z1, z2⟩ := u4; cases cx0; rfl)] at E_
      refine wp_callVc (As := [.inl x1, .inl x2]) dL_look_5 E_ okX11_look nnX11_look vvX11_look ml_RL_49 rfl (Nat.le_of_ble_eq_true rfl) [] (0, 10, 13, 18) [] rfl (by decide) (by decide) cl_RL_18 ca_NSE (fun _ z hz => nomatch hz) (j := 4) (Or.inr ⟨dL_look_13, rfl⟩) (Nat.le_of_ble_eq_true rfl) ?_
      refine wp_iconst (v := 1) dL_look_15 (by decide) ?_
      cases h
      exact wp_iret dL_look_16 rfl
    replace h := ite_f cx0 h
    cases h

theorem sh_L_look_ok {w : Gw} {d : Nat} {x0 : Nat} {x1 : Int32} {x2 : Int32} {x3 : Nat} {M : Gm} {out : Int32 × Gm} (h : sh_L_look x0 x1 x2 x3 M = some out) : EvH w mdL_look (d + 8) [.inr x0, .inl x1, .inl x2, .inr x3] M (some (.inl out.1)) out.2 := ev_ofH okL_look (Nat.le_of_ble_eq_true rfl) (L_look_F_ok h)
/-! HeatGovernorLaw.years(LHeatGovernor;III[J)I -/
def L_years_F (x0 : Nat) (x1 : Int32) (x2 : Int32) (x3 : Int32) (x4 : Nat) (M : Gm) : Option (Int32 × Gm) :=
  (sh_X11_years x0 x1 x2 x3 M).bind fun q1 =>
  Sum.elim (fun u3 =>
    (stA u3.2 3 x4 0 u3.1).bind fun M5 =>
    some (0, M5)) (fun u4 =>
      if u4.1 = 1 then
      some (1, u4.2)
      else if u4.1 = 2 then
      some (2, u4.2)
      else none) q1
def sh_L_years (x0 : Nat) (x1 : Int32) (x2 : Int32) (x3 : Int32) (x4 : Nat) (M : Gm) : Option (Int32 × Gm) := L_years_F x0 x1 x2 x3 x4 M
theorem L_years_F_ok {w : Gw} {d : Nat} {x0 : Nat} {x1 : Int32} {x2 : Int32} {x3 : Int32} {x4 : Nat} {M : Gm} {out : Int32 × Gm} (h : L_years_F x0 x1 x2 x3 x4 M = some out) : Wp w mdL_years (d + 8) 0 [some (.inr x0), some (.inl x1), some (.inl x2), some (.inl x3), some (.inr x4), none] [] M (.inl (some (.inl out.1))) out.2 := by
  unfold L_years_F at h
  refine wp_aload dL_years_0 rfl ?_
  refine wp_iconst (v := 0) dL_years_2 (by decide) ?_
  refine wp_aload_n dL_years_3 rfl ?_
  refine wp_iload_n dL_years_4 rfl ?_
  refine wp_iload_n dL_years_5 rfl ?_
  refine wp_iload_n dL_years_6 rfl ?_
  obtain ⟨q1, e2, h⟩ := bnd h
  cases q1 with
  | inl u3 =>
    replace h := elim_l h
    refine wp_callV (As := [.inl x1, .inl x2, .inl x3]) dL_years_7 (sh_X11_years_ok (d := d) e2) okX11_years nnX11_years vvX11_years ml_RL_52 rfl (Nat.le_of_ble_eq_true rfl) ?_
    obtain ⟨M5, e6, h⟩ := bnd h
    refine wp_lastI dL_years_10 dL_years_11 e6 ?_
    refine wp_goto (tgt := 23) dL_years_12 (by decide) ?_
    refine wp_iconst (v := 0) dL_years_23 (by decide) ?_
    cases h
    exact wp_iret dL_years_24 rfl
  | inr u4 =>
    replace h := elim_r h
    by_cases cx0 : u4.1 = 1
    · replace h := ite_t cx0 h
      have E_ := sh_X11_years_ok (w := w) (d := d) e2
      rw [show xoP (.inr u4) = .inr eNSE by (obtain ⟨z1, z2⟩ := u4; cases cx0; rfl)] at E_
      refine wp_callVc (As := [.inl x1, .inl x2, .inl x3]) dL_years_7 E_ okX11_years nnX11_years vvX11_years ml_RL_52 rfl (Nat.le_of_ble_eq_true rfl) [] (0, 12, 15, 18) [(0, 12, 19, 13)] rfl (by decide) (by decide) cl_RL_18 ca_NSE (fun _ z hz => nomatch hz) (j := 5) (Or.inr ⟨dL_years_15, rfl⟩) (Nat.le_of_ble_eq_true rfl) ?_
      refine wp_iconst (v := 1) dL_years_17 (by decide) ?_
      cases h
      exact wp_iret dL_years_18 rfl
    replace h := ite_f cx0 h
    by_cases cx1 : u4.1 = 2
    · replace h := ite_t cx1 h
      have E_ := sh_X11_years_ok (w := w) (d := d) e2
      rw [show xoP (.inr u4) = .inr eIAE by (obtain ⟨z1, z2⟩ := u4; cases cx1; rfl)] at E_
      refine wp_callVc (As := [.inl x1, .inl x2, .inl x3]) dL_years_7 E_ okX11_years nnX11_years vvX11_years ml_RL_52 rfl (Nat.le_of_ble_eq_true rfl) [(0, 12, 15, 18)] (0, 12, 19, 13) [] rfl (by decide) (by decide) cl_RL_13 ca_IAE (fun hw z hz => by cases List.mem_singleton.mp hz; exact ⟨by decide, _, cl_RL_18, hw.2.2.2.2.2.2.2.2.1⟩) (j := 5) (Or.inr ⟨dL_years_19, rfl⟩) (Nat.le_of_ble_eq_true rfl) ?_
      refine wp_iconst (v := 2) dL_years_21 (by decide) ?_
      cases h
      exact wp_iret dL_years_22 rfl
    replace h := ite_f cx1 h
    cases h

theorem sh_L_years_ok {w : Gw} {d : Nat} {x0 : Nat} {x1 : Int32} {x2 : Int32} {x3 : Int32} {x4 : Nat} {M : Gm} {out : Int32 × Gm} (h : sh_L_years x0 x1 x2 x3 x4 M = some out) : EvH w mdL_years (d + 8) [.inr x0, .inl x1, .inl x2, .inl x3, .inr x4] M (some (.inl out.1)) out.2 := ev_ofH okL_years (Nat.le_of_ble_eq_true rfl) (L_years_F_ok h)
