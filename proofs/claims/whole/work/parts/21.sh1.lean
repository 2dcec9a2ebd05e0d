/-! HeatGovernor$Clock.<init>()V -/
def X1_init_F (x0 : Nat) (M : Gm) : Option (Gm) :=
  (mkA M 0 5).bind fun M1 =>
  (pfR M1 x0 1 0 M.2.2.length).bind fun M3 =>
  (mkA M3 0 4).bind fun M5 =>
  (pfR M5 x0 1 1 M3.2.2.length).bind fun M7 =>
  some M7
def sh_X1_init (x0 : Nat) (M : Gm) : Option (Gm) := (isO M x0 1).bind fun _ => X1_init_F x0 M
theorem X1_init_F_ok {w : Gw} {d : Nat} {x0 : Nat} {M : Gm} {out : Gm} (h0_ : M.2.2[x0]? = some (1, 0)) (h : X1_init_F x0 M = some out) : Wp w mdX1_init (d + 1) 0 [some (.inr x0)] [] M (.inl none) out := by
  unfold X1_init_F at h
  refine wp_aload_n dX1_init_0 rfl ?_
  refine wp_objInit dX1_init_1 h0_ (by decide) ml_RX1_3 oi_1 oi_2 (Nat.le_of_ble_eq_true rfl) ?_
  refine wp_aload_n dX1_init_4 rfl ?_
  refine wp_iconst (v := 5) dX1_init_5 (by decide) ?_
  obtain ⟨M1, e2, h⟩ := bnd h
  refine wp_newI dX1_init_6 e2 ac_int ?_
  obtain ⟨M3, e4, h⟩ := bnd h
  refine wp_putR (c := 1) (k := 0) dX1_init_8 e4 (by decide) (by decide) rfl fl_RX1_9 (Or.inr ⟨rfl, rfl⟩) ?_
  refine wp_aload_n dX1_init_11 rfl ?_
  refine wp_iconst (v := 4) dX1_init_12 (by decide) ?_
  obtain ⟨M5, e6, h⟩ := bnd h
  refine wp_newI dX1_init_13 e6 ac_int ?_
  obtain ⟨M7, e8, h⟩ := bnd h
  refine wp_putR (c := 1) (k := 1) dX1_init_15 e8 (by decide) (by decide) rfl fl_RX1_15 (Or.inr ⟨rfl, rfl⟩) ?_
  cases h
  exact wp_ret dX1_init_18 rfl

theorem sh_X1_init_ok {w : Gw} {d : Nat} {x0 : Nat} {M : Gm} {out : Gm} (h : sh_X1_init x0 M = some out) : Ev w mdX1_init (d + 1) [.inr x0] M (.inl none) out := by
  obtain ⟨u, e0, h⟩ := bnd h
  exact ev_of okX1_init ⟨_, _, rfl, isO_of e0 (by decide), by decide⟩ (Nat.le_of_ble_eq_true rfl) (X1_init_F_ok (isO_of e0 (by decide)) h)

/-! HeatGovernor$State.<init>(LHeatGovernor$Plan;)V -/
def X7_init_F (x0 : Nat) (x1 : Nat) (M : Gm) : Option (Gm) :=
  (pfI M x0 7 1 0).bind fun M1 =>
  (pfI M1 x0 7 2 0).bind fun M3 =>
  (mkA M3 0 5).bind fun M5 =>
  (pfR M5 x0 7 3 M3.2.2.length).bind fun M7 =>
  (mkA M7 0 5).bind fun M9 =>
  (pfR M9 x0 7 4 M7.2.2.length).bind fun M11 =>
  (mkA M11 0 5).bind fun M13 =>
  (pfR M13 x0 7 5 M11.2.2.length).bind fun M15 =>
  (mkA M15 0 5).bind fun M17 =>
  (pfR M17 x0 7 6 M15.2.2.length).bind fun M19 =>
  (mkA M19 0 5).bind fun M21 =>
  (pfR M21 x0 7 7 M19.2.2.length).bind fun M23 =>
  (mkA M23 0 5).bind fun M25 =>
  (pfR M25 x0 7 8 M23.2.2.length).bind fun M27 =>
  (mkA M27 0 20).bind fun M29 =>
  (pfR M29 x0 7 9 M27.2.2.length).bind fun M31 =>
  (mkA M31 0 10).bind fun M33 =>
  (pfR M33 x0 7 10 M31.2.2.length).bind fun M35 =>
  (mkA M35 0 10).bind fun M37 =>
  (pfR M37 x0 7 11 M35.2.2.length).bind fun M39 =>
  (mkA M39 0 6).bind fun M41 =>
  (pfR M41 x0 7 12 M39.2.2.length).bind fun M43 =>
  (mkA M43 0 6).bind fun M45 =>
  (pfR M45 x0 7 13 M43.2.2.length).bind fun M47 =>
  (mkA M47 0 6).bind fun M49 =>
  (pfR M49 x0 7 14 M47.2.2.length).bind fun M51 =>
  (mkA M51 0 60).bind fun M53 =>
  (pfR M53 x0 7 15 M51.2.2.length).bind fun M55 =>
  (mkA M55 0 160).bind fun M57 =>
  (pfR M57 x0 7 16 M55.2.2.length).bind fun M59 =>
  (pfI M59 x0 7 17 0).bind fun M61 =>
  (pfI M61 x0 7 18 0).bind fun M63 =>
  (pfI M63 x0 7 19 0).bind fun M65 =>
  (pfR M65 x0 7 0 x1).bind fun M67 =>
  some M67
def sh_X7_init (x0 : Nat) (x1 : Nat) (M : Gm) : Option (Gm) := (isO M x0 7).bind fun _ => X7_init_F x0 x1 M
theorem X7_init_F_ok {w : Gw} {d : Nat} {x0 : Nat} {x1 : Nat} {M : Gm} {out : Gm} (h0_ : M.2.2[x0]? = some (7, 0)) (h : X7_init_F x0 x1 M = some out) : Wp w mdX7_init (d + 1) 0 [some (.inr x0), some (.inr x1)] [] M (.inl none) out := by
  unfold X7_init_F at h
  refine wp_aload_n dX7_init_0 rfl ?_
  refine wp_objInit dX7_init_1 h0_ (by decide) ml_RX7_3 oi_1 oi_2 (Nat.le_of_ble_eq_true rfl) ?_
  refine wp_aload_n dX7_init_4 rfl ?_
  refine wp_iconst (v := 0) dX7_init_5 (by decide) ?_
  obtain ⟨M1, e2, h⟩ := bnd h
  refine wp_putI (c := 7) (k := 1) dX7_init_6 e2 (by decide) (by decide) rfl fl_RX7_9 (Or.inl rfl) ?_
  refine wp_aload_n dX7_init_9 rfl ?_
  refine wp_iconst (v := 0) dX7_init_10 (by decide) ?_
  obtain ⟨M3, e4, h⟩ := bnd h
  refine wp_putI (c := 7) (k := 2) dX7_init_11 e4 (by decide) (by decide) rfl fl_RX7_15 (Or.inl rfl) ?_
  refine wp_aload_n dX7_init_14 rfl ?_
  refine wp_iconst (v := 5) dX7_init_15 (by decide) ?_
  obtain ⟨M5, e6, h⟩ := bnd h
  refine wp_newI dX7_init_16 e6 ac_int ?_
  obtain ⟨M7, e8, h⟩ := bnd h
  refine wp_putR (c := 7) (k := 3) dX7_init_18 e8 (by decide) (by decide) rfl fl_RX7_18 (Or.inr ⟨rfl, rfl⟩) ?_
  refine wp_aload_n dX7_init_21 rfl ?_
  refine wp_iconst (v := 5) dX7_init_22 (by decide) ?_
  obtain ⟨M9, e10, h⟩ := bnd h
  refine wp_newI dX7_init_23 e10 ac_int ?_
  obtain ⟨M11, e12, h⟩ := bnd h
  refine wp_putR (c := 7) (k := 4) dX7_init_25 e12 (by decide) (by decide) rfl fl_RX7_22 (Or.inr ⟨rfl, rfl⟩) ?_
  refine wp_aload_n dX7_init_28 rfl ?_
  refine wp_iconst (v := 5) dX7_init_29 (by decide) ?_
  obtain ⟨M13, e14, h⟩ := bnd h
  refine wp_newI dX7_init_30 e14 ac_int ?_
  obtain ⟨M15, e16, h⟩ := bnd h
  refine wp_putR (c := 7) (k := 5) dX7_init_32 e16 (by decide) (by decide) rfl fl_RX7_25 (Or.inr ⟨rfl, rfl⟩) ?_
  refine wp_aload_n dX7_init_35 rfl ?_
  refine wp_iconst (v := 5) dX7_init_36 (by decide) ?_
  obtain ⟨M17, e18, h⟩ := bnd h
  refine wp_newI dX7_init_37 e18 ac_int ?_
  obtain ⟨M19, e20, h⟩ := bnd h
  refine wp_putR (c := 7) (k := 6) dX7_init_39 e20 (by decide) (by decide) rfl fl_RX7_28 (Or.inr ⟨rfl, rfl⟩) ?_
  refine wp_aload_n dX7_init_42 rfl ?_
  refine wp_iconst (v := 5) dX7_init_43 (by decide) ?_
  obtain ⟨M21, e22, h⟩ := bnd h
  refine wp_newI dX7_init_44 e22 ac_int ?_
  obtain ⟨M23, e24, h⟩ := bnd h
  refine wp_putR (c := 7) (k := 7) dX7_init_46 e24 (by decide) (by decide) rfl fl_RX7_31 (Or.inr ⟨rfl, rfl⟩) ?_
  refine wp_aload_n dX7_init_49 rfl ?_
  refine wp_iconst (v := 5) dX7_init_50 (by decide) ?_
  obtain ⟨M25, e26, h⟩ := bnd h
  refine wp_newI dX7_init_51 e26 ac_int ?_
  obtain ⟨M27, e28, h⟩ := bnd h
  refine wp_putR (c := 7) (k := 8) dX7_init_53 e28 (by decide) (by decide) rfl fl_RX7_34 (Or.inr ⟨rfl, rfl⟩) ?_
  refine wp_aload_n dX7_init_56 rfl ?_
  refine wp_bipush (v := 20) dX7_init_57 (by decide) ?_
  obtain ⟨M29, e30, h⟩ := bnd h
  refine wp_newI dX7_init_59 e30 ac_int ?_
  obtain ⟨M31, e32, h⟩ := bnd h
  refine wp_putR (c := 7) (k := 9) dX7_init_61 e32 (by decide) (by decide) rfl fl_RX7_37 (Or.inr ⟨rfl, rfl⟩) ?_
  refine wp_aload_n dX7_init_64 rfl ?_
  refine wp_bipush (v := 10) dX7_init_65 (by decide) ?_
  obtain ⟨M33, e34, h⟩ := bnd h
  refine wp_newI dX7_init_67 e34 ac_int ?_
  obtain ⟨M35, e36, h⟩ := bnd h
  refine wp_putR (c := 7) (k := 10) dX7_init_69 e36 (by decide) (by decide) rfl fl_RX7_40 (Or.inr ⟨rfl, rfl⟩) ?_
  refine wp_aload_n dX7_init_72 rfl ?_
  refine wp_bipush (v := 10) dX7_init_73 (by decide) ?_
  obtain ⟨M37, e38, h⟩ := bnd h
  refine wp_newI dX7_init_75 e38 ac_int ?_
  obtain ⟨M39, e40, h⟩ := bnd h
  refine wp_putR (c := 7) (k := 11) dX7_init_77 e40 (by decide) (by decide) rfl fl_RX7_43 (Or.inr ⟨rfl, rfl⟩) ?_
  refine wp_aload_n dX7_init_80 rfl ?_
  refine wp_bipush (v := 6) dX7_init_81 (by decide) ?_
  obtain ⟨M41, e42, h⟩ := bnd h
  refine wp_newI dX7_init_83 e42 ac_int ?_
  obtain ⟨M43, e44, h⟩ := bnd h
  refine wp_putR (c := 7) (k := 12) dX7_init_85 e44 (by decide) (by decide) rfl fl_RX7_46 (Or.inr ⟨rfl, rfl⟩) ?_
  refine wp_aload_n dX7_init_88 rfl ?_
  refine wp_bipush (v := 6) dX7_init_89 (by decide) ?_
  obtain ⟨M45, e46, h⟩ := bnd h
  refine wp_newI dX7_init_91 e46 ac_int ?_
  obtain ⟨M47, e48, h⟩ := bnd h
  refine wp_putR (c := 7) (k := 13) dX7_init_93 e48 (by decide) (by decide) rfl fl_RX7_49 (Or.inr ⟨rfl, rfl⟩) ?_
  refine wp_aload_n dX7_init_96 rfl ?_
  refine wp_bipush (v := 6) dX7_init_97 (by decide) ?_
  obtain ⟨M49, e50, h⟩ := bnd h
  refine wp_newI dX7_init_99 e50 ac_int ?_
  obtain ⟨M51, e52, h⟩ := bnd h
  refine wp_putR (c := 7) (k := 14) dX7_init_101 e52 (by decide) (by decide) rfl fl_RX7_52 (Or.inr ⟨rfl, rfl⟩) ?_
  refine wp_aload_n dX7_init_104 rfl ?_
  refine wp_bipush (v := 60) dX7_init_105 (by decide) ?_
  obtain ⟨M53, e54, h⟩ := bnd h
  refine wp_newI dX7_init_107 e54 ac_int ?_
  obtain ⟨M55, e56, h⟩ := bnd h
  refine wp_putR (c := 7) (k := 15) dX7_init_109 e56 (by decide) (by decide) rfl fl_RX7_55 (Or.inr ⟨rfl, rfl⟩) ?_
  refine wp_aload_n dX7_init_112 rfl ?_
  refine wp_sipush (v := 160) dX7_init_113 (by decide) ?_
  obtain ⟨M57, e58, h⟩ := bnd h
  refine wp_newI dX7_init_116 e58 ac_int ?_
  obtain ⟨M59, e60, h⟩ := bnd h
  refine wp_putR (c := 7) (k := 16) dX7_init_118 e60 (by decide) (by decide) rfl fl_RX7_58 (Or.inr ⟨rfl, rfl⟩) ?_
  refine wp_aload_n dX7_init_121 rfl ?_
  refine wp_iconst (v := 0) dX7_init_122 (by decide) ?_
  obtain ⟨M61, e62, h⟩ := bnd h
  refine wp_putI (c := 7) (k := 17) dX7_init_123 e62 (by decide) (by decide) rfl fl_RX7_61 (Or.inl rfl) ?_
  refine wp_aload_n dX7_init_126 rfl ?_
  refine wp_iconst (v := 0) dX7_init_127 (by decide) ?_
  obtain ⟨M63, e64, h⟩ := bnd h
  refine wp_putI (c := 7) (k := 18) dX7_init_128 e64 (by decide) (by decide) rfl fl_RX7_64 (Or.inl rfl) ?_
  refine wp_aload_n dX7_init_131 rfl ?_
  refine wp_iconst (v := 0) dX7_init_132 (by decide) ?_
  obtain ⟨M65, e66, h⟩ := bnd h
  refine wp_putI (c := 7) (k := 19) dX7_init_133 e66 (by decide) (by decide) rfl fl_RX7_67 (Or.inl rfl) ?_
  refine wp_aload_n dX7_init_136 rfl ?_
  refine wp_aload_n dX7_init_137 rfl ?_
  obtain ⟨M67, e68, h⟩ := bnd h
  refine wp_putR (c := 7) (k := 0) dX7_init_138 e68 (by decide) (by decide) rfl fl_RX7_70 (Or.inl rfl) ?_
  cases h
  exact wp_ret dX7_init_141 rfl

theorem sh_X7_init_ok {w : Gw} {d : Nat} {x0 : Nat} {x1 : Nat} {M : Gm} {out : Gm} (h : sh_X7_init x0 x1 M = some out) : Ev w mdX7_init (d + 1) [.inr x0, .inr x1] M (.inl none) out := by
  obtain ⟨u, e0, h⟩ := bnd h
  exact ev_of okX7_init ⟨_, _, rfl, isO_of e0 (by decide), by decide⟩ (Nat.le_of_ble_eq_true rfl) (X7_init_F_ok (isO_of e0 (by decide)) h)

/-! HeatGovernor$Foresight.<init>(LHeatGovernor$Plan;LHeatGovernor$Clock;)V -/
def X3_init_F (x0 : Nat) (x1 : Nat) (x2 : Nat) (M : Gm) : Option (Gm) :=
  (pfI M x0 3 1 0).bind fun M1 =>
  (pfI M1 x0 3 2 ((-1))).bind fun M3 =>
  (pfI M3 x0 3 3 ((-1))).bind fun M5 =>
  (pfI M5 x0 3 4 0).bind fun M7 =>
  (mkA M7 0 1050).bind fun M9 =>
  (pfR M9 x0 3 6 M7.2.2.length).bind fun M11 =>
  (pfI M11 x0 3 7 0).bind fun M13 =>
  (some (nwM M13 (7, 0))).bind fun M15 =>
  (sh_X7_init M13.2.2.length x1 M15).bind fun q16 =>
  (pfR q16 x0 3 0 M13.2.2.length).bind fun M18 =>
  (pfR M18 x0 3 5 x2).bind fun M20 =>
  some M20
def sh_X3_init (x0 : Nat) (x1 : Nat) (x2 : Nat) (M : Gm) : Option (Gm) := (isO M x0 3).bind fun _ => X3_init_F x0 x1 x2 M
theorem X3_init_F_ok {w : Gw} {d : Nat} {x0 : Nat} {x1 : Nat} {x2 : Nat} {M : Gm} {out : Gm} (h0_ : M.2.2[x0]? = some (3, 0)) (h : X3_init_F x0 x1 x2 M = some out) : Wp w mdX3_init (d + 2) 0 [some (.inr x0), some (.inr x1), some (.inr x2)] [] M (.inl none) out := by
  unfold X3_init_F at h
  refine wp_aload_n dX3_init_0 rfl ?_
  refine wp_objInit dX3_init_1 h0_ (by decide) ml_RX3_3 oi_1 oi_2 (Nat.le_of_ble_eq_true rfl) ?_
  refine wp_aload_n dX3_init_4 rfl ?_
  refine wp_iconst (v := 0) dX3_init_5 (by decide) ?_
  obtain ⟨M1, e2, h⟩ := bnd h
  refine wp_putI (c := 3) (k := 1) dX3_init_6 e2 (by decide) (by decide) rfl fl_RX3_9 (Or.inl rfl) ?_
  refine wp_aload_n dX3_init_9 rfl ?_
  refine wp_iconst (v := (-1)) dX3_init_10 (by decide) ?_
  obtain ⟨M3, e4, h⟩ := bnd h
  refine wp_putI (c := 3) (k := 2) dX3_init_11 e4 (by decide) (by decide) rfl fl_RX3_15 (Or.inl rfl) ?_
  refine wp_aload_n dX3_init_14 rfl ?_
  refine wp_iconst (v := (-1)) dX3_init_15 (by decide) ?_
  obtain ⟨M5, e6, h⟩ := bnd h
  refine wp_putI (c := 3) (k := 3) dX3_init_16 e6 (by decide) (by decide) rfl fl_RX3_18 (Or.inl rfl) ?_
  refine wp_aload_n dX3_init_19 rfl ?_
  refine wp_iconst (v := 0) dX3_init_20 (by decide) ?_
  obtain ⟨M7, e8, h⟩ := bnd h
  refine wp_putI (c := 3) (k := 4) dX3_init_21 e8 (by decide) (by decide) rfl fl_RX3_21 (Or.inl rfl) ?_
  refine wp_aload_n dX3_init_24 rfl ?_
  refine wp_sipush (v := 1050) dX3_init_25 (by decide) ?_
  obtain ⟨M9, e10, h⟩ := bnd h
  refine wp_newI dX3_init_28 e10 ac_int ?_
  obtain ⟨M11, e12, h⟩ := bnd h
  refine wp_putR (c := 3) (k := 6) dX3_init_30 e12 (by decide) (by decide) rfl fl_RX3_24 (Or.inr ⟨rfl, rfl⟩) ?_
  refine wp_aload_n dX3_init_33 rfl ?_
  refine wp_iconst (v := 0) dX3_init_34 (by decide) ?_
  obtain ⟨M13, e14, h⟩ := bnd h
  refine wp_putI (c := 3) (k := 7) dX3_init_35 e14 (by decide) (by decide) rfl fl_RX3_28 (Or.inl rfl) ?_
  refine wp_aload_n dX3_init_38 rfl ?_
  obtain ⟨M15, e_, h⟩ := bnd h
  refine wp_new (c := 7) dX3_init_39 (by decide) cl_RX3_31 obi_7 obn_7 ?_
  rw [Option.some.inj e_]
  refine wp_dup dX3_init_42 ?_
  refine wp_aload_n dX3_init_43 rfl ?_
  obtain ⟨q16, e17, h⟩ := bnd h
  refine wp_callI (As := [.inr x1]) dX3_init_44 (sh_X7_init_ok (d := d) e17) okX7_init nnX7_init rfl rfl ⟨_, rfl⟩ iiX7_init ml_RX3_33 rfl (Nat.le_of_ble_eq_true rfl) ?_
  obtain ⟨M18, e19, h⟩ := bnd h
  refine wp_putR (c := 3) (k := 0) dX3_init_47 e19 (by decide) (by decide) rfl fl_RX3_36 (Or.inr ⟨rfl, rfl⟩) ?_
  refine wp_aload_n dX3_init_50 rfl ?_
  refine wp_aload_n dX3_init_51 rfl ?_
  obtain ⟨M20, e21, h⟩ := bnd h
  refine wp_putR (c := 3) (k := 5) dX3_init_52 e21 (by decide) (by decide) rfl fl_RX3_40 (Or.inr ⟨rfl, rfl⟩) ?_
  cases h
  exact wp_ret dX3_init_55 rfl

theorem sh_X3_init_ok {w : Gw} {d : Nat} {x0 : Nat} {x1 : Nat} {x2 : Nat} {M : Gm} {out : Gm} (h : sh_X3_init x0 x1 x2 M = some out) : Ev w mdX3_init (d + 2) [.inr x0, .inr x1, .inr x2] M (.inl none) out := by
  obtain ⟨u, e0, h⟩ := bnd h
  exact ev_of okX3_init ⟨_, _, rfl, isO_of e0 (by decide), by decide⟩ (Nat.le_of_ble_eq_true rfl) (X3_init_F_ok (isO_of e0 (by decide)) h)

/-! HeatGovernor$Memory.<init>(LHeatGovernor$Plan;)V -/
def X4_init_F (x0 : Nat) (x1 : Nat) (M : Gm) : Option (Gm) :=
  (mkA M 9 40).bind fun M1 =>
  (pfR M1 x0 4 1 M.2.2.length).bind fun M3 =>
  (pfI M3 x0 4 2 0).bind fun M5 =>
  (pfI M5 x0 4 3 0).bind fun M7 =>
  (mkA M7 0 8).bind fun M9 =>
  (pfR M9 x0 4 4 M7.2.2.length).bind fun M11 =>
  (mkA M11 0 8).bind fun M13 =>
  (pfR M13 x0 4 5 M11.2.2.length).bind fun M15 =>
  (mkA M15 0 8).bind fun M17 =>
  (pfR M17 x0 4 6 M15.2.2.length).bind fun M19 =>
  (pfI M19 x0 4 7 0).bind fun M21 =>
  (mkA M21 0 3).bind fun M23 =>
  (pfR M23 x0 4 8 M21.2.2.length).bind fun M25 =>
  (some (nwM M25 (7, 0))).bind fun M27 =>
  (sh_X7_init M25.2.2.length x1 M27).bind fun q28 =>
  (pfR q28 x0 4 0 M25.2.2.length).bind fun M30 =>
  some M30
def sh_X4_init (x0 : Nat) (x1 : Nat) (M : Gm) : Option (Gm) := (isO M x0 4).bind fun _ => X4_init_F x0 x1 M
theorem X4_init_F_ok {w : Gw} {d : Nat} {x0 : Nat} {x1 : Nat} {M : Gm} {out : Gm} (h0_ : M.2.2[x0]? = some (4, 0)) (h : X4_init_F x0 x1 M = some out) : Wp w mdX4_init (d + 2) 0 [some (.inr x0), some (.inr x1)] [] M (.inl none) out := by
  unfold X4_init_F at h
  refine wp_aload_n dX4_init_0 rfl ?_
  refine wp_objInit dX4_init_1 h0_ (by decide) ml_RX4_3 oi_1 oi_2 (Nat.le_of_ble_eq_true rfl) ?_
  refine wp_aload_n dX4_init_4 rfl ?_
  refine wp_bipush (v := 40) dX4_init_5 (by decide) ?_
  obtain ⟨M1, e2, h⟩ := bnd h
  refine wp_anew (t := 9) dX4_init_7 e2 (by decide) rfl cl_RX4_9 ao_9 ?_
  obtain ⟨M3, e4, h⟩ := bnd h
  refine wp_putR (c := 4) (k := 1) dX4_init_10 e4 (by decide) (by decide) rfl fl_RX4_11 (Or.inr ⟨rfl, rfl⟩) ?_
  refine wp_aload_n dX4_init_13 rfl ?_
  refine wp_iconst (v := 0) dX4_init_14 (by decide) ?_
  obtain ⟨M5, e6, h⟩ := bnd h
  refine wp_putI (c := 4) (k := 2) dX4_init_15 e6 (by decide) (by decide) rfl fl_RX4_17 (Or.inl rfl) ?_
  refine wp_aload_n dX4_init_18 rfl ?_
  refine wp_iconst (v := 0) dX4_init_19 (by decide) ?_
  obtain ⟨M7, e8, h⟩ := bnd h
  refine wp_putI (c := 4) (k := 3) dX4_init_20 e8 (by decide) (by decide) rfl fl_RX4_21 (Or.inl rfl) ?_
  refine wp_aload_n dX4_init_23 rfl ?_
  refine wp_bipush (v := 8) dX4_init_24 (by decide) ?_
  obtain ⟨M9, e10, h⟩ := bnd h
  refine wp_newI dX4_init_26 e10 ac_int ?_
  obtain ⟨M11, e12, h⟩ := bnd h
  refine wp_putR (c := 4) (k := 4) dX4_init_28 e12 (by decide) (by decide) rfl fl_RX4_24 (Or.inr ⟨rfl, rfl⟩) ?_
  refine wp_aload_n dX4_init_31 rfl ?_
  refine wp_bipush (v := 8) dX4_init_32 (by decide) ?_
  obtain ⟨M13, e14, h⟩ := bnd h
  refine wp_newI dX4_init_34 e14 ac_int ?_
  obtain ⟨M15, e16, h⟩ := bnd h
  refine wp_putR (c := 4) (k := 5) dX4_init_36 e16 (by decide) (by decide) rfl fl_RX4_28 (Or.inr ⟨rfl, rfl⟩) ?_
  refine wp_aload_n dX4_init_39 rfl ?_
  refine wp_bipush (v := 8) dX4_init_40 (by decide) ?_
  obtain ⟨M17, e18, h⟩ := bnd h
  refine wp_newI dX4_init_42 e18 ac_int ?_
  obtain ⟨M19, e20, h⟩ := bnd h
  refine wp_putR (c := 4) (k := 6) dX4_init_44 e20 (by decide) (by decide) rfl fl_RX4_31 (Or.inr ⟨rfl, rfl⟩) ?_
  refine wp_aload_n dX4_init_47 rfl ?_
  refine wp_iconst (v := 0) dX4_init_48 (by decide) ?_
  obtain ⟨M21, e22, h⟩ := bnd h
  refine wp_putI (c := 4) (k := 7) dX4_init_49 e22 (by decide) (by decide) rfl fl_RX4_34 (Or.inl rfl) ?_
  refine wp_aload_n dX4_init_52 rfl ?_
  refine wp_iconst (v := 3) dX4_init_53 (by decide) ?_
  obtain ⟨M23, e24, h⟩ := bnd h
  refine wp_newI dX4_init_54 e24 ac_int ?_
  obtain ⟨M25, e26, h⟩ := bnd h
  refine wp_putR (c := 4) (k := 8) dX4_init_56 e26 (by decide) (by decide) rfl fl_RX4_37 (Or.inr ⟨rfl, rfl⟩) ?_
  refine wp_aload_n dX4_init_59 rfl ?_
  obtain ⟨M27, e_, h⟩ := bnd h
  refine wp_new (c := 7) dX4_init_60 (by decide) cl_RX4_9 obi_7 obn_7 ?_
  rw [Option.some.inj e_]
  refine wp_dup dX4_init_63 ?_
  refine wp_aload_n dX4_init_64 rfl ?_
  obtain ⟨q28, e29, h⟩ := bnd h
  refine wp_callI (As := [.inr x1]) dX4_init_65 (sh_X7_init_ok (d := d) e29) okX7_init nnX7_init rfl rfl ⟨_, rfl⟩ iiX7_init ml_RX4_40 rfl (Nat.le_of_ble_eq_true rfl) ?_
  obtain ⟨M30, e31, h⟩ := bnd h
  refine wp_putR (c := 4) (k := 0) dX4_init_68 e31 (by decide) (by decide) rfl fl_RX4_43 (Or.inr ⟨rfl, rfl⟩) ?_
  cases h
  exact wp_ret dX4_init_71 rfl

theorem sh_X4_init_ok {w : Gw} {d : Nat} {x0 : Nat} {x1 : Nat} {M : Gm} {out : Gm} (h : sh_X4_init x0 x1 M = some out) : Ev w mdX4_init (d + 2) [.inr x0, .inr x1] M (.inl none) out := by
  obtain ⟨u, e0, h⟩ := bnd h
  exact ev_of okX4_init ⟨_, _, rfl, isO_of e0 (by decide), by decide⟩ (Nat.le_of_ble_eq_true rfl) (X4_init_F_ok (isO_of e0 (by decide)) h)

/-! HeatGovernor$Bind.<init>()V -/
def X0_init_F (x0 : Nat) (M : Gm) : Option (Gm) :=
  (pfI M x0 0 0 0).bind fun M1 =>
  (pfI M1 x0 0 1 0).bind fun M3 =>
  (pfI M3 x0 0 2 1).bind fun M5 =>
  some M5
def sh_X0_init (x0 : Nat) (M : Gm) : Option (Gm) := (isO M x0 0).bind fun _ => X0_init_F x0 M
theorem X0_init_F_ok {w : Gw} {d : Nat} {x0 : Nat} {M : Gm} {out : Gm} (h0_ : M.2.2[x0]? = some (0, 0)) (h : X0_init_F x0 M = some out) : Wp w mdX0_init (d + 1) 0 [some (.inr x0)] [] M (.inl none) out := by
  unfold X0_init_F at h
  refine wp_aload_n dX0_init_0 rfl ?_
  refine wp_objInit dX0_init_1 h0_ (by decide) ml_RX0_1 oi_1 oi_2 (Nat.le_of_ble_eq_true rfl) ?_
  refine wp_aload_n dX0_init_4 rfl ?_
  refine wp_iconst (v := 0) dX0_init_5 (by decide) ?_
  obtain ⟨M1, e2, h⟩ := bnd h
  refine wp_putI (c := 0) (k := 0) dX0_init_6 e2 (by decide) (by decide) rfl fl_RX0_7 (Or.inl rfl) ?_
  refine wp_aload_n dX0_init_9 rfl ?_
  refine wp_iconst (v := 0) dX0_init_10 (by decide) ?_
  obtain ⟨M3, e4, h⟩ := bnd h
  refine wp_putI (c := 0) (k := 1) dX0_init_11 e4 (by decide) (by decide) rfl fl_RX0_13 (Or.inl rfl) ?_
  refine wp_aload_n dX0_init_14 rfl ?_
  refine wp_iconst (v := 1) dX0_init_15 (by decide) ?_
  obtain ⟨M5, e6, h⟩ := bnd h
  refine wp_putI (c := 0) (k := 2) dX0_init_16 e6 (by decide) (by decide) rfl fl_RX0_16 (Or.inl rfl) ?_
  cases h
  exact wp_ret dX0_init_19 rfl

theorem sh_X0_init_ok {w : Gw} {d : Nat} {x0 : Nat} {M : Gm} {out : Gm} (h : sh_X0_init x0 M = some out) : Ev w mdX0_init (d + 1) [.inr x0] M (.inl none) out := by
  obtain ⟨u, e0, h⟩ := bnd h
  exact ev_of okX0_init ⟨_, _, rfl, isO_of e0 (by decide), by decide⟩ (Nat.le_of_ble_eq_true rfl) (X0_init_F_ok (isO_of e0 (by decide)) h)

/-! HeatGovernor$Device.<init>()V -/
def X2_init_F (x0 : Nat) (M : Gm) : Option (Gm) :=
  (pfI M x0 2 0 0).bind fun M1 =>
  (pfI M1 x0 2 1 0).bind fun M3 =>
  (pfI M3 x0 2 2 1).bind fun M5 =>
  (pfI M5 x0 2 3 1).bind fun M7 =>
  some M7
def sh_X2_init (x0 : Nat) (M : Gm) : Option (Gm) := (isO M x0 2).bind fun _ => X2_init_F x0 M
theorem X2_init_F_ok {w : Gw} {d : Nat} {x0 : Nat} {M : Gm} {out : Gm} (h0_ : M.2.2[x0]? = some (2, 0)) (h : X2_init_F x0 M = some out) : Wp w mdX2_init (d + 1) 0 [some (.inr x0)] [] M (.inl none) out := by
  unfold X2_init_F at h
  refine wp_aload_n dX2_init_0 rfl ?_
  refine wp_objInit dX2_init_1 h0_ (by decide) ml_RX2_3 oi_1 oi_2 (Nat.le_of_ble_eq_true rfl) ?_
  refine wp_aload_n dX2_init_4 rfl ?_
  refine wp_iconst (v := 0) dX2_init_5 (by decide) ?_
  obtain ⟨M1, e2, h⟩ := bnd h
  refine wp_putI (c := 2) (k := 0) dX2_init_6 e2 (by decide) (by decide) rfl fl_RX2_9 (Or.inl rfl) ?_
  refine wp_aload_n dX2_init_9 rfl ?_
  refine wp_iconst (v := 0) dX2_init_10 (by decide) ?_
  obtain ⟨M3, e4, h⟩ := bnd h
  refine wp_putI (c := 2) (k := 1) dX2_init_11 e4 (by decide) (by decide) rfl fl_RX2_15 (Or.inl rfl) ?_
  refine wp_aload_n dX2_init_14 rfl ?_
  refine wp_iconst (v := 1) dX2_init_15 (by decide) ?_
  obtain ⟨M5, e6, h⟩ := bnd h
  refine wp_putI (c := 2) (k := 2) dX2_init_16 e6 (by decide) (by decide) rfl fl_RX2_18 (Or.inl rfl) ?_
  refine wp_aload_n dX2_init_19 rfl ?_
  refine wp_iconst (v := 1) dX2_init_20 (by decide) ?_
  obtain ⟨M7, e8, h⟩ := bnd h
  refine wp_putI (c := 2) (k := 3) dX2_init_21 e8 (by decide) (by decide) rfl fl_RX2_21 (Or.inl rfl) ?_
  cases h
  exact wp_ret dX2_init_24 rfl

theorem sh_X2_init_ok {w : Gw} {d : Nat} {x0 : Nat} {M : Gm} {out : Gm} (h : sh_X2_init x0 M = some out) : Ev w mdX2_init (d + 1) [.inr x0] M (.inl none) out := by
  obtain ⟨u, e0, h⟩ := bnd h
  exact ev_of okX2_init ⟨_, _, rfl, isO_of e0 (by decide), by decide⟩ (Nat.le_of_ble_eq_true rfl) (X2_init_F_ok (isO_of e0 (by decide)) h)

/-! HeatGovernor$Trip.<init>()V -/
def X8_init_F (x0 : Nat) (M : Gm) : Option (Gm) :=
  (pfI M x0 8 0 0).bind fun M1 =>
  (pfI M1 x0 8 1 0).bind fun M3 =>
  (pfI M3 x0 8 2 200).bind fun M5 =>
  (pfI M5 x0 8 3 0).bind fun M7 =>
  (pfI M7 x0 8 4 0).bind fun M9 =>
  (pfI M9 x0 8 5 0).bind fun M11 =>
  some M11
def sh_X8_init (x0 : Nat) (M : Gm) : Option (Gm) := (isO M x0 8).bind fun _ => X8_init_F x0 M
theorem X8_init_F_ok {w : Gw} {d : Nat} {x0 : Nat} {M : Gm} {out : Gm} (h0_ : M.2.2[x0]? = some (8, 0)) (h : X8_init_F x0 M = some out) : Wp w mdX8_init (d + 1) 0 [some (.inr x0)] [] M (.inl none) out := by
  unfold X8_init_F at h
  refine wp_aload_n dX8_init_0 rfl ?_
  refine wp_objInit dX8_init_1 h0_ (by decide) ml_RX8_3 oi_1 oi_2 (Nat.le_of_ble_eq_true rfl) ?_
  refine wp_aload_n dX8_init_4 rfl ?_
  refine wp_iconst (v := 0) dX8_init_5 (by decide) ?_
  obtain ⟨M1, e2, h⟩ := bnd h
  refine wp_putI (c := 8) (k := 0) dX8_init_6 e2 (by decide) (by decide) rfl fl_RX8_9 (Or.inl rfl) ?_
  refine wp_aload_n dX8_init_9 rfl ?_
  refine wp_iconst (v := 0) dX8_init_10 (by decide) ?_
  obtain ⟨M3, e4, h⟩ := bnd h
  refine wp_putI (c := 8) (k := 1) dX8_init_11 e4 (by decide) (by decide) rfl fl_RX8_15 (Or.inl rfl) ?_
  refine wp_aload_n dX8_init_14 rfl ?_
  refine wp_sipush (v := 200) dX8_init_15 (by decide) ?_
  obtain ⟨M5, e6, h⟩ := bnd h
  refine wp_putI (c := 8) (k := 2) dX8_init_18 e6 (by decide) (by decide) rfl fl_RX8_18 (Or.inl rfl) ?_
  refine wp_aload_n dX8_init_21 rfl ?_
  refine wp_iconst (v := 0) dX8_init_22 (by decide) ?_
  obtain ⟨M7, e8, h⟩ := bnd h
  refine wp_putI (c := 8) (k := 3) dX8_init_23 e8 (by decide) (by decide) rfl fl_RX8_21 (Or.inl rfl) ?_
  refine wp_aload_n dX8_init_26 rfl ?_
  refine wp_iconst (v := 0) dX8_init_27 (by decide) ?_
  obtain ⟨M9, e10, h⟩ := bnd h
  refine wp_putI (c := 8) (k := 4) dX8_init_28 e10 (by decide) (by decide) rfl fl_RX8_24 (Or.inl rfl) ?_
  refine wp_aload_n dX8_init_31 rfl ?_
  refine wp_iconst (v := 0) dX8_init_32 (by decide) ?_
  obtain ⟨M11, e12, h⟩ := bnd h
  refine wp_putI (c := 8) (k := 5) dX8_init_33 e12 (by decide) (by decide) rfl fl_RX8_27 (Or.inl rfl) ?_
  cases h
  exact wp_ret dX8_init_36 rfl

theorem sh_X8_init_ok {w : Gw} {d : Nat} {x0 : Nat} {M : Gm} {out : Gm} (h : sh_X8_init x0 M = some out) : Ev w mdX8_init (d + 1) [.inr x0] M (.inl none) out := by
  obtain ⟨u, e0, h⟩ := bnd h
  exact ev_of okX8_init ⟨_, _, rfl, isO_of e0 (by decide), by decide⟩ (Nat.le_of_ble_eq_true rfl) (X8_init_F_ok (isO_of e0 (by decide)) h)

/-! HeatGovernor$Wall.<init>()V -/
def X9_init_F (x0 : Nat) (M : Gm) : Option (Gm) :=
  (pfI M x0 9 0 0).bind fun M1 =>
  (pfI M1 x0 9 1 0).bind fun M3 =>
  (pfI M3 x0 9 2 1).bind fun M5 =>
  some M5
def sh_X9_init (x0 : Nat) (M : Gm) : Option (Gm) := (isO M x0 9).bind fun _ => X9_init_F x0 M
theorem X9_init_F_ok {w : Gw} {d : Nat} {x0 : Nat} {M : Gm} {out : Gm} (h0_ : M.2.2[x0]? = some (9, 0)) (h : X9_init_F x0 M = some out) : Wp w mdX9_init (d + 1) 0 [some (.inr x0)] [] M (.inl none) out := by
  unfold X9_init_F at h
  refine wp_aload_n dX9_init_0 rfl ?_
  refine wp_objInit dX9_init_1 h0_ (by decide) ml_RX9_1 oi_1 oi_2 (Nat.le_of_ble_eq_true rfl) ?_
  refine wp_aload_n dX9_init_4 rfl ?_
  refine wp_iconst (v := 0) dX9_init_5 (by decide) ?_
  obtain ⟨M1, e2, h⟩ := bnd h
  refine wp_putI (c := 9) (k := 0) dX9_init_6 e2 (by decide) (by decide) rfl fl_RX9_7 (Or.inl rfl) ?_
  refine wp_aload_n dX9_init_9 rfl ?_
  refine wp_iconst (v := 0) dX9_init_10 (by decide) ?_
  obtain ⟨M3, e4, h⟩ := bnd h
  refine wp_putI (c := 9) (k := 1) dX9_init_11 e4 (by decide) (by decide) rfl fl_RX9_13 (Or.inl rfl) ?_
  refine wp_aload_n dX9_init_14 rfl ?_
  refine wp_iconst (v := 1) dX9_init_15 (by decide) ?_
  obtain ⟨M5, e6, h⟩ := bnd h
  refine wp_putI (c := 9) (k := 2) dX9_init_16 e6 (by decide) (by decide) rfl fl_RX9_16 (Or.inl rfl) ?_
  cases h
  exact wp_ret dX9_init_19 rfl

theorem sh_X9_init_ok {w : Gw} {d : Nat} {x0 : Nat} {M : Gm} {out : Gm} (h : sh_X9_init x0 M = some out) : Ev w mdX9_init (d + 1) [.inr x0] M (.inl none) out := by
  obtain ⟨u, e0, h⟩ := bnd h
  exact ev_of okX9_init ⟨_, _, rfl, isO_of e0 (by decide), by decide⟩ (Nat.le_of_ble_eq_true rfl) (X9_init_F_ok (isO_of e0 (by decide)) h)

/-! HeatGovernor$Zone.<init>()V -/
def X10_init_F (x0 : Nat) (M : Gm) : Option (Gm) :=
  (pfI M x0 10 0 0).bind fun M1 =>
  (pfI M1 x0 10 1 1).bind fun M3 =>
  (pfI M3 x0 10 2 0).bind fun M5 =>
  (pfI M5 x0 10 3 1).bind fun M7 =>
  some M7
def sh_X10_init (x0 : Nat) (M : Gm) : Option (Gm) := (isO M x0 10).bind fun _ => X10_init_F x0 M
theorem X10_init_F_ok {w : Gw} {d : Nat} {x0 : Nat} {M : Gm} {out : Gm} (h0_ : M.2.2[x0]? = some (10, 0)) (h : X10_init_F x0 M = some out) : Wp w mdX10_init (d + 1) 0 [some (.inr x0)] [] M (.inl none) out := by
  unfold X10_init_F at h
  refine wp_aload_n dX10_init_0 rfl ?_
  refine wp_objInit dX10_init_1 h0_ (by decide) ml_RX10_3 oi_1 oi_2 (Nat.le_of_ble_eq_true rfl) ?_
  refine wp_aload_n dX10_init_4 rfl ?_
  refine wp_iconst (v := 0) dX10_init_5 (by decide) ?_
  obtain ⟨M1, e2, h⟩ := bnd h
  refine wp_putI (c := 10) (k := 0) dX10_init_6 e2 (by decide) (by decide) rfl fl_RX10_9 (Or.inl rfl) ?_
  refine wp_aload_n dX10_init_9 rfl ?_
  refine wp_iconst (v := 1) dX10_init_10 (by decide) ?_
  obtain ⟨M3, e4, h⟩ := bnd h
  refine wp_putI (c := 10) (k := 1) dX10_init_11 e4 (by decide) (by decide) rfl fl_RX10_15 (Or.inl rfl) ?_
  refine wp_aload_n dX10_init_14 rfl ?_
  refine wp_iconst (v := 0) dX10_init_15 (by decide) ?_
  obtain ⟨M5, e6, h⟩ := bnd h
  refine wp_putI (c := 10) (k := 2) dX10_init_16 e6 (by decide) (by decide) rfl fl_RX10_18 (Or.inl rfl) ?_
  refine wp_aload_n dX10_init_19 rfl ?_
  refine wp_iconst (v := 1) dX10_init_20 (by decide) ?_
  obtain ⟨M7, e8, h⟩ := bnd h
  refine wp_putI (c := 10) (k := 3) dX10_init_21 e8 (by decide) (by decide) rfl fl_RX10_21 (Or.inl rfl) ?_
  cases h
  exact wp_ret dX10_init_24 rfl

theorem sh_X10_init_ok {w : Gw} {d : Nat} {x0 : Nat} {M : Gm} {out : Gm} (h : sh_X10_init x0 M = some out) : Ev w mdX10_init (d + 1) [.inr x0] M (.inl none) out := by
  obtain ⟨u, e0, h⟩ := bnd h
  exact ev_of okX10_init ⟨_, _, rfl, isO_of e0 (by decide), by decide⟩ (Nat.le_of_ble_eq_true rfl) (X10_init_F_ok (isO_of e0 (by decide)) h)

/-! HeatGovernor$Plan.<init>()V -/
def X5_init_B85 (x0 : Nat) (q : Int32 × Gm) : Option ((Int32 × Gm) ⊕ Gm) :=
  if 5 ≤ q.1 then
    some (.inr q.2)
  else
    (gfR q.2 x0 5 0).bind fun v1 =>
    (some (nwM q.2 (10, 0))).bind fun M3 =>
    (sh_X10_init q.2.2.2.length M3).bind fun q4 =>
    (stR q4 4 10 v1 q.1 q.2.2.2.length).bind fun M6 =>
    some (.inl (q.1 + 1, M6))
def X5_init_B111 (x0 : Nat) (q : Int32 × Gm) : Option ((Int32 × Gm) ⊕ Gm) :=
  if 10 ≤ q.1 then
    some (.inr q.2)
  else
    (gfR q.2 x0 5 1).bind fun v1 =>
    (some (nwM q.2 (8, 0))).bind fun M3 =>
    (sh_X8_init q.2.2.2.length M3).bind fun q4 =>
    (stR q4 5 8 v1 q.1 q.2.2.2.length).bind fun M6 =>
    some (.inl (q.1 + 1, M6))
def X5_init_B138 (x0 : Nat) (q : Int32 × Gm) : Option ((Int32 × Gm) ⊕ Gm) :=
  if 6 ≤ q.1 then
    some (.inr q.2)
  else
    (gfR q.2 x0 5 2).bind fun v1 =>
    (some (nwM q.2 (2, 0))).bind fun M3 =>
    (sh_X2_init q.2.2.2.length M3).bind fun q4 =>
    (stR q4 6 2 v1 q.1 q.2.2.2.length).bind fun M6 =>
    some (.inl (q.1 + 1, M6))
def X5_init_B165 (x0 : Nat) (q : Int32 × Gm) : Option ((Int32 × Gm) ⊕ Gm) :=
  if 60 ≤ q.1 then
    some (.inr q.2)
  else
    (gfR q.2 x0 5 3).bind fun v1 =>
    (some (nwM q.2 (0, 0))).bind fun M3 =>
    (sh_X0_init q.2.2.2.length M3).bind fun q4 =>
    (stR q4 7 0 v1 q.1 q.2.2.2.length).bind fun M6 =>
    some (.inl (q.1 + 1, M6))
def X5_init_B192 (x0 : Nat) (q : Int32 × Gm) : Option ((Int32 × Gm) ⊕ Gm) :=
  if 8 ≤ q.1 then
    some (.inr q.2)
  else
    (gfR q.2 x0 5 4).bind fun v1 =>
    (some (nwM q.2 (9, 0))).bind fun M3 =>
    (sh_X9_init q.2.2.2.length M3).bind fun q4 =>
    (stR q4 8 9 v1 q.1 q.2.2.2.length).bind fun M6 =>
    some (.inl (q.1 + 1, M6))
def X5_init_F (x0 : Nat) (M : Gm) : Option (Gm) :=
  (mkA M 4 5).bind fun M1 =>
  (pfR M1 x0 5 0 M.2.2.length).bind fun M3 =>
  (mkA M3 5 10).bind fun M5 =>
  (pfR M5 x0 5 1 M3.2.2.length).bind fun M7 =>
  (mkA M7 6 6).bind fun M9 =>
  (pfR M9 x0 5 2 M7.2.2.length).bind fun M11 =>
  (mkA M11 7 60).bind fun M13 =>
  (pfR M13 x0 5 3 M11.2.2.length).bind fun M15 =>
  (mkA M15 8 8).bind fun M17 =>
  (pfR M17 x0 5 4 M15.2.2.length).bind fun M19 =>
  (pfI M19 x0 5 5 0).bind fun M21 =>
  (pfI M21 x0 5 6 0).bind fun M23 =>
  (pfI M23 x0 5 7 0).bind fun M25 =>
  (pfI M25 x0 5 8 0).bind fun M27 =>
  (pfI M27 x0 5 9 0).bind fun M29 =>
  (pfI M29 x0 5 10 0).bind fun M31 =>
  (pfZ M31 x0 5 11 0).bind fun M33 =>
  (lp (X5_init_B85 x0) FU (0, M33)).bind fun r35 =>
  (lp (X5_init_B111 x0) FU (0, r35)).bind fun r37 =>
  (lp (X5_init_B138 x0) FU (0, r37)).bind fun r39 =>
  (lp (X5_init_B165 x0) FU (0, r39)).bind fun r41 =>
  (lp (X5_init_B192 x0) FU (0, r41)).bind fun r43 =>
  some r43
def sh_X5_init (x0 : Nat) (M : Gm) : Option (Gm) := (isO M x0 5).bind fun _ => X5_init_F x0 M
theorem X5_init_B85_ok {w : Gw} {d : Nat} {x0 : Nat} {q : Int32 × Gm} {o : Go} {M' : Gm} {out : (Int32 × Gm) ⊕ Gm} (h : X5_init_B85 x0 q = some out) (hc : ∀ t : Int32 × Gm, out = .inl t → Wp w mdX5_init (d + 2) 85 [some (.inr x0), some (.inl t.1)] [] t.2 o M') (he0 : ∀ t : Gm, out = .inr t → Wp w mdX5_init (d + 2) 109 [some (.inr x0), none] [] t o M') : Wp w mdX5_init (d + 2) 85 [some (.inr x0), some (.inl q.1)] [] q.2 o M' := by
  unfold X5_init_B85 at h
  refine wp_iload_n dX5_init_85 rfl ?_
  refine wp_iconst (v := 5) dX5_init_86 (by decide) ?_
  refine wp_icmp_ge (tgt := 109) dX5_init_87 (by decide) (fun hc_ => ?_) (fun hc_ => ?_)
  · replace h := ite_t hc_ h
    cases h
    exact wp_ls (lsS (lsN lsZ)) (he0 q.2 rfl)
  · replace h := ite_f hc_ h
    refine wp_aload_n dX5_init_90 rfl ?_
    obtain ⟨v1, e2, h⟩ := bnd h
    refine wp_getR (c := 5) (k := 0) dX5_init_91 e2 (by decide) (by decide) rfl fl_RX5_11 ?_
    refine wp_iload_n dX5_init_94 rfl ?_
    obtain ⟨M3, e_, h⟩ := bnd h
    refine wp_new (c := 10) dX5_init_95 (by decide) cl_RX5_9 obi_10 obn_10 ?_
    rw [Option.some.inj e_]
    refine wp_dup dX5_init_98 ?_
    obtain ⟨q4, e5, h⟩ := bnd h
    refine wp_callIN (As := []) dX5_init_99 (sh_X10_init_ok (d := d) e5) okX10_init nnX10_init rfl rfl ⟨_, rfl⟩ iiX10_init nl_RX5_64 rfl (Nat.le_of_ble_eq_true rfl) ?_
    obtain ⟨M6, e7, h⟩ := bnd h
    refine wp_aastore (t := 4) (c := 10) dX5_init_102 e7 (by decide) (by decide) rfl ?_
    refine wp_iinc (v := q.1 + 1) dX5_init_103 rfl rfl ?_
    refine wp_goto (tgt := 85) dX5_init_106 (by decide) ?_
    cases h
    exact wp_ls (lsS (lsS lsZ)) (hc (q.1 + 1, M6) rfl)

theorem X5_init_B85_lp {w : Gw} {d : Nat} {x0 : Nat} {o : Go} {M' : Gm} {r : Gm} : ∀ (n : Nat) (q : Int32 × Gm), lp (X5_init_B85 x0) n q = some r → (∀ t : Gm, r = t → Wp w mdX5_init (d + 2) 109 [some (.inr x0), none] [] t o M') → Wp w mdX5_init (d + 2) 85 [some (.inr x0), some (.inl q.1)] [] q.2 o M' := by
  intro n
  induction n with
  | zero => intro q h; cases h
  | succ n ih =>
    intro q h he0
    cases hb : X5_init_B85 x0 q with
    | none => rw [lp_succ, hb] at h; cases h
    | some out =>
      rw [lp_succ, hb] at h
      exact X5_init_B85_ok hb (fun t e => ih t (by rw [e] at h; exact h) he0) (fun t e => he0 t (by rw [e] at h; cases h; rfl))
theorem X5_init_B111_ok {w : Gw} {d : Nat} {x0 : Nat} {q : Int32 × Gm} {o : Go} {M' : Gm} {out : (Int32 × Gm) ⊕ Gm} (h : X5_init_B111 x0 q = some out) (hc : ∀ t : Int32 × Gm, out = .inl t → Wp w mdX5_init (d + 2) 111 [some (.inr x0), some (.inl t.1)] [] t.2 o M') (he0 : ∀ t : Gm, out = .inr t → Wp w mdX5_init (d + 2) 136 [some (.inr x0), none] [] t o M') : Wp w mdX5_init (d + 2) 111 [some (.inr x0), some (.inl q.1)] [] q.2 o M' := by
  unfold X5_init_B111 at h
  refine wp_iload_n dX5_init_111 rfl ?_
  refine wp_bipush (v := 10) dX5_init_112 (by decide) ?_
  refine wp_icmp_ge (tgt := 136) dX5_init_114 (by decide) (fun hc_ => ?_) (fun hc_ => ?_)
  · replace h := ite_t hc_ h
    cases h
    exact wp_ls (lsS (lsN lsZ)) (he0 q.2 rfl)
  · replace h := ite_f hc_ h
    refine wp_aload_n dX5_init_117 rfl ?_
    obtain ⟨v1, e2, h⟩ := bnd h
    refine wp_getR (c := 5) (k := 1) dX5_init_118 e2 (by decide) (by decide) rfl fl_RX5_19 ?_
    refine wp_iload_n dX5_init_121 rfl ?_
    obtain ⟨M3, e_, h⟩ := bnd h
    refine wp_new (c := 8) dX5_init_122 (by decide) cl_RX5_17 obi_8 obn_8 ?_
    rw [Option.some.inj e_]
    refine wp_dup dX5_init_125 ?_
    obtain ⟨q4, e5, h⟩ := bnd h
    refine wp_callIN (As := []) dX5_init_126 (sh_X8_init_ok (d := d) e5) okX8_init nnX8_init rfl rfl ⟨_, rfl⟩ iiX8_init nl_RX5_65 rfl (Nat.le_of_ble_eq_true rfl) ?_
    obtain ⟨M6, e7, h⟩ := bnd h
    refine wp_aastore (t := 5) (c := 8) dX5_init_129 e7 (by decide) (by decide) rfl ?_
    refine wp_iinc (v := q.1 + 1) dX5_init_130 rfl rfl ?_
    refine wp_goto (tgt := 111) dX5_init_133 (by decide) ?_
    cases h
    exact wp_ls (lsS (lsS lsZ)) (hc (q.1 + 1, M6) rfl)

theorem X5_init_B111_lp {w : Gw} {d : Nat} {x0 : Nat} {o : Go} {M' : Gm} {r : Gm} : ∀ (n : Nat) (q : Int32 × Gm), lp (X5_init_B111 x0) n q = some r → (∀ t : Gm, r = t → Wp w mdX5_init (d + 2) 136 [some (.inr x0), none] [] t o M') → Wp w mdX5_init (d + 2) 111 [some (.inr x0), some (.inl q.1)] [] q.2 o M' := by
  intro n
  induction n with
  | zero => intro q h; cases h
  | succ n ih =>
    intro q h he0
    cases hb : X5_init_B111 x0 q with
    | none => rw [lp_succ, hb] at h; cases h
    | some out =>
      rw [lp_succ, hb] at h
      exact X5_init_B111_ok hb (fun t e => ih t (by rw [e] at h; exact h) he0) (fun t e => he0 t (by rw [e] at h; cases h; rfl))
theorem X5_init_B138_ok {w : Gw} {d : Nat} {x0 : Nat} {q : Int32 × Gm} {o : Go} {M' : Gm} {out : (Int32 × Gm) ⊕ Gm} (h : X5_init_B138 x0 q = some out) (hc : ∀ t : Int32 × Gm, out = .inl t → Wp w mdX5_init (d + 2) 138 [some (.inr x0), some (.inl t.1)] [] t.2 o M') (he0 : ∀ t : Gm, out = .inr t → Wp w mdX5_init (d + 2) 163 [some (.inr x0), none] [] t o M') : Wp w mdX5_init (d + 2) 138 [some (.inr x0), some (.inl q.1)] [] q.2 o M' := by
  unfold X5_init_B138 at h
  refine wp_iload_n dX5_init_138 rfl ?_
  refine wp_bipush (v := 6) dX5_init_139 (by decide) ?_
  refine wp_icmp_ge (tgt := 163) dX5_init_141 (by decide) (fun hc_ => ?_) (fun hc_ => ?_)
  · replace h := ite_t hc_ h
    cases h
    exact wp_ls (lsS (lsN lsZ)) (he0 q.2 rfl)
  · replace h := ite_f hc_ h
    refine wp_aload_n dX5_init_144 rfl ?_
    obtain ⟨v1, e2, h⟩ := bnd h
    refine wp_getR (c := 5) (k := 2) dX5_init_145 e2 (by decide) (by decide) rfl fl_RX5_25 ?_
    refine wp_iload_n dX5_init_148 rfl ?_
    obtain ⟨M3, e_, h⟩ := bnd h
    refine wp_new (c := 2) dX5_init_149 (by decide) cl_RX5_23 obi_2 obn_2 ?_
    rw [Option.some.inj e_]
    refine wp_dup dX5_init_152 ?_
    obtain ⟨q4, e5, h⟩ := bnd h
    refine wp_callIN (As := []) dX5_init_153 (sh_X2_init_ok (d := d) e5) okX2_init nnX2_init rfl rfl ⟨_, rfl⟩ iiX2_init nl_RX5_66 rfl (Nat.le_of_ble_eq_true rfl) ?_
    obtain ⟨M6, e7, h⟩ := bnd h
    refine wp_aastore (t := 6) (c := 2) dX5_init_156 e7 (by decide) (by decide) rfl ?_
    refine wp_iinc (v := q.1 + 1) dX5_init_157 rfl rfl ?_
    refine wp_goto (tgt := 138) dX5_init_160 (by decide) ?_
    cases h
    exact wp_ls (lsS (lsS lsZ)) (hc (q.1 + 1, M6) rfl)

theorem X5_init_B138_lp {w : Gw} {d : Nat} {x0 : Nat} {o : Go} {M' : Gm} {r : Gm} : ∀ (n : Nat) (q : Int32 × Gm), lp (X5_init_B138 x0) n q = some r → (∀ t : Gm, r = t → Wp w mdX5_init (d + 2) 163 [some (.inr x0), none] [] t o M') → Wp w mdX5_init (d + 2) 138 [some (.inr x0), some (.inl q.1)] [] q.2 o M' := by
  intro n
  induction n with
  | zero => intro q h; cases h
  | succ n ih =>
    intro q h he0
    cases hb : X5_init_B138 x0 q with
    | none => rw [lp_succ, hb] at h; cases h
    | some out =>
      rw [lp_succ, hb] at h
      exact X5_init_B138_ok hb (fun t e => ih t (by rw [e] at h; exact h) he0) (fun t e => he0 t (by rw [e] at h; cases h; rfl))
theorem X5_init_B165_ok {w : Gw} {d : Nat} {x0 : Nat} {q : Int32 × Gm} {o : Go} {M' : Gm} {out : (Int32 × Gm) ⊕ Gm} (h : X5_init_B165 x0 q = some out) (hc : ∀ t : Int32 × Gm, out = .inl t → Wp w mdX5_init (d + 2) 165 [some (.inr x0), some (.inl t.1)] [] t.2 o M') (he0 : ∀ t : Gm, out = .inr t → Wp w mdX5_init (d + 2) 190 [some (.inr x0), none] [] t o M') : Wp w mdX5_init (d + 2) 165 [some (.inr x0), some (.inl q.1)] [] q.2 o M' := by
  unfold X5_init_B165 at h
  refine wp_iload_n dX5_init_165 rfl ?_
  refine wp_bipush (v := 60) dX5_init_166 (by decide) ?_
  refine wp_icmp_ge (tgt := 190) dX5_init_168 (by decide) (fun hc_ => ?_) (fun hc_ => ?_)
  · replace h := ite_t hc_ h
    cases h
    exact wp_ls (lsS (lsN lsZ)) (he0 q.2 rfl)
  · replace h := ite_f hc_ h
    refine wp_aload_n dX5_init_171 rfl ?_
    obtain ⟨v1, e2, h⟩ := bnd h
    refine wp_getR (c := 5) (k := 3) dX5_init_172 e2 (by decide) (by decide) rfl fl_RX5_31 ?_
    refine wp_iload_n dX5_init_175 rfl ?_
    obtain ⟨M3, e_, h⟩ := bnd h
    refine wp_new (c := 0) dX5_init_176 (by decide) cl_RX5_29 obi_0 obn_0 ?_
    rw [Option.some.inj e_]
    refine wp_dup dX5_init_179 ?_
    obtain ⟨q4, e5, h⟩ := bnd h
    refine wp_callIN (As := []) dX5_init_180 (sh_X0_init_ok (d := d) e5) okX0_init nnX0_init rfl rfl ⟨_, rfl⟩ iiX0_init nl_RX5_67 rfl (Nat.le_of_ble_eq_true rfl) ?_
    obtain ⟨M6, e7, h⟩ := bnd h
    refine wp_aastore (t := 7) (c := 0) dX5_init_183 e7 (by decide) (by decide) rfl ?_
    refine wp_iinc (v := q.1 + 1) dX5_init_184 rfl rfl ?_
    refine wp_goto (tgt := 165) dX5_init_187 (by decide) ?_
    cases h
    exact wp_ls (lsS (lsS lsZ)) (hc (q.1 + 1, M6) rfl)

theorem X5_init_B165_lp {w : Gw} {d : Nat} {x0 : Nat} {o : Go} {M' : Gm} {r : Gm} : ∀ (n : Nat) (q : Int32 × Gm), lp (X5_init_B165 x0) n q = some r → (∀ t : Gm, r = t → Wp w mdX5_init (d + 2) 190 [some (.inr x0), none] [] t o M') → Wp w mdX5_init (d + 2) 165 [some (.inr x0), some (.inl q.1)] [] q.2 o M' := by
  intro n
  induction n with
  | zero => intro q h; cases h
  | succ n ih =>
    intro q h he0
    cases hb : X5_init_B165 x0 q with
    | none => rw [lp_succ, hb] at h; cases h
    | some out =>
      rw [lp_succ, hb] at h
      exact X5_init_B165_ok hb (fun t e => ih t (by rw [e] at h; exact h) he0) (fun t e => he0 t (by rw [e] at h; cases h; rfl))
theorem X5_init_B192_ok {w : Gw} {d : Nat} {x0 : Nat} {q : Int32 × Gm} {o : Go} {M' : Gm} {out : (Int32 × Gm) ⊕ Gm} (h : X5_init_B192 x0 q = some out) (hc : ∀ t : Int32 × Gm, out = .inl t → Wp w mdX5_init (d + 2) 192 [some (.inr x0), some (.inl t.1)] [] t.2 o M') (he0 : ∀ t : Gm, out = .inr t → Wp w mdX5_init (d + 2) 217 [none, none] [] t o M') : Wp w mdX5_init (d + 2) 192 [some (.inr x0), some (.inl q.1)] [] q.2 o M' := by
  unfold X5_init_B192 at h
  refine wp_iload_n dX5_init_192 rfl ?_
  refine wp_bipush (v := 8) dX5_init_193 (by decide) ?_
  refine wp_icmp_ge (tgt := 217) dX5_init_195 (by decide) (fun hc_ => ?_) (fun hc_ => ?_)
  · replace h := ite_t hc_ h
    cases h
    exact wp_ls (lsN (lsN lsZ)) (he0 q.2 rfl)
  · replace h := ite_f hc_ h
    refine wp_aload_n dX5_init_198 rfl ?_
    obtain ⟨v1, e2, h⟩ := bnd h
    refine wp_getR (c := 5) (k := 4) dX5_init_199 e2 (by decide) (by decide) rfl fl_RX5_37 ?_
    refine wp_iload_n dX5_init_202 rfl ?_
    obtain ⟨M3, e_, h⟩ := bnd h
    refine wp_new (c := 9) dX5_init_203 (by decide) cl_RX5_35 obi_9 obn_9 ?_
    rw [Option.some.inj e_]
    refine wp_dup dX5_init_206 ?_
    obtain ⟨q4, e5, h⟩ := bnd h
    refine wp_callIN (As := []) dX5_init_207 (sh_X9_init_ok (d := d) e5) okX9_init nnX9_init rfl rfl ⟨_, rfl⟩ iiX9_init nl_RX5_68 rfl (Nat.le_of_ble_eq_true rfl) ?_
    obtain ⟨M6, e7, h⟩ := bnd h
    refine wp_aastore (t := 8) (c := 9) dX5_init_210 e7 (by decide) (by decide) rfl ?_
    refine wp_iinc (v := q.1 + 1) dX5_init_211 rfl rfl ?_
    refine wp_goto (tgt := 192) dX5_init_214 (by decide) ?_
    cases h
    exact wp_ls (lsS (lsS lsZ)) (hc (q.1 + 1, M6) rfl)

theorem X5_init_B192_lp {w : Gw} {d : Nat} {x0 : Nat} {o : Go} {M' : Gm} {r : Gm} : ∀ (n : Nat) (q : Int32 × Gm), lp (X5_init_B192 x0) n q = some r → (∀ t : Gm, r = t → Wp w mdX5_init (d + 2) 217 [none, none] [] t o M') → Wp w mdX5_init (d + 2) 192 [some (.inr x0), some (.inl q.1)] [] q.2 o M' := by
  intro n
  induction n with
  | zero => intro q h; cases h
  | succ n ih =>
    intro q h he0
    cases hb : X5_init_B192 x0 q with
    | none => rw [lp_succ, hb] at h; cases h
    | some out =>
      rw [lp_succ, hb] at h
      exact X5_init_B192_ok hb (fun t e => ih t (by rw [e] at h; exact h) he0) (fun t e => he0 t (by rw [e] at h; cases h; rfl))
theorem X5_init_F_ok {w : Gw} {d : Nat} {x0 : Nat} {M : Gm} {out : Gm} (h0_ : M.2.2[x0]? = some (5, 0)) (h : X5_init_F x0 M = some out) : Wp w mdX5_init (d + 2) 0 [some (.inr x0), none] [] M (.inl none) out := by
  unfold X5_init_F at h
  refine wp_aload_n dX5_init_0 rfl ?_
  refine wp_objInit dX5_init_1 h0_ (by decide) ml_RX5_3 oi_1 oi_2 (Nat.le_of_ble_eq_true rfl) ?_
  refine wp_aload_n dX5_init_4 rfl ?_
  refine wp_iconst (v := 5) dX5_init_5 (by decide) ?_
  obtain ⟨M1, e2, h⟩ := bnd h
  refine wp_anew (t := 4) dX5_init_6 e2 (by decide) rfl cl_RX5_9 ao_4 ?_
  obtain ⟨M3, e4, h⟩ := bnd h
  refine wp_putR (c := 5) (k := 0) dX5_init_9 e4 (by decide) (by decide) rfl fl_RX5_11 (Or.inr ⟨rfl, rfl⟩) ?_
  refine wp_aload_n dX5_init_12 rfl ?_
  refine wp_bipush (v := 10) dX5_init_13 (by decide) ?_
  obtain ⟨M5, e6, h⟩ := bnd h
  refine wp_anew (t := 5) dX5_init_15 e6 (by decide) rfl cl_RX5_17 ao_5 ?_
  obtain ⟨M7, e8, h⟩ := bnd h
  refine wp_putR (c := 5) (k := 1) dX5_init_18 e8 (by decide) (by decide) rfl fl_RX5_19 (Or.inr ⟨rfl, rfl⟩) ?_
  refine wp_aload_n dX5_init_21 rfl ?_
  refine wp_bipush (v := 6) dX5_init_22 (by decide) ?_
  obtain ⟨M9, e10, h⟩ := bnd h
  refine wp_anew (t := 6) dX5_init_24 e10 (by decide) rfl cl_RX5_23 ao_6 ?_
  obtain ⟨M11, e12, h⟩ := bnd h
  refine wp_putR (c := 5) (k := 2) dX5_init_27 e12 (by decide) (by decide) rfl fl_RX5_25 (Or.inr ⟨rfl, rfl⟩) ?_
  refine wp_aload_n dX5_init_30 rfl ?_
  refine wp_bipush (v := 60) dX5_init_31 (by decide) ?_
  obtain ⟨M13, e14, h⟩ := bnd h
  refine wp_anew (t := 7) dX5_init_33 e14 (by decide) rfl cl_RX5_29 ao_7 ?_
  obtain ⟨M15, e16, h⟩ := bnd h
  refine wp_putR (c := 5) (k := 3) dX5_init_36 e16 (by decide) (by decide) rfl fl_RX5_31 (Or.inr ⟨rfl, rfl⟩) ?_
  refine wp_aload_n dX5_init_39 rfl ?_
  refine wp_bipush (v := 8) dX5_init_40 (by decide) ?_
  obtain ⟨M17, e18, h⟩ := bnd h
  refine wp_anew (t := 8) dX5_init_42 e18 (by decide) rfl cl_RX5_35 ao_8 ?_
  obtain ⟨M19, e20, h⟩ := bnd h
  refine wp_putR (c := 5) (k := 4) dX5_init_45 e20 (by decide) (by decide) rfl fl_RX5_37 (Or.inr ⟨rfl, rfl⟩) ?_
  refine wp_aload_n dX5_init_48 rfl ?_
  refine wp_iconst (v := 0) dX5_init_49 (by decide) ?_
  obtain ⟨M21, e22, h⟩ := bnd h
  refine wp_putI (c := 5) (k := 5) dX5_init_50 e22 (by decide) (by decide) rfl fl_RX5_41 (Or.inl rfl) ?_
  refine wp_aload_n dX5_init_53 rfl ?_
  refine wp_iconst (v := 0) dX5_init_54 (by decide) ?_
  obtain ⟨M23, e24, h⟩ := bnd h
  refine wp_putI (c := 5) (k := 6) dX5_init_55 e24 (by decide) (by decide) rfl fl_RX5_45 (Or.inl rfl) ?_
  refine wp_aload_n dX5_init_58 rfl ?_
  refine wp_iconst (v := 0) dX5_init_59 (by decide) ?_
  obtain ⟨M25, e26, h⟩ := bnd h
  refine wp_putI (c := 5) (k := 7) dX5_init_60 e26 (by decide) (by decide) rfl fl_RX5_48 (Or.inl rfl) ?_
  refine wp_aload_n dX5_init_63 rfl ?_
  refine wp_iconst (v := 0) dX5_init_64 (by decide) ?_
  obtain ⟨M27, e28, h⟩ := bnd h
  refine wp_putI (c := 5) (k := 8) dX5_init_65 e28 (by decide) (by decide) rfl fl_RX5_51 (Or.inl rfl) ?_
  refine wp_aload_n dX5_init_68 rfl ?_
  refine wp_iconst (v := 0) dX5_init_69 (by decide) ?_
  obtain ⟨M29, e30, h⟩ := bnd h
  refine wp_putI (c := 5) (k := 9) dX5_init_70 e30 (by decide) (by decide) rfl fl_RX5_54 (Or.inl rfl) ?_
  refine wp_aload_n dX5_init_73 rfl ?_
  refine wp_iconst (v := 0) dX5_init_74 (by decide) ?_
  obtain ⟨M31, e32, h⟩ := bnd h
  refine wp_putI (c := 5) (k := 10) dX5_init_75 e32 (by decide) (by decide) rfl fl_RX5_57 (Or.inl rfl) ?_
  refine wp_aload_n dX5_init_78 rfl ?_
  refine wp_iconst (v := 0) dX5_init_79 (by decide) ?_
  obtain ⟨M33, e34, h⟩ := bnd h
  refine wp_putZ (c := 5) (k := 11) dX5_init_80 e34 (by decide) (by decide) rfl fl_RX5_60 (Or.inl rfl) ?_
  refine wp_iconst (v := 0) dX5_init_83 (by decide) ?_
  refine wp_istore_n dX5_init_84 (Nat.le_of_ble_eq_true rfl) ?_
  obtain ⟨r35, e36, h⟩ := bnd h
  refine wp_ls (lsS (lsS lsZ)) (X5_init_B85_lp FU _ e36 ?_)
  intro t_ ht_; cases ht_
  refine wp_iconst (v := 0) dX5_init_109 (by decide) ?_
  refine wp_istore_n dX5_init_110 (Nat.le_of_ble_eq_true rfl) ?_
  obtain ⟨r37, e38, h⟩ := bnd h
  refine wp_ls (lsS (lsS lsZ)) (X5_init_B111_lp FU _ e38 ?_)
  intro t_ ht_; cases ht_
  refine wp_iconst (v := 0) dX5_init_136 (by decide) ?_
  refine wp_istore_n dX5_init_137 (Nat.le_of_ble_eq_true rfl) ?_
  obtain ⟨r39, e40, h⟩ := bnd h
  refine wp_ls (lsS (lsS lsZ)) (X5_init_B138_lp FU _ e40 ?_)
  intro t_ ht_; cases ht_
  refine wp_iconst (v := 0) dX5_init_163 (by decide) ?_
  refine wp_istore_n dX5_init_164 (Nat.le_of_ble_eq_true rfl) ?_
  obtain ⟨r41, e42, h⟩ := bnd h
  refine wp_ls (lsS (lsS lsZ)) (X5_init_B165_lp FU _ e42 ?_)
  intro t_ ht_; cases ht_
  refine wp_iconst (v := 0) dX5_init_190 (by decide) ?_
  refine wp_istore_n dX5_init_191 (Nat.le_of_ble_eq_true rfl) ?_
  obtain ⟨r43, e44, h⟩ := bnd h
  refine wp_ls (lsS (lsS lsZ)) (X5_init_B192_lp FU _ e44 ?_)
  intro t_ ht_; cases ht_
  cases h
  exact wp_ret dX5_init_217 rfl

theorem sh_X5_init_ok {w : Gw} {d : Nat} {x0 : Nat} {M : Gm} {out : Gm} (h : sh_X5_init x0 M = some out) : Ev w mdX5_init (d + 2) [.inr x0] M (.inl none) out := by
  obtain ⟨u, e0, h⟩ := bnd h
  exact ev_of okX5_init ⟨_, _, rfl, isO_of e0 (by decide), by decide⟩ (Nat.le_of_ble_eq_true rfl) (X5_init_F_ok (isO_of e0 (by decide)) h)

/-! HeatGovernor$Reader.<init>([B)V -/
def X6_init_F (x0 : Nat) (x1 : Nat) (M : Gm) : Option (Gm) :=
  (pfI M x0 6 1 0).bind fun M1 =>
  (pfI M1 x0 6 2 0).bind fun M3 =>
  (pfI M3 x0 6 3 0).bind fun M5 =>
  (pfI M5 x0 6 4 0).bind fun M7 =>
  (pfI M7 x0 6 5 0).bind fun M9 =>
  (pfR M9 x0 6 0 x1).bind fun M11 =>
  some M11
def sh_X6_init (x0 : Nat) (x1 : Nat) (M : Gm) : Option (Gm) := (isO M x0 6).bind fun _ => X6_init_F x0 x1 M
theorem X6_init_F_ok {w : Gw} {d : Nat} {x0 : Nat} {x1 : Nat} {M : Gm} {out : Gm} (h0_ : M.2.2[x0]? = some (6, 0)) (h : X6_init_F x0 x1 M = some out) : Wp w mdX6_init (d + 1) 0 [some (.inr x0), some (.inr x1)] [] M (.inl none) out := by
  unfold X6_init_F at h
  refine wp_aload_n dX6_init_0 rfl ?_
  refine wp_objInit dX6_init_1 h0_ (by decide) ml_RX6_3 oi_1 oi_2 (Nat.le_of_ble_eq_true rfl) ?_
  refine wp_aload_n dX6_init_4 rfl ?_
  refine wp_iconst (v := 0) dX6_init_5 (by decide) ?_
  obtain ⟨M1, e2, h⟩ := bnd h
  refine wp_putI (c := 6) (k := 1) dX6_init_6 e2 (by decide) (by decide) rfl fl_RX6_9 (Or.inl rfl) ?_
  refine wp_aload_n dX6_init_9 rfl ?_
  refine wp_iconst (v := 0) dX6_init_10 (by decide) ?_
  obtain ⟨M3, e4, h⟩ := bnd h
  refine wp_putI (c := 6) (k := 2) dX6_init_11 e4 (by decide) (by decide) rfl fl_RX6_15 (Or.inl rfl) ?_
  refine wp_aload_n dX6_init_14 rfl ?_
  refine wp_iconst (v := 0) dX6_init_15 (by decide) ?_
  obtain ⟨M5, e6, h⟩ := bnd h
  refine wp_putI (c := 6) (k := 3) dX6_init_16 e6 (by decide) (by decide) rfl fl_RX6_18 (Or.inl rfl) ?_
  refine wp_aload_n dX6_init_19 rfl ?_
  refine wp_iconst (v := 0) dX6_init_20 (by decide) ?_
  obtain ⟨M7, e8, h⟩ := bnd h
  refine wp_putI (c := 6) (k := 4) dX6_init_21 e8 (by decide) (by decide) rfl fl_RX6_21 (Or.inl rfl) ?_
  refine wp_aload_n dX6_init_24 rfl ?_
  refine wp_iconst (v := 0) dX6_init_25 (by decide) ?_
  obtain ⟨M9, e10, h⟩ := bnd h
  refine wp_putI (c := 6) (k := 5) dX6_init_26 e10 (by decide) (by decide) rfl fl_RX6_24 (Or.inl rfl) ?_
  refine wp_aload_n dX6_init_29 rfl ?_
  refine wp_aload_n dX6_init_30 rfl ?_
  obtain ⟨M11, e12, h⟩ := bnd h
  refine wp_putR (c := 6) (k := 0) dX6_init_31 e12 (by decide) (by decide) rfl fl_RX6_27 (Or.inr ⟨rfl, rfl⟩) ?_
  cases h
  exact wp_ret dX6_init_34 rfl

theorem sh_X6_init_ok {w : Gw} {d : Nat} {x0 : Nat} {x1 : Nat} {M : Gm} {out : Gm} (h : sh_X6_init x0 x1 M = some out) : Ev w mdX6_init (d + 1) [.inr x0, .inr x1] M (.inl none) out := by
  obtain ⟨u, e0, h⟩ := bnd h
  exact ev_of okX6_init ⟨_, _, rfl, isO_of e0 (by decide), by decide⟩ (Nat.le_of_ble_eq_true rfl) (X6_init_F_ok (isO_of e0 (by decide)) h)

/-! HeatGovernor.<init>()V -/
def X11_init_F (x0 : Nat) (M : Gm) : Option (Gm) :=
  (mkA M 1 700).bind fun M1 =>
  (pfR M1 x0 11 0 M.2.2.length).bind fun M3 =>
  (pfI M3 x0 11 1 0).bind fun M5 =>
  (pfI M5 x0 11 2 ((-1))).bind fun M7 =>
  (some (nwM M7 (6, 0))).bind fun M9 =>
  (gfR M9 x0 11 0).bind fun v10 =>
  (sh_X6_init M7.2.2.length v10 M9).bind fun q12 =>
  (pfR q12 x0 11 3 M7.2.2.length).bind fun M14 =>
  (some (nwM M14 (5, 0))).bind fun M16 =>
  (sh_X5_init M14.2.2.length M16).bind fun q17 =>
  (pfR q17 x0 11 4 M14.2.2.length).bind fun M19 =>
  (some (nwM M19 (5, 0))).bind fun M21 =>
  (sh_X5_init M19.2.2.length M21).bind fun q22 =>
  (pfR q22 x0 11 5 M19.2.2.length).bind fun M24 =>
  (some (nwM M24 (4, 0))).bind fun M26 =>
  (gfR M26 x0 11 4).bind fun v27 =>
  (sh_X4_init M24.2.2.length v27 M26).bind fun q29 =>
  (pfR q29 x0 11 6 M24.2.2.length).bind fun M31 =>
  (some (nwM M31 (4, 0))).bind fun M33 =>
  (gfR M33 x0 11 4).bind fun v34 =>
  (sh_X4_init M31.2.2.length v34 M33).bind fun q36 =>
  (pfR q36 x0 11 7 M31.2.2.length).bind fun M38 =>
  (pfZ M38 x0 11 8 0).bind fun M40 =>
  (some (nwM M40 (1, 0))).bind fun M42 =>
  (sh_X1_init M40.2.2.length M42).bind fun q43 =>
  (pfR q43 x0 11 9 M40.2.2.length).bind fun M45 =>
  (some (nwM M45 (3, 0))).bind fun M47 =>
  (gfR M47 x0 11 4).bind fun v48 =>
  (gfR M47 x0 11 9).bind fun v50 =>
  (sh_X3_init M45.2.2.length v48 v50 M47).bind fun q52 =>
  (pfR q52 x0 11 10 M45.2.2.length).bind fun M54 =>
  some M54
def sh_X11_init (x0 : Nat) (M : Gm) : Option (Gm) := (isO M x0 11).bind fun _ => X11_init_F x0 M
theorem X11_init_F_ok {w : Gw} {d : Nat} {x0 : Nat} {M : Gm} {out : Gm} (h0_ : M.2.2[x0]? = some (11, 0)) (h : X11_init_F x0 M = some out) : Wp w mdX11_init (d + 3) 0 [some (.inr x0)] [] M (.inl none) out := by
  unfold X11_init_F at h
  refine wp_aload_n dX11_init_0 rfl ?_
  refine wp_objInit dX11_init_1 h0_ (by decide) ml_RX11_3 oi_1 oi_2 (Nat.le_of_ble_eq_true rfl) ?_
  refine wp_aload_n dX11_init_4 rfl ?_
  refine wp_sipush (v := 700) dX11_init_5 (by decide) ?_
  obtain ⟨M1, e2, h⟩ := bnd h
  refine wp_newB dX11_init_8 e2 ac_byte ?_
  obtain ⟨M3, e4, h⟩ := bnd h
  refine wp_putR (c := 11) (k := 0) dX11_init_10 e4 (by decide) (by decide) rfl fl_RX11_9 (Or.inr ⟨rfl, rfl⟩) ?_
  refine wp_aload_n dX11_init_13 rfl ?_
  refine wp_iconst (v := 0) dX11_init_14 (by decide) ?_
  obtain ⟨M5, e6, h⟩ := bnd h
  refine wp_putI (c := 11) (k := 1) dX11_init_15 e6 (by decide) (by decide) rfl fl_RX11_13 (Or.inl rfl) ?_
  refine wp_aload_n dX11_init_18 rfl ?_
  refine wp_iconst (v := (-1)) dX11_init_19 (by decide) ?_
  obtain ⟨M7, e8, h⟩ := bnd h
  refine wp_putI (c := 11) (k := 2) dX11_init_20 e8 (by decide) (by decide) rfl fl_RX11_17 (Or.inl rfl) ?_
  refine wp_aload_n dX11_init_23 rfl ?_
  obtain ⟨M9, e_, h⟩ := bnd h
  refine wp_new (c := 6) dX11_init_24 (by decide) cl_RX11_20 obi_6 obn_6 ?_
  rw [Option.some.inj e_]
  refine wp_dup dX11_init_27 ?_
  refine wp_aload_n dX11_init_28 rfl ?_
  obtain ⟨v10, e11, h⟩ := bnd h
  refine wp_getR (c := 11) (k := 0) dX11_init_29 e11 (by decide) (by decide) rfl fl_RX11_9 ?_
  obtain ⟨q12, e13, h⟩ := bnd h
  refine wp_callI (As := [.inr v10]) dX11_init_32 (sh_X6_init_ok (d := d + 1) e13) okX6_init nnX6_init rfl rfl ⟨_, rfl⟩ iiX6_init ml_RX11_22 rfl (Nat.le_of_ble_eq_true rfl) ?_
  obtain ⟨M14, e15, h⟩ := bnd h
  refine wp_putR (c := 11) (k := 3) dX11_init_35 e15 (by decide) (by decide) rfl fl_RX11_25 (Or.inr ⟨rfl, rfl⟩) ?_
  refine wp_aload_n dX11_init_38 rfl ?_
  obtain ⟨M16, e_, h⟩ := bnd h
  refine wp_new (c := 5) dX11_init_39 (by decide) cl_RX11_29 obi_5 obn_5 ?_
  rw [Option.some.inj e_]
  refine wp_dup dX11_init_42 ?_
  obtain ⟨q17, e18, h⟩ := bnd h
  refine wp_callI (As := []) dX11_init_43 (sh_X5_init_ok (d := d) e18) okX5_init nnX5_init rfl rfl ⟨_, rfl⟩ iiX5_init ml_RX11_31 rfl (Nat.le_of_ble_eq_true rfl) ?_
  obtain ⟨M19, e20, h⟩ := bnd h
  refine wp_putR (c := 11) (k := 4) dX11_init_46 e20 (by decide) (by decide) rfl fl_RX11_32 (Or.inl rfl) ?_
  refine wp_aload_n dX11_init_49 rfl ?_
  obtain ⟨M21, e_, h⟩ := bnd h
  refine wp_new (c := 5) dX11_init_50 (by decide) cl_RX11_29 obi_5 obn_5 ?_
  rw [Option.some.inj e_]
  refine wp_dup dX11_init_53 ?_
  obtain ⟨q22, e23, h⟩ := bnd h
  refine wp_callI (As := []) dX11_init_54 (sh_X5_init_ok (d := d) e23) okX5_init nnX5_init rfl rfl ⟨_, rfl⟩ iiX5_init ml_RX11_31 rfl (Nat.le_of_ble_eq_true rfl) ?_
  obtain ⟨M24, e25, h⟩ := bnd h
  refine wp_putR (c := 11) (k := 5) dX11_init_57 e25 (by decide) (by decide) rfl fl_RX11_36 (Or.inl rfl) ?_
  refine wp_aload_n dX11_init_60 rfl ?_
  obtain ⟨M26, e_, h⟩ := bnd h
  refine wp_new (c := 4) dX11_init_61 (by decide) cl_RX11_39 obi_4 obn_4 ?_
  rw [Option.some.inj e_]
  refine wp_dup dX11_init_64 ?_
  refine wp_aload_n dX11_init_65 rfl ?_
  obtain ⟨v27, e28, h⟩ := bnd h
  refine wp_getR (c := 11) (k := 4) dX11_init_66 e28 (by decide) (by decide) rfl fl_RX11_32 ?_
  obtain ⟨q29, e30, h⟩ := bnd h
  refine wp_callI (As := [.inr v27]) dX11_init_69 (sh_X4_init_ok (d := d) e30) okX4_init nnX4_init rfl rfl ⟨_, rfl⟩ iiX4_init ml_RX11_41 rfl (Nat.le_of_ble_eq_true rfl) ?_
  obtain ⟨M31, e32, h⟩ := bnd h
  refine wp_putR (c := 11) (k := 6) dX11_init_72 e32 (by decide) (by decide) rfl fl_RX11_44 (Or.inr ⟨rfl, rfl⟩) ?_
  refine wp_aload_n dX11_init_75 rfl ?_
  obtain ⟨M33, e_, h⟩ := bnd h
  refine wp_new (c := 4) dX11_init_76 (by decide) cl_RX11_39 obi_4 obn_4 ?_
  rw [Option.some.inj e_]
  refine wp_dup dX11_init_79 ?_
  refine wp_aload_n dX11_init_80 rfl ?_
  obtain ⟨v34, e35, h⟩ := bnd h
  refine wp_getR (c := 11) (k := 4) dX11_init_81 e35 (by decide) (by decide) rfl fl_RX11_32 ?_
  obtain ⟨q36, e37, h⟩ := bnd h
  refine wp_callI (As := [.inr v34]) dX11_init_84 (sh_X4_init_ok (d := d) e37) okX4_init nnX4_init rfl rfl ⟨_, rfl⟩ iiX4_init ml_RX11_41 rfl (Nat.le_of_ble_eq_true rfl) ?_
  obtain ⟨M38, e39, h⟩ := bnd h
  refine wp_putR (c := 11) (k := 7) dX11_init_87 e39 (by decide) (by decide) rfl fl_RX11_48 (Or.inr ⟨rfl, rfl⟩) ?_
  refine wp_aload_n dX11_init_90 rfl ?_
  refine wp_iconst (v := 0) dX11_init_91 (by decide) ?_
  obtain ⟨M40, e41, h⟩ := bnd h
  refine wp_putZ (c := 11) (k := 8) dX11_init_92 e41 (by decide) (by decide) rfl fl_RX11_51 (Or.inl rfl) ?_
  refine wp_aload_n dX11_init_95 rfl ?_
  obtain ⟨M42, e_, h⟩ := bnd h
  refine wp_new (c := 1) dX11_init_96 (by decide) cl_RX11_55 obi_1 obn_1 ?_
  rw [Option.some.inj e_]
  refine wp_dup dX11_init_99 ?_
  obtain ⟨q43, e44, h⟩ := bnd h
  refine wp_callIN (As := []) dX11_init_100 (sh_X1_init_ok (d := d + 1) e44) okX1_init nnX1_init rfl rfl ⟨_, rfl⟩ iiX1_init nl_RX11_57 rfl (Nat.le_of_ble_eq_true rfl) ?_
  obtain ⟨M45, e46, h⟩ := bnd h
  refine wp_putR (c := 11) (k := 9) dX11_init_103 e46 (by decide) (by decide) rfl fl_RX11_58 (Or.inr ⟨rfl, rfl⟩) ?_
  refine wp_aload_n dX11_init_106 rfl ?_
  obtain ⟨M47, e_, h⟩ := bnd h
  refine wp_new (c := 3) dX11_init_107 (by decide) cl_RX11_62 obi_3 obn_3 ?_
  rw [Option.some.inj e_]
  refine wp_dup dX11_init_110 ?_
  refine wp_aload_n dX11_init_111 rfl ?_
  obtain ⟨v48, e49, h⟩ := bnd h
  refine wp_getR (c := 11) (k := 4) dX11_init_112 e49 (by decide) (by decide) rfl fl_RX11_32 ?_
  refine wp_aload_n dX11_init_115 rfl ?_
  obtain ⟨v50, e51, h⟩ := bnd h
  refine wp_getR (c := 11) (k := 9) dX11_init_116 e51 (by decide) (by decide) rfl fl_RX11_58 ?_
  obtain ⟨q52, e53, h⟩ := bnd h
  refine wp_callI (As := [.inr v48, .inr v50]) dX11_init_119 (sh_X3_init_ok (d := d) e53) okX3_init nnX3_init rfl rfl ⟨_, rfl⟩ iiX3_init ml_RX11_64 rfl (Nat.le_of_ble_eq_true rfl) ?_
  obtain ⟨M54, e55, h⟩ := bnd h
  refine wp_putR (c := 11) (k := 10) dX11_init_122 e55 (by decide) (by decide) rfl fl_RX11_67 (Or.inr ⟨rfl, rfl⟩) ?_
  cases h
  exact wp_ret dX11_init_125 rfl

theorem sh_X11_init_ok {w : Gw} {d : Nat} {x0 : Nat} {M : Gm} {out : Gm} (h : sh_X11_init x0 M = some out) : Ev w mdX11_init (d + 3) [.inr x0] M (.inl none) out := by
  obtain ⟨u, e0, h⟩ := bnd h
  exact ev_of okX11_init ⟨_, _, rfl, isO_of e0 (by decide), by decide⟩ (Nat.le_of_ble_eq_true rfl) (X11_init_F_ok (isO_of e0 (by decide)) h)

/-! HeatGovernor.putNumber(I)V -/
def X11_putNumber_B3 (x0 : Nat) (x1 : Int32) (q : Int32 × Gm) : Option ((Int32 × Gm) ⊕ Gm) :=
  if q.1 < 0 then
    some (.inr q.2)
  else
    (gfI q.2 x0 11 1).bind fun v1 =>
    if 700 ≤ v1 then
      some (.inr q.2)
    else
      (gfR q.2 x0 11 0).bind fun v3 =>
      (gfI q.2 x0 11 1).bind fun v5 =>
      (stA q.2 1 v3 v5 ((ushI x1 q.1).toInt8.toInt32).toInt8.toInt32).bind fun M7 =>
      (gfI M7 x0 11 1).bind fun v9 =>
      (pfI M7 x0 11 1 (v9 + 1)).bind fun M11 =>
      some (.inl (q.1 + (-8), M11))
def X11_putNumber_J46 (M : Gm) : Option (Gm) :=
  some M
def X11_putNumber_F (x0 : Nat) (x1 : Int32) (M : Gm) : Option (Gm) :=
  (lp (X11_putNumber_B3 x0 x1) FU (24, M)).bind fun r1 =>
  X11_putNumber_J46 r1
def sh_X11_putNumber (x0 : Nat) (x1 : Int32) (M : Gm) : Option (Gm) := (isO M x0 11).bind fun _ => X11_putNumber_F x0 x1 M
theorem X11_putNumber_B3_ok {w : Gw} {d : Nat} {x0 : Nat} {x1 : Int32} {q : Int32 × Gm} {o : Go} {M' : Gm} {out : (Int32 × Gm) ⊕ Gm} (h : X11_putNumber_B3 x0 x1 q = some out) (hc : ∀ t : Int32 × Gm, out = .inl t → Wp w mdX11_putNumber d 3 [some (.inr x0), some (.inl x1), some (.inl t.1)] [] t.2 o M') (he0 : ∀ t : Gm, out = .inr t → Wp w mdX11_putNumber d 46 [none, none, none] [] t o M') : Wp w mdX11_putNumber d 3 [some (.inr x0), some (.inl x1), some (.inl q.1)] [] q.2 o M' := by
  unfold X11_putNumber_B3 at h
  refine wp_iload_n dX11_putNumber_3 rfl ?_
  refine wp_if_lt (tgt := 46) dX11_putNumber_4 (by decide) (fun hc_ => ?_) (fun hc_ => ?_)
  · replace h := ite_t hc_ h
    cases h
    exact wp_ls (lsN (lsN (lsN lsZ))) (he0 q.2 rfl)
  · replace h := ite_f hc_ h
    refine wp_aload_n dX11_putNumber_7 rfl ?_
    obtain ⟨v1, e2, h⟩ := bnd h
    refine wp_getI (c := 11) (k := 1) dX11_putNumber_8 e2 (by decide) (by decide) rfl fl_RX11_13 ?_
    refine wp_sipush (v := 700) dX11_putNumber_11 (by decide) ?_
    refine wp_icmp_ge (tgt := 46) dX11_putNumber_14 (by decide) (fun hc_ => ?_) (fun hc_ => ?_)
    · replace h := ite_t hc_ h
      cases h
      exact wp_ls (lsN (lsN (lsN lsZ))) (he0 q.2 rfl)
    · replace h := ite_f hc_ h
      refine wp_aload_n dX11_putNumber_17 rfl ?_
      obtain ⟨v3, e4, h⟩ := bnd h
      refine wp_getR (c := 11) (k := 0) dX11_putNumber_18 e4 (by decide) (by decide) rfl fl_RX11_9 ?_
      refine wp_aload_n dX11_putNumber_21 rfl ?_
      obtain ⟨v5, e6, h⟩ := bnd h
      refine wp_getI (c := 11) (k := 1) dX11_putNumber_22 e6 (by decide) (by decide) rfl fl_RX11_13 ?_
      refine wp_iload_n dX11_putNumber_25 rfl ?_
      refine wp_iload_n dX11_putNumber_26 rfl ?_
      refine wp_iushr dX11_putNumber_27 ?_
      refine wp_i2b dX11_putNumber_28 ?_
      obtain ⟨M7, e8, h⟩ := bnd h
      refine wp_bastore dX11_putNumber_29 e8 ?_
      refine wp_aload_n dX11_putNumber_30 rfl ?_
      refine wp_dup dX11_putNumber_31 ?_
      obtain ⟨v9, e10, h⟩ := bnd h
      refine wp_getI (c := 11) (k := 1) dX11_putNumber_32 e10 (by decide) (by decide) rfl fl_RX11_13 ?_
      refine wp_iconst (v := 1) dX11_putNumber_35 (by decide) ?_
      refine wp_iadd dX11_putNumber_36 ?_
      obtain ⟨M11, e12, h⟩ := bnd h
      refine wp_putI (c := 11) (k := 1) dX11_putNumber_37 e12 (by decide) (by decide) rfl fl_RX11_13 (Or.inl rfl) ?_
      refine wp_iinc (v := q.1 + (-8)) dX11_putNumber_40 rfl rfl ?_
      refine wp_goto (tgt := 3) dX11_putNumber_43 (by decide) ?_
      cases h
      exact wp_ls (lsS (lsS (lsS lsZ))) (hc (q.1 + (-8), M11) rfl)

theorem X11_putNumber_B3_lp {w : Gw} {d : Nat} {x0 : Nat} {x1 : Int32} {o : Go} {M' : Gm} {r : Gm} : ∀ (n : Nat) (q : Int32 × Gm), lp (X11_putNumber_B3 x0 x1) n q = some r → (∀ t : Gm, r = t → Wp w mdX11_putNumber d 46 [none, none, none] [] t o M') → Wp w mdX11_putNumber d 3 [some (.inr x0), some (.inl x1), some (.inl q.1)] [] q.2 o M' := by
  intro n
  induction n with
  | zero => intro q h; cases h
  | succ n ih =>
    intro q h he0
    cases hb : X11_putNumber_B3 x0 x1 q with
    | none => rw [lp_succ, hb] at h; cases h
    | some out =>
      rw [lp_succ, hb] at h
      exact X11_putNumber_B3_ok hb (fun t e => ih t (by rw [e] at h; exact h) he0) (fun t e => he0 t (by rw [e] at h; cases h; rfl))
theorem X11_putNumber_J46_ok {w : Gw} {d : Nat} {M : Gm} {out : Gm} (h : X11_putNumber_J46 M = some out) : Wp w mdX11_putNumber d 46 [none, none, none] [] M (.inl none) out := by
  unfold X11_putNumber_J46 at h
  cases h
  exact wp_ret dX11_putNumber_46 rfl

theorem X11_putNumber_F_ok {w : Gw} {d : Nat} {x0 : Nat} {x1 : Int32} {M : Gm} {out : Gm} (h : X11_putNumber_F x0 x1 M = some out) : Wp w mdX11_putNumber d 0 [some (.inr x0), some (.inl x1), none] [] M (.inl none) out := by
  unfold X11_putNumber_F at h
  refine wp_bipush (v := 24) dX11_putNumber_0 (by decide) ?_
  refine wp_istore_n dX11_putNumber_2 (Nat.le_of_ble_eq_true rfl) ?_
  obtain ⟨r1, e2, h⟩ := bnd h
  refine wp_ls (lsS (lsS (lsS lsZ))) (X11_putNumber_B3_lp FU _ e2 ?_)
  intro t_ ht_; cases ht_
  exact wp_ls (lsN (lsN (lsN lsZ))) (X11_putNumber_J46_ok h)

theorem sh_X11_putNumber_ok {w : Gw} {d : Nat} {x0 : Nat} {x1 : Int32} {M : Gm} {out : Gm} (h : sh_X11_putNumber x0 x1 M = some out) : Ev w mdX11_putNumber d [.inr x0, .inl x1] M (.inl none) out := by
  obtain ⟨u, e0, h⟩ := bnd h
  exact ev_of okX11_putNumber ⟨_, _, rfl, isO_of e0 (by decide), by decide⟩ (Nat.le_of_ble_eq_true rfl) (X11_putNumber_F_ok h)

/-! HeatGovernor.feed(IIIII)I -/
def X11_feed_F (x0 : Nat) (x1 : Int32) (x2 : Int32) (x3 : Int32) (x4 : Int32) (x5 : Int32) (M : Gm) : Option (Int32 × Gm) :=
  (gfI M x0 11 1).bind fun v1 =>
  if (v1 + 20) ≤ 700 then
    (sh_X11_putNumber x0 x1 M).bind fun q3 =>
    (sh_X11_putNumber x0 x2 q3).bind fun q5 =>
    (sh_X11_putNumber x0 x3 q5).bind fun q7 =>
    (sh_X11_putNumber x0 x4 q7).bind fun q9 =>
    (sh_X11_putNumber x0 x5 q9).bind fun q11 =>
    (gfI q11 x0 11 1).bind fun v13 =>
    some (v13, q11)
  else
    some ((-1), M)
def sh_X11_feed (x0 : Nat) (x1 : Int32) (x2 : Int32) (x3 : Int32) (x4 : Int32) (x5 : Int32) (M : Gm) : Option (Int32 × Gm) := (isO M x0 11).bind fun _ => X11_feed_F x0 x1 x2 x3 x4 x5 M
theorem X11_feed_F_ok {w : Gw} {d : Nat} {x0 : Nat} {x1 : Int32} {x2 : Int32} {x3 : Int32} {x4 : Int32} {x5 : Int32} {M : Gm} {out : Int32 × Gm} (h : X11_feed_F x0 x1 x2 x3 x4 x5 M = some out) : Wp w mdX11_feed (d + 1) 0 [some (.inr x0), some (.inl x1), some (.inl x2), some (.inl x3), some (.inl x4), some (.inl x5)] [] M (.inl (some (.inl out.1))) out.2 := by
  unfold X11_feed_F at h
  refine wp_aload_n dX11_feed_0 rfl ?_
  obtain ⟨v1, e2, h⟩ := bnd h
  refine wp_getI (c := 11) (k := 1) dX11_feed_1 e2 (by decide) (by decide) rfl fl_RX11_13 ?_
  refine wp_bipush (v := 20) dX11_feed_4 (by decide) ?_
  refine wp_iadd dX11_feed_6 ?_
  refine wp_sipush (v := 700) dX11_feed_7 (by decide) ?_
  refine wp_icmp_le (tgt := 15) dX11_feed_10 (by decide) (fun hc_ => ?_) (fun hc_ => ?_)
  · replace h := ite_t hc_ h
    refine wp_aload_n dX11_feed_15 rfl ?_
    refine wp_iload_n dX11_feed_16 rfl ?_
    obtain ⟨q3, e4, h⟩ := bnd h
    refine wp_callV (As := [.inl x1]) dX11_feed_17 (sh_X11_putNumber_ok (d := d) e4) okX11_putNumber nnX11_putNumber vvX11_putNumber ml_RX11_71 rfl (Nat.le_of_ble_eq_true rfl) ?_
    refine wp_aload_n dX11_feed_20 rfl ?_
    refine wp_iload_n dX11_feed_21 rfl ?_
    obtain ⟨q5, e6, h⟩ := bnd h
    refine wp_callV (As := [.inl x2]) dX11_feed_22 (sh_X11_putNumber_ok (d := d) e6) okX11_putNumber nnX11_putNumber vvX11_putNumber ml_RX11_71 rfl (Nat.le_of_ble_eq_true rfl) ?_
    refine wp_aload_n dX11_feed_25 rfl ?_
    refine wp_iload_n dX11_feed_26 rfl ?_
    obtain ⟨q7, e8, h⟩ := bnd h
    refine wp_callV (As := [.inl x3]) dX11_feed_27 (sh_X11_putNumber_ok (d := d) e8) okX11_putNumber nnX11_putNumber vvX11_putNumber ml_RX11_71 rfl (Nat.le_of_ble_eq_true rfl) ?_
    refine wp_aload_n dX11_feed_30 rfl ?_
    refine wp_iload dX11_feed_31 rfl ?_
    obtain ⟨q9, e10, h⟩ := bnd h
    refine wp_callV (As := [.inl x4]) dX11_feed_33 (sh_X11_putNumber_ok (d := d) e10) okX11_putNumber nnX11_putNumber vvX11_putNumber ml_RX11_71 rfl (Nat.le_of_ble_eq_true rfl) ?_
    refine wp_aload_n dX11_feed_36 rfl ?_
    refine wp_iload dX11_feed_37 rfl ?_
    obtain ⟨q11, e12, h⟩ := bnd h
    refine wp_callV (As := [.inl x5]) dX11_feed_39 (sh_X11_putNumber_ok (d := d) e12) okX11_putNumber nnX11_putNumber vvX11_putNumber ml_RX11_71 rfl (Nat.le_of_ble_eq_true rfl) ?_
    refine wp_aload_n dX11_feed_42 rfl ?_
    obtain ⟨v13, e14, h⟩ := bnd h
    refine wp_getI (c := 11) (k := 1) dX11_feed_43 e14 (by decide) (by decide) rfl fl_RX11_13 ?_
    cases h
    exact wp_iret dX11_feed_46 rfl
  · replace h := ite_f hc_ h
    refine wp_iconst (v := (-1)) dX11_feed_13 (by decide) ?_
    cases h
    exact wp_iret dX11_feed_14 rfl

theorem sh_X11_feed_ok {w : Gw} {d : Nat} {x0 : Nat} {x1 : Int32} {x2 : Int32} {x3 : Int32} {x4 : Int32} {x5 : Int32} {M : Gm} {out : Int32 × Gm} (h : sh_X11_feed x0 x1 x2 x3 x4 x5 M = some out) : Ev w mdX11_feed (d + 1) [.inr x0, .inl x1, .inl x2, .inl x3, .inl x4, .inl x5] M (.inl (some (.inl out.1))) out.2 := by
  obtain ⟨u, e0, h⟩ := bnd h
  exact ev_of okX11_feed ⟨_, _, rfl, isO_of e0 (by decide), by decide⟩ (Nat.le_of_ble_eq_true rfl) (X11_feed_F_ok h)

/-! HeatGovernor.fault()I -/
def X11_fault_F (x0 : Nat) (M : Gm) : Option (Int32) :=
  (gfI M x0 11 2).bind fun v1 =>
  some v1
def sh_X11_fault (x0 : Nat) (M : Gm) : Option (Int32) := (isO M x0 11).bind fun _ => X11_fault_F x0 M
theorem X11_fault_F_ok {w : Gw} {d : Nat} {x0 : Nat} {M : Gm} {out : Int32} (h : X11_fault_F x0 M = some out) : Wp w mdX11_fault d 0 [some (.inr x0)] [] M (.inl (some (.inl out))) M := by
  unfold X11_fault_F at h
  refine wp_aload_n dX11_fault_0 rfl ?_
  obtain ⟨v1, e2, h⟩ := bnd h
  refine wp_getI (c := 11) (k := 2) dX11_fault_1 e2 (by decide) (by decide) rfl fl_RX11_17 ?_
  cases h
  exact wp_iret dX11_fault_4 rfl

theorem sh_X11_fault_ok {w : Gw} {d : Nat} {x0 : Nat} {M : Gm} {out : Int32} (h : sh_X11_fault x0 M = some out) : Ev w mdX11_fault d [.inr x0] M (.inl (some (.inl out))) M := by
  obtain ⟨u, e0, h⟩ := bnd h
  exact ev_of okX11_fault ⟨_, _, rfl, isO_of e0 (by decide), by decide⟩ (Nat.le_of_ble_eq_true rfl) (X11_fault_F_ok h)

/-! HeatGovernor.refuseAct(I)I -/
def X11_refuseAct_F (x0 : Nat) (x1 : Int32) (M : Gm) : Option (Int32 × Gm) :=
  (gfR M x0 11 6).bind fun v1 =>
  (gfR M v1 4 8).bind fun v3 =>
  (ldA M 0 v3 1).bind fun v5 =>
  (stA M 0 v3 1 (v5 + 1)).bind fun M7 =>
  some (x1, M7)
def sh_X11_refuseAct (x0 : Nat) (x1 : Int32) (M : Gm) : Option (Int32 × Gm) := (isO M x0 11).bind fun _ => X11_refuseAct_F x0 x1 M
theorem X11_refuseAct_F_ok {w : Gw} {d : Nat} {x0 : Nat} {x1 : Int32} {M : Gm} {out : Int32 × Gm} (h : X11_refuseAct_F x0 x1 M = some out) : Wp w mdX11_refuseAct d 0 [some (.inr x0), some (.inl x1)] [] M (.inl (some (.inl out.1))) out.2 := by
  unfold X11_refuseAct_F at h
  refine wp_aload_n dX11_refuseAct_0 rfl ?_
  obtain ⟨v1, e2, h⟩ := bnd h
  refine wp_getR (c := 11) (k := 6) dX11_refuseAct_1 e2 (by decide) (by decide) rfl fl_RX11_44 ?_
  obtain ⟨v3, e4, h⟩ := bnd h
  refine wp_getR (c := 4) (k := 8) dX11_refuseAct_4 e4 (by decide) (by decide) rfl fl_RX11_89 ?_
  refine wp_iconst (v := 1) dX11_refuseAct_7 (by decide) ?_
  refine wp_dup2 dX11_refuseAct_8 ?_
  obtain ⟨v5, e6, h⟩ := bnd h
  refine wp_iaload dX11_refuseAct_9 e6 ?_
  refine wp_iconst (v := 1) dX11_refuseAct_10 (by decide) ?_
  refine wp_iadd dX11_refuseAct_11 ?_
  obtain ⟨M7, e8, h⟩ := bnd h
  refine wp_iastore dX11_refuseAct_12 e8 ?_
  refine wp_iload_n dX11_refuseAct_13 rfl ?_
  cases h
  exact wp_iret dX11_refuseAct_14 rfl

theorem sh_X11_refuseAct_ok {w : Gw} {d : Nat} {x0 : Nat} {x1 : Int32} {M : Gm} {out : Int32 × Gm} (h : sh_X11_refuseAct x0 x1 M = some out) : Ev w mdX11_refuseAct d [.inr x0, .inl x1] M (.inl (some (.inl out.1))) out.2 := by
  obtain ⟨u, e0, h⟩ := bnd h
  exact ev_of okX11_refuseAct ⟨_, _, rfl, isO_of e0 (by decide), by decide⟩ (Nat.le_of_ble_eq_true rfl) (X11_refuseAct_F_ok h)

/-! java/lang/Math.min(II)I -/
def J9_min_7cf53_J10 (s0 : Int32) (M : Gm) : Option (Int32) :=
  some s0
def J9_min_7cf53_F (x0 : Int32) (x1 : Int32) (M : Gm) : Option (Int32) :=
  if x1 < x0 then
    J9_min_7cf53_J10 x1 M
  else
    J9_min_7cf53_J10 x0 M
def sh_J9_min_7cf53 (x0 : Int32) (x1 : Int32) (M : Gm) : Option (Int32) := J9_min_7cf53_F x0 x1 M
theorem J9_min_7cf53_J10_ok {w : Gw} {d : Nat} {s0 : Int32} {M : Gm} {out : Int32} (h : J9_min_7cf53_J10 s0 M = some out) : Wp w mdJ9_min_7cf53 d 10 [none, none] [.inl s0] M (.inl (some (.inl out))) M := by
  unfold J9_min_7cf53_J10 at h
  cases h
  exact wp_iret dJ9_min_7cf53_10 rfl

theorem J9_min_7cf53_F_ok {w : Gw} {d : Nat} {x0 : Int32} {x1 : Int32} {M : Gm} {out : Int32} (h : J9_min_7cf53_F x0 x1 M = some out) : Wp w mdJ9_min_7cf53 d 0 [some (.inl x0), some (.inl x1)] [] M (.inl (some (.inl out))) M := by
  unfold J9_min_7cf53_F at h
  refine wp_iload_n dJ9_min_7cf53_0 rfl ?_
  refine wp_iload_n dJ9_min_7cf53_1 rfl ?_
  refine wp_icmp_gt (tgt := 9) dJ9_min_7cf53_2 (by decide) (fun hc_ => ?_) (fun hc_ => ?_)
  · replace h := ite_t hc_ h
    refine wp_iload_n dJ9_min_7cf53_9 rfl ?_
    exact wp_ls (lsN (lsN lsZ)) (J9_min_7cf53_J10_ok h)
  · replace h := ite_f hc_ h
    refine wp_iload_n dJ9_min_7cf53_5 rfl ?_
    refine wp_goto (tgt := 10) dJ9_min_7cf53_6 (by decide) ?_
    exact wp_ls (lsN (lsN lsZ)) (J9_min_7cf53_J10_ok h)

theorem sh_J9_min_7cf53_ok {w : Gw} {d : Nat} {x0 : Int32} {x1 : Int32} {M : Gm} {out : Int32} (h : sh_J9_min_7cf53 x0 x1 M = some out) : Ev w mdJ9_min_7cf53 d [.inl x0, .inl x1] M (.inl (some (.inl out))) M := ev_of okJ9_min_7cf53 trivial (Nat.le_of_ble_eq_true rfl) (J9_min_7cf53_F_ok h)

/-! HeatGovernor$State.addLogRow(III)V -/
def X7_addLogRow_F (x0 : Nat) (x1 : Int32) (x2 : Int32) (x3 : Int32) (M : Gm) : Option (Gm) :=
  (gfI M x0 7 17).bind fun v1 =>
  (gfR M x0 7 16).bind fun v3 =>
  (gfI M x0 7 1).bind fun v5 =>
  (stA M 0 v3 (v1 * 4) v5).bind fun M7 =>
  (gfR M7 x0 7 16).bind fun v9 =>
  (stA M7 0 v9 ((v1 * 4) + 1) x1).bind fun M11 =>
  (gfR M11 x0 7 16).bind fun v13 =>
  (stA M11 0 v13 ((v1 * 4) + 2) x2).bind fun M15 =>
  (gfR M15 x0 7 16).bind fun v17 =>
  (stA M15 0 v17 ((v1 * 4) + 3) x3).bind fun M19 =>
  (gfI M19 x0 7 17).bind fun v21 =>
  (rmI (v21 + 1) 40).bind fun v23 =>
  (pfI M19 x0 7 17 v23).bind fun M25 =>
  (gfI M25 x0 7 18).bind fun v27 =>
  (sh_J9_min_7cf53 (v27 + 1) 40 M25).bind fun q29 =>
  (pfI M25 x0 7 18 q29).bind fun M31 =>
  (gfI M31 x0 7 19).bind fun v33 =>
  (pfI M31 x0 7 19 (v33 + 1)).bind fun M35 =>
  some M35
def sh_X7_addLogRow (x0 : Nat) (x1 : Int32) (x2 : Int32) (x3 : Int32) (M : Gm) : Option (Gm) := (isO M x0 7).bind fun _ => X7_addLogRow_F x0 x1 x2 x3 M
theorem X7_addLogRow_F_ok {w : Gw} {d : Nat} {x0 : Nat} {x1 : Int32} {x2 : Int32} {x3 : Int32} {M : Gm} {out : Gm} (h : X7_addLogRow_F x0 x1 x2 x3 M = some out) : Wp w mdX7_addLogRow (d + 1) 0 [some (.inr x0), some (.inl x1), some (.inl x2), some (.inl x3), none] [] M (.inl none) out := by
  unfold X7_addLogRow_F at h
  refine wp_aload_n dX7_addLogRow_0 rfl ?_
  obtain ⟨v1, e2, h⟩ := bnd h
  refine wp_getI (c := 7) (k := 17) dX7_addLogRow_1 e2 (by decide) (by decide) rfl fl_RX7_61 ?_
  refine wp_iconst (v := 4) dX7_addLogRow_4 (by decide) ?_
  refine wp_imul dX7_addLogRow_5 ?_
  refine wp_istore dX7_addLogRow_6 (Nat.le_of_ble_eq_true rfl) ?_
  refine wp_aload_n dX7_addLogRow_8 rfl ?_
  obtain ⟨v3, e4, h⟩ := bnd h
  refine wp_getR (c := 7) (k := 16) dX7_addLogRow_9 e4 (by decide) (by decide) rfl fl_RX7_58 ?_
  refine wp_iload dX7_addLogRow_12 rfl ?_
  refine wp_aload_n dX7_addLogRow_14 rfl ?_
  obtain ⟨v5, e6, h⟩ := bnd h
  refine wp_getI (c := 7) (k := 1) dX7_addLogRow_15 e6 (by decide) (by decide) rfl fl_RX7_9 ?_
  obtain ⟨M7, e8, h⟩ := bnd h
  refine wp_iastore dX7_addLogRow_18 e8 ?_
  refine wp_aload_n dX7_addLogRow_19 rfl ?_
  obtain ⟨v9, e10, h⟩ := bnd h
  refine wp_getR (c := 7) (k := 16) dX7_addLogRow_20 e10 (by decide) (by decide) rfl fl_RX7_58 ?_
  refine wp_iload dX7_addLogRow_23 rfl ?_
  refine wp_iconst (v := 1) dX7_addLogRow_25 (by decide) ?_
  refine wp_iadd dX7_addLogRow_26 ?_
  refine wp_iload_n dX7_addLogRow_27 rfl ?_
  obtain ⟨M11, e12, h⟩ := bnd h
  refine wp_iastore dX7_addLogRow_28 e12 ?_
  refine wp_aload_n dX7_addLogRow_29 rfl ?_
  obtain ⟨v13, e14, h⟩ := bnd h
  refine wp_getR (c := 7) (k := 16) dX7_addLogRow_30 e14 (by decide) (by decide) rfl fl_RX7_58 ?_
  refine wp_iload dX7_addLogRow_33 rfl ?_
  refine wp_iconst (v := 2) dX7_addLogRow_35 (by decide) ?_
  refine wp_iadd dX7_addLogRow_36 ?_
  refine wp_iload_n dX7_addLogRow_37 rfl ?_
  obtain ⟨M15, e16, h⟩ := bnd h
  refine wp_iastore dX7_addLogRow_38 e16 ?_
  refine wp_aload_n dX7_addLogRow_39 rfl ?_
  obtain ⟨v17, e18, h⟩ := bnd h
  refine wp_getR (c := 7) (k := 16) dX7_addLogRow_40 e18 (by decide) (by decide) rfl fl_RX7_58 ?_
  refine wp_iload dX7_addLogRow_43 rfl ?_
  refine wp_iconst (v := 3) dX7_addLogRow_45 (by decide) ?_
  refine wp_iadd dX7_addLogRow_46 ?_
  refine wp_iload_n dX7_addLogRow_47 rfl ?_
  obtain ⟨M19, e20, h⟩ := bnd h
  refine wp_iastore dX7_addLogRow_48 e20 ?_
  refine wp_aload_n dX7_addLogRow_49 rfl ?_
  refine wp_aload_n dX7_addLogRow_50 rfl ?_
  obtain ⟨v21, e22, h⟩ := bnd h
  refine wp_getI (c := 7) (k := 17) dX7_addLogRow_51 e22 (by decide) (by decide) rfl fl_RX7_61 ?_
  refine wp_iconst (v := 1) dX7_addLogRow_54 (by decide) ?_
  refine wp_iadd dX7_addLogRow_55 ?_
  refine wp_bipush (v := 40) dX7_addLogRow_56 (by decide) ?_
  obtain ⟨v23, e24, h⟩ := bnd h
  refine wp_irem dX7_addLogRow_58 e24 ?_
  obtain ⟨M25, e26, h⟩ := bnd h
  refine wp_putI (c := 7) (k := 17) dX7_addLogRow_59 e26 (by decide) (by decide) rfl fl_RX7_61 (Or.inl rfl) ?_
  refine wp_aload_n dX7_addLogRow_62 rfl ?_
  refine wp_aload_n dX7_addLogRow_63 rfl ?_
  obtain ⟨v27, e28, h⟩ := bnd h
  refine wp_getI (c := 7) (k := 18) dX7_addLogRow_64 e28 (by decide) (by decide) rfl fl_RX7_64 ?_
  refine wp_iconst (v := 1) dX7_addLogRow_67 (by decide) ?_
  refine wp_iadd dX7_addLogRow_68 ?_
  refine wp_bipush (v := 40) dX7_addLogRow_69 (by decide) ?_
  obtain ⟨q29, e30, h⟩ := bnd h
  refine wp_callS (As := [.inl (v27 + 1), .inl 40]) dX7_addLogRow_71 (sh_J9_min_7cf53_ok (d := d) e30) okJ9_min_7cf53 nnJ9_min_7cf53 ssJ9_min_7cf53 ml_RX7_111 rfl (Nat.le_of_ble_eq_true rfl) ?_
  obtain ⟨M31, e32, h⟩ := bnd h
  refine wp_putI (c := 7) (k := 18) dX7_addLogRow_74 e32 (by decide) (by decide) rfl fl_RX7_64 (Or.inl rfl) ?_
  refine wp_aload_n dX7_addLogRow_77 rfl ?_
  refine wp_dup dX7_addLogRow_78 ?_
  obtain ⟨v33, e34, h⟩ := bnd h
  refine wp_getI (c := 7) (k := 19) dX7_addLogRow_79 e34 (by decide) (by decide) rfl fl_RX7_67 ?_
  refine wp_iconst (v := 1) dX7_addLogRow_82 (by decide) ?_
  refine wp_iadd dX7_addLogRow_83 ?_
  obtain ⟨M35, e36, h⟩ := bnd h
  refine wp_putI (c := 7) (k := 19) dX7_addLogRow_84 e36 (by decide) (by decide) rfl fl_RX7_67 (Or.inl rfl) ?_
  cases h
  exact wp_ret dX7_addLogRow_87 rfl

theorem sh_X7_addLogRow_ok {w : Gw} {d : Nat} {x0 : Nat} {x1 : Int32} {x2 : Int32} {x3 : Int32} {M : Gm} {out : Gm} (h : sh_X7_addLogRow x0 x1 x2 x3 M = some out) : Ev w mdX7_addLogRow (d + 1) [.inr x0, .inl x1, .inl x2, .inl x3] M (.inl none) out := by
  obtain ⟨u, e0, h⟩ := bnd h
  exact ev_of okX7_addLogRow ⟨_, _, rfl, isO_of e0 (by decide), by decide⟩ (Nat.le_of_ble_eq_true rfl) (X7_addLogRow_F_ok h)

/-! HeatGovernor$Clock.flipTrips(LHeatGovernor$State;)V -/
def X1_flipTrips_J123 (x1 : Nat) (x2 : Int32) (M : Gm) : Option ((Int32 × Gm) ⊕ Gm) :=
  some (.inl (x2 + 1, M))
def X1_flipTrips_J82 (x1 : Nat) (x2 : Int32) (x3 : Nat) (x4 : Int32) (M : Gm) : Option ((Int32 × Gm) ⊕ Gm) :=
  (gfR M x1 7 10).bind fun v1 =>
  (ldA M 0 v1 x2).bind fun v3 =>
  if v3 = 1 then
    (gfI M x3 8 2).bind fun v5 =>
    (gfI M x3 8 3).bind fun v7 =>
    if (v5 - v7) ≤ x4 then
      X1_flipTrips_J123 x1 x2 M
    else
      (gfR M x1 7 10).bind fun v9 =>
      (stA M 0 v9 x2 0).bind fun M11 =>
      (gfI M11 x3 8 0).bind fun v13 =>
      (sh_X7_addLogRow x1 2 v13 x2 M11).bind fun q15 =>
      X1_flipTrips_J123 x1 x2 q15
  else
    X1_flipTrips_J123 x1 x2 M
def X1_flipTrips_B2 (x1 : Nat) (q : Int32 × Gm) : Option ((Int32 × Gm) ⊕ Gm) :=
  (gfR q.2 x1 7 0).bind fun v1 =>
  (gfI q.2 v1 5 6).bind fun v3 =>
  if v3 ≤ q.1 then
    some (.inr q.2)
  else
    (gfR q.2 x1 7 0).bind fun v5 =>
    (gfR q.2 v5 5 1).bind fun v7 =>
    (ldR q.2 5 v7 q.1).bind fun v9 =>
    (gfR q.2 x1 7 6).bind fun v11 =>
    (gfI q.2 v9 8 0).bind fun v13 =>
    (ldA q.2 0 v11 v13).bind fun v15 =>
    (gfR q.2 x1 7 10).bind fun v17 =>
    (ldA q.2 0 v17 q.1).bind fun v19 =>
    if v19 = 0 then
      (gfI q.2 v9 8 2).bind fun v21 =>
      if v15 < v21 then
        X1_flipTrips_J82 x1 q.1 v9 v15 q.2
      else
        (gfR q.2 x1 7 10).bind fun v23 =>
        (stA q.2 0 v23 q.1 1).bind fun M25 =>
        (gfR M25 x1 7 11).bind fun v27 =>
        (ldA M25 0 v27 q.1).bind fun v29 =>
        (stA M25 0 v27 q.1 (v29 + 1)).bind fun M31 =>
        (gfI M31 v9 8 0).bind fun v33 =>
        (sh_X7_addLogRow x1 1 v33 q.1 M31).bind fun q35 =>
        X1_flipTrips_J123 x1 q.1 q35
    else
      X1_flipTrips_J82 x1 q.1 v9 v15 q.2
def X1_flipTrips_F (x0 : Nat) (x1 : Nat) (M : Gm) : Option (Gm) :=
  (lp (X1_flipTrips_B2 x1) FU (0, M)).bind fun r1 =>
  some r1
def sh_X1_flipTrips (x0 : Nat) (x1 : Nat) (M : Gm) : Option (Gm) := (isO M x0 1).bind fun _ => X1_flipTrips_F x0 x1 M
theorem X1_flipTrips_J123_ok {w : Gw} {d : Nat} {x1 : Nat} {x2 : Int32} {M : Gm} {o : Go} {M' : Gm} {out : (Int32 × Gm) ⊕ Gm} (h : X1_flipTrips_J123 x1 x2 M = some out) (hc : ∀ t : Int32 × Gm, out = .inl t → Wp w mdX1_flipTrips (d + 2) 2 [none, some (.inr x1), some (.inl t.1), none, none] [] t.2 o M') (he0 : ∀ t : Gm, out = .inr t → Wp w mdX1_flipTrips (d + 2) 129 [none, none, none, none, none] [] t o M') : Wp w mdX1_flipTrips (d + 2) 123 [none, some (.inr x1), some (.inl x2), none, none] [] M o M' := by
  unfold X1_flipTrips_J123 at h
  refine wp_iinc (v := x2 + 1) dX1_flipTrips_123 rfl rfl ?_
  refine wp_goto (tgt := 2) dX1_flipTrips_126 (by decide) ?_
  cases h
  exact wp_ls (lsN (lsS (lsS (lsN (lsN lsZ))))) (hc (x2 + 1, M) rfl)

theorem X1_flipTrips_J82_ok {w : Gw} {d : Nat} {x1 : Nat} {x2 : Int32} {x3 : Nat} {x4 : Int32} {M : Gm} {o : Go} {M' : Gm} {out : (Int32 × Gm) ⊕ Gm} (h : X1_flipTrips_J82 x1 x2 x3 x4 M = some out) (hc : ∀ t : Int32 × Gm, out = .inl t → Wp w mdX1_flipTrips (d + 2) 2 [none, some (.inr x1), some (.inl t.1), none, none] [] t.2 o M') (he0 : ∀ t : Gm, out = .inr t → Wp w mdX1_flipTrips (d + 2) 129 [none, none, none, none, none] [] t o M') : Wp w mdX1_flipTrips (d + 2) 82 [none, some (.inr x1), some (.inl x2), some (.inr x3), some (.inl x4)] [] M o M' := by
  unfold X1_flipTrips_J82 at h
  refine wp_aload_n dX1_flipTrips_82 rfl ?_
  obtain ⟨v1, e2, h⟩ := bnd h
  refine wp_getR (c := 7) (k := 10) dX1_flipTrips_83 e2 (by decide) (by decide) rfl fl_RX1_156 ?_
  refine wp_iload_n dX1_flipTrips_86 rfl ?_
  obtain ⟨v3, e4, h⟩ := bnd h
  refine wp_iaload dX1_flipTrips_87 e4 ?_
  refine wp_iconst (v := 1) dX1_flipTrips_88 (by decide) ?_
  refine wp_icmp_ne (tgt := 123) dX1_flipTrips_89 (by decide) (fun hc_ => ?_) (fun hc_ => ?_)
  · replace h := ite_f hc_ h
    exact wp_ls (lsN (lsS (lsS (lsN (lsN lsZ))))) (X1_flipTrips_J123_ok h hc he0)
  · replace h := ite_t hc_ h
    refine wp_iload dX1_flipTrips_92 rfl ?_
    refine wp_aload_n dX1_flipTrips_94 rfl ?_
    obtain ⟨v5, e6, h⟩ := bnd h
    refine wp_getI (c := 8) (k := 2) dX1_flipTrips_95 e6 (by decide) (by decide) rfl fl_RX1_159 ?_
    refine wp_aload_n dX1_flipTrips_98 rfl ?_
    obtain ⟨v7, e8, h⟩ := bnd h
    refine wp_getI (c := 8) (k := 3) dX1_flipTrips_99 e8 (by decide) (by decide) rfl fl_RX1_169 ?_
    refine wp_isub dX1_flipTrips_102 ?_
    refine wp_icmp_ge (tgt := 123) dX1_flipTrips_103 (by decide) (fun hc_ => ?_) (fun hc_ => ?_)
    · replace h := ite_t hc_ h
      exact wp_ls (lsN (lsS (lsS (lsN (lsN lsZ))))) (X1_flipTrips_J123_ok h hc he0)
    · replace h := ite_f hc_ h
      refine wp_aload_n dX1_flipTrips_106 rfl ?_
      obtain ⟨v9, e10, h⟩ := bnd h
      refine wp_getR (c := 7) (k := 10) dX1_flipTrips_107 e10 (by decide) (by decide) rfl fl_RX1_156 ?_
      refine wp_iload_n dX1_flipTrips_110 rfl ?_
      refine wp_iconst (v := 0) dX1_flipTrips_111 (by decide) ?_
      obtain ⟨M11, e12, h⟩ := bnd h
      refine wp_iastore dX1_flipTrips_112 e12 ?_
      refine wp_aload_n dX1_flipTrips_113 rfl ?_
      refine wp_iconst (v := 2) dX1_flipTrips_114 (by decide) ?_
      refine wp_aload_n dX1_flipTrips_115 rfl ?_
      obtain ⟨v13, e14, h⟩ := bnd h
      refine wp_getI (c := 8) (k := 0) dX1_flipTrips_116 e14 (by decide) (by decide) rfl fl_RX1_153 ?_
      refine wp_iload_n dX1_flipTrips_119 rfl ?_
      obtain ⟨q15, e16, h⟩ := bnd h
      refine wp_callV (As := [.inl 2, .inl v13, .inl x2]) dX1_flipTrips_120 (sh_X7_addLogRow_ok (d := d) e16) okX7_addLogRow nnX7_addLogRow vvX7_addLogRow ml_RX1_165 rfl (Nat.le_of_ble_eq_true rfl) ?_
      exact wp_ls (lsN (lsS (lsS (lsN (lsN lsZ))))) (X1_flipTrips_J123_ok h hc he0)

theorem X1_flipTrips_B2_ok {w : Gw} {d : Nat} {x1 : Nat} {q : Int32 × Gm} {o : Go} {M' : Gm} {out : (Int32 × Gm) ⊕ Gm} (h : X1_flipTrips_B2 x1 q = some out) (hc : ∀ t : Int32 × Gm, out = .inl t → Wp w mdX1_flipTrips (d + 2) 2 [none, some (.inr x1), some (.inl t.1), none, none] [] t.2 o M') (he0 : ∀ t : Gm, out = .inr t → Wp w mdX1_flipTrips (d + 2) 129 [none, none, none, none, none] [] t o M') : Wp w mdX1_flipTrips (d + 2) 2 [none, some (.inr x1), some (.inl q.1), none, none] [] q.2 o M' := by
  unfold X1_flipTrips_B2 at h
  refine wp_iload_n dX1_flipTrips_2 rfl ?_
  refine wp_aload_n dX1_flipTrips_3 rfl ?_
  obtain ⟨v1, e2, h⟩ := bnd h
  refine wp_getR (c := 7) (k := 0) dX1_flipTrips_4 e2 (by decide) (by decide) rfl fl_RX1_43 ?_
  obtain ⟨v3, e4, h⟩ := bnd h
  refine wp_getI (c := 5) (k := 6) dX1_flipTrips_7 e4 (by decide) (by decide) rfl fl_RX1_146 ?_
  refine wp_icmp_ge (tgt := 129) dX1_flipTrips_10 (by decide) (fun hc_ => ?_) (fun hc_ => ?_)
  · replace h := ite_t hc_ h
    cases h
    exact wp_ls (lsN (lsN (lsN (lsN (lsN lsZ))))) (he0 q.2 rfl)
  · replace h := ite_f hc_ h
    refine wp_aload_n dX1_flipTrips_13 rfl ?_
    obtain ⟨v5, e6, h⟩ := bnd h
    refine wp_getR (c := 7) (k := 0) dX1_flipTrips_14 e6 (by decide) (by decide) rfl fl_RX1_43 ?_
    obtain ⟨v7, e8, h⟩ := bnd h
    refine wp_getR (c := 5) (k := 1) dX1_flipTrips_17 e8 (by decide) (by decide) rfl fl_RX1_149 ?_
    refine wp_iload_n dX1_flipTrips_20 rfl ?_
    obtain ⟨v9, e10, h⟩ := bnd h
    refine wp_aaload (t := 5) dX1_flipTrips_21 (by decide) rfl e10 ?_
    refine wp_astore_n dX1_flipTrips_22 (Nat.le_of_ble_eq_true rfl) ?_
    refine wp_aload_n dX1_flipTrips_23 rfl ?_
    obtain ⟨v11, e12, h⟩ := bnd h
    refine wp_getR (c := 7) (k := 6) dX1_flipTrips_24 e12 (by decide) (by decide) rfl fl_RX1_112 ?_
    refine wp_aload_n dX1_flipTrips_27 rfl ?_
    obtain ⟨v13, e14, h⟩ := bnd h
    refine wp_getI (c := 8) (k := 0) dX1_flipTrips_28 e14 (by decide) (by decide) rfl fl_RX1_153 ?_
    obtain ⟨v15, e16, h⟩ := bnd h
    refine wp_iaload dX1_flipTrips_31 e16 ?_
    refine wp_istore dX1_flipTrips_32 (Nat.le_of_ble_eq_true rfl) ?_
    refine wp_aload_n dX1_flipTrips_34 rfl ?_
    obtain ⟨v17, e18, h⟩ := bnd h
    refine wp_getR (c := 7) (k := 10) dX1_flipTrips_35 e18 (by decide) (by decide) rfl fl_RX1_156 ?_
    refine wp_iload_n dX1_flipTrips_38 rfl ?_
    obtain ⟨v19, e20, h⟩ := bnd h
    refine wp_iaload dX1_flipTrips_39 e20 ?_
    refine wp_if_ne (tgt := 82) dX1_flipTrips_40 (by decide) (fun hc_ => ?_) (fun hc_ => ?_)
    · replace h := ite_f hc_ h
      exact wp_ls (lsN (lsS (lsS (lsS (lsS lsZ))))) (X1_flipTrips_J82_ok h hc he0)
    · replace h := ite_t hc_ h
      refine wp_iload dX1_flipTrips_43 rfl ?_
      refine wp_aload_n dX1_flipTrips_45 rfl ?_
      obtain ⟨v21, e22, h⟩ := bnd h
      refine wp_getI (c := 8) (k := 2) dX1_flipTrips_46 e22 (by decide) (by decide) rfl fl_RX1_159 ?_
      refine wp_icmp_lt (tgt := 82) dX1_flipTrips_49 (by decide) (fun hc_ => ?_) (fun hc_ => ?_)
      · replace h := ite_t hc_ h
        exact wp_ls (lsN (lsS (lsS (lsS (lsS lsZ))))) (X1_flipTrips_J82_ok h hc he0)
      · replace h := ite_f hc_ h
        refine wp_aload_n dX1_flipTrips_52 rfl ?_
        obtain ⟨v23, e24, h⟩ := bnd h
        refine wp_getR (c := 7) (k := 10) dX1_flipTrips_53 e24 (by decide) (by decide) rfl fl_RX1_156 ?_
        refine wp_iload_n dX1_flipTrips_56 rfl ?_
        refine wp_iconst (v := 1) dX1_flipTrips_57 (by decide) ?_
        obtain ⟨M25, e26, h⟩ := bnd h
        refine wp_iastore dX1_flipTrips_58 e26 ?_
        refine wp_aload_n dX1_flipTrips_59 rfl ?_
        obtain ⟨v27, e28, h⟩ := bnd h
        refine wp_getR (c := 7) (k := 11) dX1_flipTrips_60 e28 (by decide) (by decide) rfl fl_RX1_162 ?_
        refine wp_iload_n dX1_flipTrips_63 rfl ?_
        refine wp_dup2 dX1_flipTrips_64 ?_
        obtain ⟨v29, e30, h⟩ := bnd h
        refine wp_iaload dX1_flipTrips_65 e30 ?_
        refine wp_iconst (v := 1) dX1_flipTrips_66 (by decide) ?_
        refine wp_iadd dX1_flipTrips_67 ?_
        obtain ⟨M31, e32, h⟩ := bnd h
        refine wp_iastore dX1_flipTrips_68 e32 ?_
        refine wp_aload_n dX1_flipTrips_69 rfl ?_
        refine wp_iconst (v := 1) dX1_flipTrips_70 (by decide) ?_
        refine wp_aload_n dX1_flipTrips_71 rfl ?_
        obtain ⟨v33, e34, h⟩ := bnd h
        refine wp_getI (c := 8) (k := 0) dX1_flipTrips_72 e34 (by decide) (by decide) rfl fl_RX1_153 ?_
        refine wp_iload_n dX1_flipTrips_75 rfl ?_
        obtain ⟨q35, e36, h⟩ := bnd h
        refine wp_callV (As := [.inl 1, .inl v33, .inl q.1]) dX1_flipTrips_76 (sh_X7_addLogRow_ok (d := d) e36) okX7_addLogRow nnX7_addLogRow vvX7_addLogRow ml_RX1_165 rfl (Nat.le_of_ble_eq_true rfl) ?_
        refine wp_goto (tgt := 123) dX1_flipTrips_79 (by decide) ?_
        exact wp_ls (lsN (lsS (lsS (lsN (lsN lsZ))))) (X1_flipTrips_J123_ok h hc he0)

theorem X1_flipTrips_B2_lp {w : Gw} {d : Nat} {x1 : Nat} {o : Go} {M' : Gm} {r : Gm} : ∀ (n : Nat) (q : Int32 × Gm), lp (X1_flipTrips_B2 x1) n q = some r → (∀ t : Gm, r = t → Wp w mdX1_flipTrips (d + 2) 129 [none, none, none, none, none] [] t o M') → Wp w mdX1_flipTrips (d + 2) 2 [none, some (.inr x1), some (.inl q.1), none, none] [] q.2 o M' := by
  intro n
  induction n with
  | zero => intro q h; cases h
  | succ n ih =>
    intro q h he0
    cases hb : X1_flipTrips_B2 x1 q with
    | none => rw [lp_succ, hb] at h; cases h
    | some out =>
      rw [lp_succ, hb] at h
      exact X1_flipTrips_B2_ok hb (fun t e => ih t (by rw [e] at h; exact h) he0) (fun t e => he0 t (by rw [e] at h; cases h; rfl))
theorem X1_flipTrips_F_ok {w : Gw} {d : Nat} {x0 : Nat} {x1 : Nat} {M : Gm} {out : Gm} (h : X1_flipTrips_F x0 x1 M = some out) : Wp w mdX1_flipTrips (d + 2) 0 [some (.inr x0), some (.inr x1), none, none, none] [] M (.inl none) out := by
  unfold X1_flipTrips_F at h
  refine wp_iconst (v := 0) dX1_flipTrips_0 (by decide) ?_
  refine wp_istore_n dX1_flipTrips_1 (Nat.le_of_ble_eq_true rfl) ?_
  obtain ⟨r1, e2, h⟩ := bnd h
  refine wp_ls (lsN (lsS (lsS (lsN (lsN lsZ))))) (X1_flipTrips_B2_lp FU _ e2 ?_)
  intro t_ ht_; cases ht_
  cases h
  exact wp_ret dX1_flipTrips_129 rfl

theorem sh_X1_flipTrips_ok {w : Gw} {d : Nat} {x0 : Nat} {x1 : Nat} {M : Gm} {out : Gm} (h : sh_X1_flipTrips x0 x1 M = some out) : Ev w mdX1_flipTrips (d + 2) [.inr x0, .inr x1] M (.inl none) out := by
  obtain ⟨u, e0, h⟩ := bnd h
  exact ev_of okX1_flipTrips ⟨_, _, rfl, isO_of e0 (by decide), by decide⟩ (Nat.le_of_ble_eq_true rfl) (X1_flipTrips_F_ok h)

/-! java/lang/Integer.compare(II)I -/
def J6_compare_7cf53_J19 (s0 : Int32) (M : Gm) : Option (Int32) :=
  some s0
def J6_compare_7cf53_F (x0 : Int32) (x1 : Int32) (M : Gm) : Option (Int32) :=
  if x1 ≤ x0 then
    if x0 = x1 then
      J6_compare_7cf53_J19 0 M
    else
      J6_compare_7cf53_J19 1 M
  else
    J6_compare_7cf53_J19 ((-1)) M
def sh_J6_compare_7cf53 (x0 : Int32) (x1 : Int32) (M : Gm) : Option (Int32) := J6_compare_7cf53_F x0 x1 M
theorem J6_compare_7cf53_J19_ok {w : Gw} {d : Nat} {s0 : Int32} {M : Gm} {out : Int32} (h : J6_compare_7cf53_J19 s0 M = some out) : Wp w mdJ6_compare_7cf53 d 19 [none, none] [.inl s0] M (.inl (some (.inl out))) M := by
  unfold J6_compare_7cf53_J19 at h
  cases h
  exact wp_iret dJ6_compare_7cf53_19 rfl

theorem J6_compare_7cf53_F_ok {w : Gw} {d : Nat} {x0 : Int32} {x1 : Int32} {M : Gm} {out : Int32} (h : J6_compare_7cf53_F x0 x1 M = some out) : Wp w mdJ6_compare_7cf53 d 0 [some (.inl x0), some (.inl x1)] [] M (.inl (some (.inl out))) M := by
  unfold J6_compare_7cf53_F at h
  refine wp_iload_n dJ6_compare_7cf53_0 rfl ?_
  refine wp_iload_n dJ6_compare_7cf53_1 rfl ?_
  refine wp_icmp_ge (tgt := 9) dJ6_compare_7cf53_2 (by decide) (fun hc_ => ?_) (fun hc_ => ?_)
  · replace h := ite_t hc_ h
    refine wp_iload_n dJ6_compare_7cf53_9 rfl ?_
    refine wp_iload_n dJ6_compare_7cf53_10 rfl ?_
    refine wp_icmp_ne (tgt := 18) dJ6_compare_7cf53_11 (by decide) (fun hc_ => ?_) (fun hc_ => ?_)
    · replace h := ite_f hc_ h
      refine wp_iconst (v := 1) dJ6_compare_7cf53_18 (by decide) ?_
      exact wp_ls (lsN (lsN lsZ)) (J6_compare_7cf53_J19_ok h)
    · replace h := ite_t hc_ h
      refine wp_iconst (v := 0) dJ6_compare_7cf53_14 (by decide) ?_
      refine wp_goto (tgt := 19) dJ6_compare_7cf53_15 (by decide) ?_
      exact wp_ls (lsN (lsN lsZ)) (J6_compare_7cf53_J19_ok h)
  · replace h := ite_f hc_ h
    refine wp_iconst (v := (-1)) dJ6_compare_7cf53_5 (by decide) ?_
    refine wp_goto (tgt := 19) dJ6_compare_7cf53_6 (by decide) ?_
    exact wp_ls (lsN (lsN lsZ)) (J6_compare_7cf53_J19_ok h)

theorem sh_J6_compare_7cf53_ok {w : Gw} {d : Nat} {x0 : Int32} {x1 : Int32} {M : Gm} {out : Int32} (h : sh_J6_compare_7cf53 x0 x1 M = some out) : Ev w mdJ6_compare_7cf53 d [.inl x0, .inl x1] M (.inl (some (.inl out))) M := ev_of okJ6_compare_7cf53 trivial (Nat.le_of_ble_eq_true rfl) (J6_compare_7cf53_F_ok h)

/-! java/lang/Math.max(II)I -/
def J9_max_7cf53_J10 (s0 : Int32) (M : Gm) : Option (Int32) :=
  some s0
def J9_max_7cf53_F (x0 : Int32) (x1 : Int32) (M : Gm) : Option (Int32) :=
  if x0 < x1 then
    J9_max_7cf53_J10 x1 M
  else
    J9_max_7cf53_J10 x0 M
def sh_J9_max_7cf53 (x0 : Int32) (x1 : Int32) (M : Gm) : Option (Int32) := J9_max_7cf53_F x0 x1 M
theorem J9_max_7cf53_J10_ok {w : Gw} {d : Nat} {s0 : Int32} {M : Gm} {out : Int32} (h : J9_max_7cf53_J10 s0 M = some out) : Wp w mdJ9_max_7cf53 d 10 [none, none] [.inl s0] M (.inl (some (.inl out))) M := by
  unfold J9_max_7cf53_J10 at h
  cases h
  exact wp_iret dJ9_max_7cf53_10 rfl

theorem J9_max_7cf53_F_ok {w : Gw} {d : Nat} {x0 : Int32} {x1 : Int32} {M : Gm} {out : Int32} (h : J9_max_7cf53_F x0 x1 M = some out) : Wp w mdJ9_max_7cf53 d 0 [some (.inl x0), some (.inl x1)] [] M (.inl (some (.inl out))) M := by
  unfold J9_max_7cf53_F at h
  refine wp_iload_n dJ9_max_7cf53_0 rfl ?_
  refine wp_iload_n dJ9_max_7cf53_1 rfl ?_
  refine wp_icmp_lt (tgt := 9) dJ9_max_7cf53_2 (by decide) (fun hc_ => ?_) (fun hc_ => ?_)
  · replace h := ite_t hc_ h
    refine wp_iload_n dJ9_max_7cf53_9 rfl ?_
    exact wp_ls (lsN (lsN lsZ)) (J9_max_7cf53_J10_ok h)
  · replace h := ite_f hc_ h
    refine wp_iload_n dJ9_max_7cf53_5 rfl ?_
    refine wp_goto (tgt := 10) dJ9_max_7cf53_6 (by decide) ?_
    exact wp_ls (lsN (lsN lsZ)) (J9_max_7cf53_J10_ok h)

theorem sh_J9_max_7cf53_ok {w : Gw} {d : Nat} {x0 : Int32} {x1 : Int32} {M : Gm} {out : Int32} (h : sh_J9_max_7cf53 x0 x1 M = some out) : Ev w mdJ9_max_7cf53 d [.inl x0, .inl x1] M (.inl (some (.inl out))) M := ev_of okJ9_max_7cf53 trivial (Nat.le_of_ble_eq_true rfl) (J9_max_7cf53_F_ok h)

/-! HeatGovernor$Clock.moved(III)I -/
def X1_moved_F (x0 : Int32) (x1 : Int32) (x2 : Int32) (M : Gm) : Option (Int32) :=
  if x0 = 0 then
    (sh_J6_compare_7cf53 x2 x1 M).bind fun q1 =>
    some (x1 + q1)
  else if x0 = 2 then
    (sh_J9_max_7cf53 x2 (x1 - 1) M).bind fun q3 =>
    some q3
  else
    some x2
def sh_X1_moved (x0 : Int32) (x1 : Int32) (x2 : Int32) (M : Gm) : Option (Int32) := X1_moved_F x0 x1 x2 M
theorem X1_moved_F_ok {w : Gw} {d : Nat} {x0 : Int32} {x1 : Int32} {x2 : Int32} {M : Gm} {out : Int32} (h : X1_moved_F x0 x1 x2 M = some out) : Wp w mdX1_moved (d + 1) 0 [some (.inl x0), some (.inl x1), some (.inl x2)] [] M (.inl (some (.inl out))) M := by
  unfold X1_moved_F at h
  refine wp_iload_n dX1_moved_0 rfl ?_
  by_cases cz0 : x0 = 0
  · replace h := ite_t cz0 h
    refine wp_lookup (tgt := 28) (off := 27) dX1_moved_1 (by decide) (by rw [cz0]; decide) (by decide) ?_
    refine wp_iload_n dX1_moved_28 rfl ?_
    refine wp_iload_n dX1_moved_29 rfl ?_
    refine wp_iload_n dX1_moved_30 rfl ?_
    obtain ⟨q1, e2, h⟩ := bnd h
    refine wp_callS (As := [.inl x2, .inl x1]) dX1_moved_31 (sh_J6_compare_7cf53_ok (d := d) e2) okJ6_compare_7cf53 nnJ6_compare_7cf53 ssJ6_compare_7cf53 ml_RX1_187 rfl (Nat.le_of_ble_eq_true rfl) ?_
    refine wp_iadd dX1_moved_34 ?_
    cases h
    exact wp_iret dX1_moved_35 rfl
  replace h := ite_f cz0 h
  by_cases cz1 : x0 = 2
  · replace h := ite_t cz1 h
    refine wp_lookup (tgt := 36) (off := 35) dX1_moved_1 (by decide) (by rw [cz1]; decide) (by decide) ?_
    refine wp_iload_n dX1_moved_36 rfl ?_
    refine wp_iload_n dX1_moved_37 rfl ?_
    refine wp_iconst (v := 1) dX1_moved_38 (by decide) ?_
    refine wp_isub dX1_moved_39 ?_
    obtain ⟨q3, e4, h⟩ := bnd h
    refine wp_callS (As := [.inl x2, .inl (x1 - 1)]) dX1_moved_40 (sh_J9_max_7cf53_ok (d := d) e4) okJ9_max_7cf53 nnJ9_max_7cf53 ssJ9_max_7cf53 ml_RX1_141 rfl (Nat.le_of_ble_eq_true rfl) ?_
    cases h
    exact wp_iret dX1_moved_43 rfl
  replace h := ite_f cz1 h
  refine wp_lookup (tgt := 44) (off := 43) dX1_moved_1 (by decide) (by rw [lv_osw cz0 (show (0 : Int32).toInt = 0 by decide)]; rw [lv_osw cz1 (show (2 : Int32).toInt = 2 by decide)]; rfl) (by decide) ?_
  refine wp_iload_n dX1_moved_44 rfl ?_
  cases h
  exact wp_iret dX1_moved_45 rfl

theorem sh_X1_moved_ok {w : Gw} {d : Nat} {x0 : Int32} {x1 : Int32} {x2 : Int32} {M : Gm} {out : Int32} (h : sh_X1_moved x0 x1 x2 M = some out) : Ev w mdX1_moved (d + 1) [.inl x0, .inl x1, .inl x2] M (.inl (some (.inl out))) M := ev_of okX1_moved trivial (Nat.le_of_ble_eq_true rfl) (X1_moved_F_ok h)

/-! HeatGovernor$State.greatestWanted(I)I -/
def X7_greatestWanted_J42 (x0 : Nat) (x1 : Int32) (x2 : Int32) (x3 : Int32) (M : Gm) : Option ((Int32 × Int32) ⊕ Int32) :=
  some (.inl (x2, x3 + 1))
def X7_greatestWanted_B4 (x0 : Nat) (x1 : Int32) (M : Gm) (q : Int32 × Int32) : Option ((Int32 × Int32) ⊕ Int32) :=
  (gfR M x0 7 0).bind fun v1 =>
  (gfI M v1 5 8).bind fun v3 =>
  if v3 ≤ q.2 then
    some (.inr q.1)
  else
    (gfR M x0 7 0).bind fun v5 =>
    (gfR M v5 5 3).bind fun v7 =>
    (ldR M 7 v7 q.2).bind fun v9 =>
    (gfI M v9 0 1).bind fun v11 =>
    if v11 = x1 then
      (gfR M x0 7 15).bind fun v13 =>
      (ldA M 0 v13 q.2).bind fun v15 =>
      (sh_J9_max_7cf53 q.1 v15 M).bind fun q17 =>
      X7_greatestWanted_J42 x0 x1 q17 q.2 M
    else
      X7_greatestWanted_J42 x0 x1 q.1 q.2 M
def X7_greatestWanted_F (x0 : Nat) (x1 : Int32) (M : Gm) : Option (Int32) :=
  (lp (X7_greatestWanted_B4 x0 x1 M) FU (0, 0)).bind fun r1 =>
  some r1
def sh_X7_greatestWanted (x0 : Nat) (x1 : Int32) (M : Gm) : Option (Int32) := (isO M x0 7).bind fun _ => X7_greatestWanted_F x0 x1 M
theorem X7_greatestWanted_J42_ok {w : Gw} {d : Nat} {x0 : Nat} {x1 : Int32} {x2 : Int32} {x3 : Int32} {M : Gm} {o : Go} {M' : Gm} {out : (Int32 × Int32) ⊕ Int32} (h : X7_greatestWanted_J42 x0 x1 x2 x3 M = some out) (hc : ∀ t : Int32 × Int32, out = .inl t → Wp w mdX7_greatestWanted (d + 1) 4 [some (.inr x0), some (.inl x1), some (.inl t.1), some (.inl t.2)] [] M o M') (he0 : ∀ t : Int32, out = .inr t → Wp w mdX7_greatestWanted (d + 1) 48 [none, none, some (.inl t), none] [] M o M') : Wp w mdX7_greatestWanted (d + 1) 42 [some (.inr x0), some (.inl x1), some (.inl x2), some (.inl x3)] [] M o M' := by
  unfold X7_greatestWanted_J42 at h
  refine wp_iinc (v := x3 + 1) dX7_greatestWanted_42 rfl rfl ?_
  refine wp_goto (tgt := 4) dX7_greatestWanted_45 (by decide) ?_
  cases h
  exact wp_ls (lsS (lsS (lsS (lsS lsZ)))) (hc (x2, x3 + 1) rfl)

theorem X7_greatestWanted_B4_ok {w : Gw} {d : Nat} {x0 : Nat} {x1 : Int32} {M : Gm} {q : Int32 × Int32} {o : Go} {M' : Gm} {out : (Int32 × Int32) ⊕ Int32} (h : X7_greatestWanted_B4 x0 x1 M q = some out) (hc : ∀ t : Int32 × Int32, out = .inl t → Wp w mdX7_greatestWanted (d + 1) 4 [some (.inr x0), some (.inl x1), some (.inl t.1), some (.inl t.2)] [] M o M') (he0 : ∀ t : Int32, out = .inr t → Wp w mdX7_greatestWanted (d + 1) 48 [none, none, some (.inl t), none] [] M o M') : Wp w mdX7_greatestWanted (d + 1) 4 [some (.inr x0), some (.inl x1), some (.inl q.1), some (.inl q.2)] [] M o M' := by
  unfold X7_greatestWanted_B4 at h
  refine wp_iload_n dX7_greatestWanted_4 rfl ?_
  refine wp_aload_n dX7_greatestWanted_5 rfl ?_
  obtain ⟨v1, e2, h⟩ := bnd h
  refine wp_getR (c := 7) (k := 0) dX7_greatestWanted_6 e2 (by decide) (by decide) rfl fl_RX7_70 ?_
  obtain ⟨v3, e4, h⟩ := bnd h
  refine wp_getI (c := 5) (k := 8) dX7_greatestWanted_9 e4 (by decide) (by decide) rfl fl_RX7_174 ?_
  refine wp_icmp_ge (tgt := 48) dX7_greatestWanted_12 (by decide) (fun hc_ => ?_) (fun hc_ => ?_)
  · replace h := ite_t hc_ h
    cases h
    exact wp_ls (lsN (lsN (lsS (lsN lsZ)))) (he0 q.1 rfl)
  · replace h := ite_f hc_ h
    refine wp_aload_n dX7_greatestWanted_15 rfl ?_
    obtain ⟨v5, e6, h⟩ := bnd h
    refine wp_getR (c := 7) (k := 0) dX7_greatestWanted_16 e6 (by decide) (by decide) rfl fl_RX7_70 ?_
    obtain ⟨v7, e8, h⟩ := bnd h
    refine wp_getR (c := 5) (k := 3) dX7_greatestWanted_19 e8 (by decide) (by decide) rfl fl_RX7_159 ?_
    refine wp_iload_n dX7_greatestWanted_22 rfl ?_
    obtain ⟨v9, e10, h⟩ := bnd h
    refine wp_aaload (t := 7) dX7_greatestWanted_23 (by decide) rfl e10 ?_
    obtain ⟨v11, e12, h⟩ := bnd h
    refine wp_getI (c := 0) (k := 1) dX7_greatestWanted_24 e12 (by decide) (by decide) rfl fl_RX7_163 ?_
    refine wp_iload_n dX7_greatestWanted_27 rfl ?_
    refine wp_icmp_ne (tgt := 42) dX7_greatestWanted_28 (by decide) (fun hc_ => ?_) (fun hc_ => ?_)
    · replace h := ite_f hc_ h
      exact wp_ls (lsS (lsS (lsS (lsS lsZ)))) (X7_greatestWanted_J42_ok h hc he0)
    · replace h := ite_t hc_ h
      refine wp_iload_n dX7_greatestWanted_31 rfl ?_
      refine wp_aload_n dX7_greatestWanted_32 rfl ?_
      obtain ⟨v13, e14, h⟩ := bnd h
      refine wp_getR (c := 7) (k := 15) dX7_greatestWanted_33 e14 (by decide) (by decide) rfl fl_RX7_55 ?_
      refine wp_iload_n dX7_greatestWanted_36 rfl ?_
      obtain ⟨v15, e16, h⟩ := bnd h
      refine wp_iaload dX7_greatestWanted_37 e16 ?_
      obtain ⟨q17, e18, h⟩ := bnd h
      refine wp_callS (As := [.inl q.1, .inl v15]) dX7_greatestWanted_38 (sh_J9_max_7cf53_ok (d := d) e18) okJ9_max_7cf53 nnJ9_max_7cf53 ssJ9_max_7cf53 ml_RX7_171 rfl (Nat.le_of_ble_eq_true rfl) ?_
      refine wp_istore_n dX7_greatestWanted_41 (Nat.le_of_ble_eq_true rfl) ?_
      exact wp_ls (lsS (lsS (lsS (lsS lsZ)))) (X7_greatestWanted_J42_ok h hc he0)

theorem X7_greatestWanted_B4_lp {w : Gw} {d : Nat} {x0 : Nat} {x1 : Int32} {M : Gm} {o : Go} {M' : Gm} {r : Int32} : ∀ (n : Nat) (q : Int32 × Int32), lp (X7_greatestWanted_B4 x0 x1 M) n q = some r → (∀ t : Int32, r = t → Wp w mdX7_greatestWanted (d + 1) 48 [none, none, some (.inl t), none] [] M o M') → Wp w mdX7_greatestWanted (d + 1) 4 [some (.inr x0), some (.inl x1), some (.inl q.1), some (.inl q.2)] [] M o M' := by
  intro n
  induction n with
  | zero => intro q h; cases h
  | succ n ih =>
    intro q h he0
    cases hb : X7_greatestWanted_B4 x0 x1 M q with
    | none => rw [lp_succ, hb] at h; cases h
    | some out =>
      rw [lp_succ, hb] at h
      exact X7_greatestWanted_B4_ok hb (fun t e => ih t (by rw [e] at h; exact h) he0) (fun t e => he0 t (by rw [e] at h; cases h; rfl))
theorem X7_greatestWanted_F_ok {w : Gw} {d : Nat} {x0 : Nat} {x1 : Int32} {M : Gm} {out : Int32} (h : X7_greatestWanted_F x0 x1 M = some out) : Wp w mdX7_greatestWanted (d + 1) 0 [some (.inr x0), some (.inl x1), none, none] [] M (.inl (some (.inl out))) M := by
  unfold X7_greatestWanted_F at h
  refine wp_iconst (v := 0) dX7_greatestWanted_0 (by decide) ?_
  refine wp_istore_n dX7_greatestWanted_1 (Nat.le_of_ble_eq_true rfl) ?_
  refine wp_iconst (v := 0) dX7_greatestWanted_2 (by decide) ?_
  refine wp_istore_n dX7_greatestWanted_3 (Nat.le_of_ble_eq_true rfl) ?_
  obtain ⟨r1, e2, h⟩ := bnd h
  refine wp_ls (lsS (lsS (lsS (lsS lsZ)))) (X7_greatestWanted_B4_lp FU _ e2 ?_)
  intro t_ ht_; cases ht_
  refine wp_iload_n dX7_greatestWanted_48 rfl ?_
  cases h
  exact wp_iret dX7_greatestWanted_49 rfl

theorem sh_X7_greatestWanted_ok {w : Gw} {d : Nat} {x0 : Nat} {x1 : Int32} {M : Gm} {out : Int32} (h : sh_X7_greatestWanted x0 x1 M = some out) : Ev w mdX7_greatestWanted (d + 1) [.inr x0, .inl x1] M (.inl (some (.inl out))) M := by
  obtain ⟨u, e0, h⟩ := bnd h
  exact ev_of okX7_greatestWanted ⟨_, _, rfl, isO_of e0 (by decide), by decide⟩ (Nat.le_of_ble_eq_true rfl) (X7_greatestWanted_F_ok h)

/-! HeatGovernor$Clock.moveDevices(LHeatGovernor$State;)V -/
def X1_moveDevices_J37 (x1 : Nat) (x2 : Int32) (s0 : Int32) (M : Gm) : Option ((Int32 × Gm) ⊕ Gm) :=
  (gfR M x1 7 12).bind fun v1 =>
  (gfR M x1 7 0).bind fun v3 =>
  (gfR M v3 5 2).bind fun v5 =>
  (ldR M 6 v5 x2).bind fun v7 =>
  (gfI M v7 2 0).bind fun v9 =>
  (gfR M x1 7 12).bind fun v11 =>
  (ldA M 0 v11 x2).bind fun v13 =>
  (sh_X1_moved v9 v13 s0 M).bind fun q15 =>
  (stA M 0 v1 x2 q15).bind fun M17 =>
  some (.inl (x2 + 1, M17))
def X1_moveDevices_B2 (x1 : Nat) (q : Int32 × Gm) : Option ((Int32 × Gm) ⊕ Gm) :=
  (gfR q.2 x1 7 0).bind fun v1 =>
  (gfI q.2 v1 5 7).bind fun v3 =>
  if v3 ≤ q.1 then
    some (.inr q.2)
  else
    (gfR q.2 x1 7 13).bind fun v5 =>
    (ldA q.2 0 v5 q.1).bind fun v7 =>
    if v7 = ((-1)) then
      (sh_X7_greatestWanted x1 q.1 q.2).bind fun q13 =>
      X1_moveDevices_J37 x1 q.1 q13 q.2
    else
      (gfR q.2 x1 7 13).bind fun v9 =>
      (ldA q.2 0 v9 q.1).bind fun v11 =>
      X1_moveDevices_J37 x1 q.1 v11 q.2
def X1_moveDevices_F (x0 : Nat) (x1 : Nat) (M : Gm) : Option (Gm) :=
  (lp (X1_moveDevices_B2 x1) FU (0, M)).bind fun r1 =>
  some r1
def sh_X1_moveDevices (x0 : Nat) (x1 : Nat) (M : Gm) : Option (Gm) := (isO M x0 1).bind fun _ => X1_moveDevices_F x0 x1 M
theorem X1_moveDevices_J37_ok {w : Gw} {d : Nat} {x1 : Nat} {x2 : Int32} {s0 : Int32} {M : Gm} {o : Go} {M' : Gm} {out : (Int32 × Gm) ⊕ Gm} (h : X1_moveDevices_J37 x1 x2 s0 M = some out) (hc : ∀ t : Int32 × Gm, out = .inl t → Wp w mdX1_moveDevices (d + 2) 2 [none, some (.inr x1), some (.inl t.1), none] [] t.2 o M') (he0 : ∀ t : Gm, out = .inr t → Wp w mdX1_moveDevices (d + 2) 72 [none, none, none, none] [] t o M') : Wp w mdX1_moveDevices (d + 2) 37 [none, some (.inr x1), some (.inl x2), none] [.inl s0] M o M' := by
  unfold X1_moveDevices_J37 at h
  refine wp_istore_n dX1_moveDevices_37 (Nat.le_of_ble_eq_true rfl) ?_
  refine wp_aload_n dX1_moveDevices_38 rfl ?_
  obtain ⟨v1, e2, h⟩ := bnd h
  refine wp_getR (c := 7) (k := 12) dX1_moveDevices_39 e2 (by decide) (by decide) rfl fl_RX1_81 ?_
  refine wp_iload_n dX1_moveDevices_42 rfl ?_
  refine wp_aload_n dX1_moveDevices_43 rfl ?_
  obtain ⟨v3, e4, h⟩ := bnd h
  refine wp_getR (c := 7) (k := 0) dX1_moveDevices_44 e4 (by decide) (by decide) rfl fl_RX1_43 ?_
  obtain ⟨v5, e6, h⟩ := bnd h
  refine wp_getR (c := 5) (k := 2) dX1_moveDevices_47 e6 (by decide) (by decide) rfl fl_RX1_72 ?_
  refine wp_iload_n dX1_moveDevices_50 rfl ?_
  obtain ⟨v7, e8, h⟩ := bnd h
  refine wp_aaload (t := 6) dX1_moveDevices_51 (by decide) rfl e8 ?_
  obtain ⟨v9, e10, h⟩ := bnd h
  refine wp_getI (c := 2) (k := 0) dX1_moveDevices_52 e10 (by decide) (by decide) rfl fl_RX1_225 ?_
  refine wp_aload_n dX1_moveDevices_55 rfl ?_
  obtain ⟨v11, e12, h⟩ := bnd h
  refine wp_getR (c := 7) (k := 12) dX1_moveDevices_56 e12 (by decide) (by decide) rfl fl_RX1_81 ?_
  refine wp_iload_n dX1_moveDevices_59 rfl ?_
  obtain ⟨v13, e14, h⟩ := bnd h
  refine wp_iaload dX1_moveDevices_60 e14 ?_
  refine wp_iload_n dX1_moveDevices_61 rfl ?_
  obtain ⟨q15, e16, h⟩ := bnd h
  refine wp_callS (As := [.inl v9, .inl v13, .inl s0]) dX1_moveDevices_62 (sh_X1_moved_ok (d := d) e16) okX1_moved nnX1_moved ssX1_moved ml_RX1_228 rfl (Nat.le_of_ble_eq_true rfl) ?_
  obtain ⟨M17, e18, h⟩ := bnd h
  refine wp_iastore dX1_moveDevices_65 e18 ?_
  refine wp_iinc (v := x2 + 1) dX1_moveDevices_66 rfl rfl ?_
  refine wp_goto (tgt := 2) dX1_moveDevices_69 (by decide) ?_
  cases h
  exact wp_ls (lsN (lsS (lsS (lsN lsZ)))) (hc (x2 + 1, M17) rfl)

theorem X1_moveDevices_B2_ok {w : Gw} {d : Nat} {x1 : Nat} {q : Int32 × Gm} {o : Go} {M' : Gm} {out : (Int32 × Gm) ⊕ Gm} (h : X1_moveDevices_B2 x1 q = some out) (hc : ∀ t : Int32 × Gm, out = .inl t → Wp w mdX1_moveDevices (d + 2) 2 [none, some (.inr x1), some (.inl t.1), none] [] t.2 o M') (he0 : ∀ t : Gm, out = .inr t → Wp w mdX1_moveDevices (d + 2) 72 [none, none, none, none] [] t o M') : Wp w mdX1_moveDevices (d + 2) 2 [none, some (.inr x1), some (.inl q.1), none] [] q.2 o M' := by
  unfold X1_moveDevices_B2 at h
  refine wp_iload_n dX1_moveDevices_2 rfl ?_
  refine wp_aload_n dX1_moveDevices_3 rfl ?_
  obtain ⟨v1, e2, h⟩ := bnd h
  refine wp_getR (c := 7) (k := 0) dX1_moveDevices_4 e2 (by decide) (by decide) rfl fl_RX1_43 ?_
  obtain ⟨v3, e4, h⟩ := bnd h
  refine wp_getI (c := 5) (k := 7) dX1_moveDevices_7 e4 (by decide) (by decide) rfl fl_RX1_69 ?_
  refine wp_icmp_ge (tgt := 72) dX1_moveDevices_10 (by decide) (fun hc_ => ?_) (fun hc_ => ?_)
  · replace h := ite_t hc_ h
    cases h
    exact wp_ls (lsN (lsN (lsN (lsN lsZ)))) (he0 q.2 rfl)
  · replace h := ite_f hc_ h
    refine wp_aload_n dX1_moveDevices_13 rfl ?_
    obtain ⟨v5, e6, h⟩ := bnd h
    refine wp_getR (c := 7) (k := 13) dX1_moveDevices_14 e6 (by decide) (by decide) rfl fl_RX1_219 ?_
    refine wp_iload_n dX1_moveDevices_17 rfl ?_
    obtain ⟨v7, e8, h⟩ := bnd h
    refine wp_iaload dX1_moveDevices_18 e8 ?_
    refine wp_iconst (v := (-1)) dX1_moveDevices_19 (by decide) ?_
    refine wp_icmp_ne (tgt := 31) dX1_moveDevices_20 (by decide) (fun hc_ => ?_) (fun hc_ => ?_)
    · replace h := ite_f hc_ h
      refine wp_aload_n dX1_moveDevices_31 rfl ?_
      obtain ⟨v9, e10, h⟩ := bnd h
      refine wp_getR (c := 7) (k := 13) dX1_moveDevices_32 e10 (by decide) (by decide) rfl fl_RX1_219 ?_
      refine wp_iload_n dX1_moveDevices_35 rfl ?_
      obtain ⟨v11, e12, h⟩ := bnd h
      refine wp_iaload dX1_moveDevices_36 e12 ?_
      exact wp_ls (lsN (lsS (lsS (lsN lsZ)))) (X1_moveDevices_J37_ok h hc he0)
    · replace h := ite_t hc_ h
      refine wp_aload_n dX1_moveDevices_23 rfl ?_
      refine wp_iload_n dX1_moveDevices_24 rfl ?_
      obtain ⟨q13, e14, h⟩ := bnd h
      refine wp_callV (As := [.inl q.1]) dX1_moveDevices_25 (sh_X7_greatestWanted_ok (d := d) e14) okX7_greatestWanted nnX7_greatestWanted vvX7_greatestWanted ml_RX1_222 rfl (Nat.le_of_ble_eq_true rfl) ?_
      refine wp_goto (tgt := 37) dX1_moveDevices_28 (by decide) ?_
      exact wp_ls (lsN (lsS (lsS (lsN lsZ)))) (X1_moveDevices_J37_ok h hc he0)

theorem X1_moveDevices_B2_lp {w : Gw} {d : Nat} {x1 : Nat} {o : Go} {M' : Gm} {r : Gm} : ∀ (n : Nat) (q : Int32 × Gm), lp (X1_moveDevices_B2 x1) n q = some r → (∀ t : Gm, r = t → Wp w mdX1_moveDevices (d + 2) 72 [none, none, none, none] [] t o M') → Wp w mdX1_moveDevices (d + 2) 2 [none, some (.inr x1), some (.inl q.1), none] [] q.2 o M' := by
  intro n
  induction n with
  | zero => intro q h; cases h
  | succ n ih =>
    intro q h he0
    cases hb : X1_moveDevices_B2 x1 q with
    | none => rw [lp_succ, hb] at h; cases h
    | some out =>
      rw [lp_succ, hb] at h
      exact X1_moveDevices_B2_ok hb (fun t e => ih t (by rw [e] at h; exact h) he0) (fun t e => he0 t (by rw [e] at h; cases h; rfl))
theorem X1_moveDevices_F_ok {w : Gw} {d : Nat} {x0 : Nat} {x1 : Nat} {M : Gm} {out : Gm} (h : X1_moveDevices_F x0 x1 M = some out) : Wp w mdX1_moveDevices (d + 2) 0 [some (.inr x0), some (.inr x1), none, none] [] M (.inl none) out := by
  unfold X1_moveDevices_F at h
  refine wp_iconst (v := 0) dX1_moveDevices_0 (by decide) ?_
  refine wp_istore_n dX1_moveDevices_1 (Nat.le_of_ble_eq_true rfl) ?_
  obtain ⟨r1, e2, h⟩ := bnd h
  refine wp_ls (lsN (lsS (lsS (lsN lsZ)))) (X1_moveDevices_B2_lp FU _ e2 ?_)
  intro t_ ht_; cases ht_
  cases h
  exact wp_ret dX1_moveDevices_72 rfl

theorem sh_X1_moveDevices_ok {w : Gw} {d : Nat} {x0 : Nat} {x1 : Nat} {M : Gm} {out : Gm} (h : sh_X1_moveDevices x0 x1 M = some out) : Ev w mdX1_moveDevices (d + 2) [.inr x0, .inr x1] M (.inl none) out := by
  obtain ⟨u, e0, h⟩ := bnd h
  exact ev_of okX1_moveDevices ⟨_, _, rfl, isO_of e0 (by decide), by decide⟩ (Nat.le_of_ble_eq_true rfl) (X1_moveDevices_F_ok h)

/-! java/lang/Math.floorDiv(II)I -/
def J9_floorDiv_7cf53_J21 (x2 : Int32) (M : Gm) : Option (Int32) :=
  some x2
def J9_floorDiv_7cf53_F (x0 : Int32) (x1 : Int32) (M : Gm) : Option (Int32) :=
  (dvI x0 x1).bind fun v1 =>
  if 0 ≤ (x0 ^^^ x1) then
    J9_floorDiv_7cf53_J21 v1 M
  else
    if (v1 * x1) = x0 then
      J9_floorDiv_7cf53_J21 v1 M
    else
      some (v1 - 1)
def sh_J9_floorDiv_7cf53 (x0 : Int32) (x1 : Int32) (M : Gm) : Option (Int32) := J9_floorDiv_7cf53_F x0 x1 M
theorem J9_floorDiv_7cf53_J21_ok {w : Gw} {d : Nat} {x2 : Int32} {M : Gm} {out : Int32} (h : J9_floorDiv_7cf53_J21 x2 M = some out) : Wp w mdJ9_floorDiv_7cf53 d 21 [none, none, some (.inl x2)] [] M (.inl (some (.inl out))) M := by
  unfold J9_floorDiv_7cf53_J21 at h
  refine wp_iload_n dJ9_floorDiv_7cf53_21 rfl ?_
  cases h
  exact wp_iret dJ9_floorDiv_7cf53_22 rfl

theorem J9_floorDiv_7cf53_F_ok {w : Gw} {d : Nat} {x0 : Int32} {x1 : Int32} {M : Gm} {out : Int32} (h : J9_floorDiv_7cf53_F x0 x1 M = some out) : Wp w mdJ9_floorDiv_7cf53 d 0 [some (.inl x0), some (.inl x1), none] [] M (.inl (some (.inl out))) M := by
  unfold J9_floorDiv_7cf53_F at h
  refine wp_iload_n dJ9_floorDiv_7cf53_0 rfl ?_
  refine wp_iload_n dJ9_floorDiv_7cf53_1 rfl ?_
  obtain ⟨v1, e2, h⟩ := bnd h
  refine wp_idiv dJ9_floorDiv_7cf53_2 e2 ?_
  refine wp_istore_n dJ9_floorDiv_7cf53_3 (Nat.le_of_ble_eq_true rfl) ?_
  refine wp_iload_n dJ9_floorDiv_7cf53_4 rfl ?_
  refine wp_iload_n dJ9_floorDiv_7cf53_5 rfl ?_
  refine wp_ixor dJ9_floorDiv_7cf53_6 ?_
  refine wp_if_ge (tgt := 21) dJ9_floorDiv_7cf53_7 (by decide) (fun hc_ => ?_) (fun hc_ => ?_)
  · replace h := ite_t hc_ h
    exact wp_ls (lsN (lsN (lsS lsZ))) (J9_floorDiv_7cf53_J21_ok h)
  · replace h := ite_f hc_ h
    refine wp_iload_n dJ9_floorDiv_7cf53_10 rfl ?_
    refine wp_iload_n dJ9_floorDiv_7cf53_11 rfl ?_
    refine wp_imul dJ9_floorDiv_7cf53_12 ?_
    refine wp_iload_n dJ9_floorDiv_7cf53_13 rfl ?_
    refine wp_icmp_eq (tgt := 21) dJ9_floorDiv_7cf53_14 (by decide) (fun hc_ => ?_) (fun hc_ => ?_)
    · replace h := ite_t hc_ h
      exact wp_ls (lsN (lsN (lsS lsZ))) (J9_floorDiv_7cf53_J21_ok h)
    · replace h := ite_f hc_ h
      refine wp_iload_n dJ9_floorDiv_7cf53_17 rfl ?_
      refine wp_iconst (v := 1) dJ9_floorDiv_7cf53_18 (by decide) ?_
      refine wp_isub dJ9_floorDiv_7cf53_19 ?_
      cases h
      exact wp_iret dJ9_floorDiv_7cf53_20 rfl

theorem sh_J9_floorDiv_7cf53_ok {w : Gw} {d : Nat} {x0 : Int32} {x1 : Int32} {M : Gm} {out : Int32} (h : sh_J9_floorDiv_7cf53 x0 x1 M = some out) : Ev w mdJ9_floorDiv_7cf53 d [.inl x0, .inl x1] M (.inl (some (.inl out))) M := ev_of okJ9_floorDiv_7cf53 trivial (Nat.le_of_ble_eq_true rfl) (J9_floorDiv_7cf53_F_ok h)

/-! HeatGovernor.quotient(II)I -/
def X11_quotient_J13 (s0 : Int32) (M : Gm) : Option (Int32) :=
  some s0
def X11_quotient_F (x0 : Int32) (x1 : Int32) (M : Gm) : Option (Int32) :=
  if x1 ≤ 0 then
    X11_quotient_J13 0 M
  else
    (sh_J9_floorDiv_7cf53 x0 x1 M).bind fun q1 =>
    X11_quotient_J13 q1 M
def sh_X11_quotient (x0 : Int32) (x1 : Int32) (M : Gm) : Option (Int32) := X11_quotient_F x0 x1 M
theorem X11_quotient_J13_ok {w : Gw} {d : Nat} {s0 : Int32} {M : Gm} {out : Int32} (h : X11_quotient_J13 s0 M = some out) : Wp w mdX11_quotient (d + 1) 13 [none, none] [.inl s0] M (.inl (some (.inl out))) M := by
  unfold X11_quotient_J13 at h
  cases h
  exact wp_iret dX11_quotient_13 rfl

theorem X11_quotient_F_ok {w : Gw} {d : Nat} {x0 : Int32} {x1 : Int32} {M : Gm} {out : Int32} (h : X11_quotient_F x0 x1 M = some out) : Wp w mdX11_quotient (d + 1) 0 [some (.inl x0), some (.inl x1)] [] M (.inl (some (.inl out))) M := by
  unfold X11_quotient_F at h
  refine wp_iload_n dX11_quotient_0 rfl ?_
  refine wp_if_le (tgt := 12) dX11_quotient_1 (by decide) (fun hc_ => ?_) (fun hc_ => ?_)
  · replace h := ite_t hc_ h
    refine wp_iconst (v := 0) dX11_quotient_12 (by decide) ?_
    exact wp_ls (lsN (lsN lsZ)) (X11_quotient_J13_ok h)
  · replace h := ite_f hc_ h
    refine wp_iload_n dX11_quotient_4 rfl ?_
    refine wp_iload_n dX11_quotient_5 rfl ?_
    obtain ⟨q1, e2, h⟩ := bnd h
    refine wp_callS (As := [.inl x0, .inl x1]) dX11_quotient_6 (sh_J9_floorDiv_7cf53_ok (d := d) e2) okJ9_floorDiv_7cf53 nnJ9_floorDiv_7cf53 ssJ9_floorDiv_7cf53 ml_RX11_380 rfl (Nat.le_of_ble_eq_true rfl) ?_
    refine wp_goto (tgt := 13) dX11_quotient_9 (by decide) ?_
    exact wp_ls (lsN (lsN lsZ)) (X11_quotient_J13_ok h)

theorem sh_X11_quotient_ok {w : Gw} {d : Nat} {x0 : Int32} {x1 : Int32} {M : Gm} {out : Int32} (h : sh_X11_quotient x0 x1 M = some out) : Ev w mdX11_quotient (d + 1) [.inl x0, .inl x1] M (.inl (some (.inl out))) M := ev_of okX11_quotient trivial (Nat.le_of_ble_eq_true rfl) (X11_quotient_F_ok h)

/-! HeatGovernor.within(III)I -/
def X11_within_F (x0 : Int32) (x1 : Int32) (x2 : Int32) (M : Gm) : Option (Int32) :=
  (sh_J9_min_7cf53 x2 x0 M).bind fun q1 =>
  (sh_J9_max_7cf53 x1 q1 M).bind fun q3 =>
  some q3
def sh_X11_within (x0 : Int32) (x1 : Int32) (x2 : Int32) (M : Gm) : Option (Int32) := X11_within_F x0 x1 x2 M
theorem X11_within_F_ok {w : Gw} {d : Nat} {x0 : Int32} {x1 : Int32} {x2 : Int32} {M : Gm} {out : Int32} (h : X11_within_F x0 x1 x2 M = some out) : Wp w mdX11_within (d + 1) 0 [some (.inl x0), some (.inl x1), some (.inl x2)] [] M (.inl (some (.inl out))) M := by
  unfold X11_within_F at h
  refine wp_iload_n dX11_within_0 rfl ?_
  refine wp_iload_n dX11_within_1 rfl ?_
  refine wp_iload_n dX11_within_2 rfl ?_
  obtain ⟨q1, e2, h⟩ := bnd h
  refine wp_callS (As := [.inl x2, .inl x0]) dX11_within_3 (sh_J9_min_7cf53_ok (d := d) e2) okJ9_min_7cf53 nnJ9_min_7cf53 ssJ9_min_7cf53 ml_RX11_385 rfl (Nat.le_of_ble_eq_true rfl) ?_
  obtain ⟨q3, e4, h⟩ := bnd h
  refine wp_callS (As := [.inl x1, .inl q1]) dX11_within_6 (sh_J9_max_7cf53_ok (d := d) e4) okJ9_max_7cf53 nnJ9_max_7cf53 ssJ9_max_7cf53 ml_RX11_388 rfl (Nat.le_of_ble_eq_true rfl) ?_
  cases h
  exact wp_iret dX11_within_9 rfl

theorem sh_X11_within_ok {w : Gw} {d : Nat} {x0 : Int32} {x1 : Int32} {x2 : Int32} {M : Gm} {out : Int32} (h : sh_X11_within x0 x1 x2 M = some out) : Ev w mdX11_within (d + 1) [.inl x0, .inl x1, .inl x2] M (.inl (some (.inl out))) M := ev_of okX11_within trivial (Nat.le_of_ble_eq_true rfl) (X11_within_F_ok h)

/-! HeatGovernor$State.isShut(I)Z -/
def X7_isShut_J14 (s0 : Int32) (M : Gm) : Option (Int32) :=
  (zck s0).bind fun z1 =>
  some z1
def X7_isShut_F (x0 : Nat) (x1 : Int32) (M : Gm) : Option (Int32) :=
  (gfR M x0 7 8).bind fun v1 =>
  (ldA M 0 v1 x1).bind fun v3 =>
  if v3 = 0 then
    X7_isShut_J14 0 M
  else
    X7_isShut_J14 1 M
def sh_X7_isShut (x0 : Nat) (x1 : Int32) (M : Gm) : Option (Int32) := (isO M x0 7).bind fun _ => X7_isShut_F x0 x1 M
theorem X7_isShut_J14_ok {w : Gw} {d : Nat} {s0 : Int32} {M : Gm} {out : Int32} (h : X7_isShut_J14 s0 M = some out) : Wp w mdX7_isShut d 14 [none, none] [.inl s0] M (.inl (some (.inl out))) M := by
  unfold X7_isShut_J14 at h
  obtain ⟨z1, e2, h⟩ := bnd h
  obtain ⟨hz_, rfl⟩ := zck_of e2
  cases h
  exact wp_zret dX7_isShut_14 rfl hz_

theorem X7_isShut_F_ok {w : Gw} {d : Nat} {x0 : Nat} {x1 : Int32} {M : Gm} {out : Int32} (h : X7_isShut_F x0 x1 M = some out) : Wp w mdX7_isShut d 0 [some (.inr x0), some (.inl x1)] [] M (.inl (some (.inl out))) M := by
  unfold X7_isShut_F at h
  refine wp_aload_n dX7_isShut_0 rfl ?_
  obtain ⟨v1, e2, h⟩ := bnd h
  refine wp_getR (c := 7) (k := 8) dX7_isShut_1 e2 (by decide) (by decide) rfl fl_RX7_34 ?_
  refine wp_iload_n dX7_isShut_4 rfl ?_
  obtain ⟨v3, e4, h⟩ := bnd h
  refine wp_iaload dX7_isShut_5 e4 ?_
  refine wp_if_eq (tgt := 13) dX7_isShut_6 (by decide) (fun hc_ => ?_) (fun hc_ => ?_)
  · replace h := ite_t hc_ h
    refine wp_iconst (v := 0) dX7_isShut_13 (by decide) ?_
    exact wp_ls (lsN (lsN lsZ)) (X7_isShut_J14_ok h)
  · replace h := ite_f hc_ h
    refine wp_iconst (v := 1) dX7_isShut_9 (by decide) ?_
    refine wp_goto (tgt := 14) dX7_isShut_10 (by decide) ?_
    exact wp_ls (lsN (lsN lsZ)) (X7_isShut_J14_ok h)

theorem sh_X7_isShut_ok {w : Gw} {d : Nat} {x0 : Nat} {x1 : Int32} {M : Gm} {out : Int32} (h : sh_X7_isShut x0 x1 M = some out) : Ev w mdX7_isShut d [.inr x0, .inl x1] M (.inl (some (.inl out))) M := by
  obtain ⟨u, e0, h⟩ := bnd h
  exact ev_of okX7_isShut ⟨_, _, rfl, isO_of e0 (by decide), by decide⟩ (Nat.le_of_ble_eq_true rfl) (X7_isShut_F_ok h)

/-! HeatGovernor$Clock.moveHeats(LHeatGovernor$State;)V -/
def X1_moveHeats_J48 (x0 : Nat) (x1 : Nat) (x2 : Nat) (x3 : Int32) (x4 : Int32) (s0 : Nat) (s1 : Int32) (s2 : Int32) (s3 : Int32) (M : Gm) : Option ((Int32 × Gm) ⊕ Gm) :=
  (gfR M x1 7 5).bind fun v1 =>
  (ldA M 0 v1 x3).bind fun v3 =>
  (sh_X11_quotient (x4 - 200) v3 M).bind fun q5 =>
  (stA M 0 s0 s1 ((s2 + s3) - q5)).bind fun M7 =>
  some (.inl (x3 + 1, M7))
def X1_moveHeats_B7 (x0 : Nat) (x1 : Nat) (x2 : Nat) (q : Int32 × Gm) : Option ((Int32 × Gm) ⊕ Gm) :=
  (gfI q.2 x2 5 5).bind fun v1 =>
  if v1 ≤ q.1 then
    some (.inr q.2)
  else
    (gfR q.2 x1 7 3).bind fun v3 =>
    (ldA q.2 0 v3 q.1).bind fun v5 =>
    (gfR q.2 x0 1 0).bind fun v7 =>
    (sh_X7_isShut x1 q.1 q.2).bind fun q9 =>
    if q9 = 0 then
      (gfR q.2 x1 7 4).bind fun v11 =>
      (ldA q.2 0 v11 q.1).bind fun v13 =>
      X1_moveHeats_J48 x0 x1 x2 q.1 v5 v7 q.1 v5 v13 q.2
    else
      X1_moveHeats_J48 x0 x1 x2 q.1 v5 v7 q.1 v5 0 q.2
def X1_moveHeats_B74 (x0 : Nat) (x1 : Nat) (x2 : Nat) (q : Int32 × Gm) : Option ((Int32 × Gm) ⊕ Gm) :=
  (gfI q.2 x2 5 7).bind fun v1 =>
  if v1 ≤ q.1 then
    some (.inr q.2)
  else
    (gfR q.2 x0 1 0).bind fun v3 =>
    (gfR q.2 x2 5 2).bind fun v5 =>
    (ldR q.2 6 v5 q.1).bind fun v7 =>
    (gfI q.2 v7 2 1).bind fun v9 =>
    (ldA q.2 0 v3 v9).bind fun v11 =>
    (gfR q.2 x1 7 12).bind fun v13 =>
    (ldA q.2 0 v13 q.1).bind fun v15 =>
    (gfR q.2 x1 7 14).bind fun v17 =>
    (ldA q.2 0 v17 q.1).bind fun v19 =>
    (stA q.2 0 v3 v9 (v11 - (v15 * v19))).bind fun M21 =>
    some (.inl (q.1 + 1, M21))
def X1_moveHeats_B120 (x0 : Nat) (x1 : Nat) (x2 : Nat) (q : Int32 × Gm) : Option ((Int32 × Gm) ⊕ Gm) :=
  (gfI q.2 x2 5 9).bind fun v1 =>
  if v1 ≤ q.1 then
    some (.inr q.2)
  else
    (gfR q.2 x2 5 4).bind fun v3 =>
    (ldR q.2 8 v3 q.1).bind fun v5 =>
    (gfR q.2 x1 7 3).bind fun v7 =>
    (gfI q.2 v5 9 0).bind fun v9 =>
    (ldA q.2 0 v7 v9).bind fun v11 =>
    (gfR q.2 x1 7 3).bind fun v13 =>
    (gfI q.2 v5 9 1).bind fun v15 =>
    (ldA q.2 0 v13 v15).bind fun v17 =>
    (gfI q.2 v5 9 2).bind fun v19 =>
    (sh_X11_quotient (v11 - v17) v19 q.2).bind fun q21 =>
    (gfR q.2 x0 1 0).bind fun v23 =>
    (gfI q.2 v5 9 0).bind fun v25 =>
    (ldA q.2 0 v23 v25).bind fun v27 =>
    (stA q.2 0 v23 v25 (v27 - q21)).bind fun M29 =>
    (gfR M29 x0 1 0).bind fun v31 =>
    (gfI M29 v5 9 1).bind fun v33 =>
    (ldA M29 0 v31 v33).bind fun v35 =>
    (stA M29 0 v31 v33 (v35 + q21)).bind fun M37 =>
    some (.inl (q.1 + 1, M37))
def X1_moveHeats_B205 (x0 : Nat) (x1 : Nat) (x2 : Nat) (q : Int32 × Gm) : Option ((Int32 × Gm) ⊕ Gm) :=
  (gfI q.2 x2 5 5).bind fun v1 =>
  if v1 ≤ q.1 then
    some (.inr q.2)
  else
    (gfR q.2 x1 7 3).bind fun v3 =>
    (gfR q.2 x0 1 0).bind fun v5 =>
    (ldA q.2 0 v5 q.1).bind fun v7 =>
    (sh_X11_within v7 0 1500 q.2).bind fun q9 =>
    (stA q.2 0 v3 q.1 q9).bind fun M11 =>
    some (.inl (q.1 + 1, M11))
def X1_moveHeats_F (x0 : Nat) (x1 : Nat) (M : Gm) : Option (Gm) :=
  (gfR M x1 7 0).bind fun v1 =>
  (lp (X1_moveHeats_B7 x0 x1 v1) FU (0, M)).bind fun r3 =>
  (lp (X1_moveHeats_B74 x0 x1 v1) FU (0, r3)).bind fun r5 =>
  (lp (X1_moveHeats_B120 x0 x1 v1) FU (0, r5)).bind fun r7 =>
  (lp (X1_moveHeats_B205 x0 x1 v1) FU (0, r7)).bind fun r9 =>
  some r9
def sh_X1_moveHeats (x0 : Nat) (x1 : Nat) (M : Gm) : Option (Gm) := (isO M x0 1).bind fun _ => X1_moveHeats_F x0 x1 M
theorem X1_moveHeats_J48_ok {w : Gw} {d : Nat} {x0 : Nat} {x1 : Nat} {x2 : Nat} {x3 : Int32} {x4 : Int32} {s0 : Nat} {s1 : Int32} {s2 : Int32} {s3 : Int32} {M : Gm} {o : Go} {M' : Gm} {out : (Int32 × Gm) ⊕ Gm} (h : X1_moveHeats_J48 x0 x1 x2 x3 x4 s0 s1 s2 s3 M = some out) (hc : ∀ t : Int32 × Gm, out = .inl t → Wp w mdX1_moveHeats (d + 2) 7 [some (.inr x0), some (.inr x1), some (.inr x2), some (.inl t.1), none, none] [] t.2 o M') (he0 : ∀ t : Gm, out = .inr t → Wp w mdX1_moveHeats (d + 2) 72 [some (.inr x0), some (.inr x1), some (.inr x2), none, none, none] [] t o M') : Wp w mdX1_moveHeats (d + 2) 48 [some (.inr x0), some (.inr x1), some (.inr x2), some (.inl x3), some (.inl x4), none] [.inl s3, .inl s2, .inl s1, .inr s0] M o M' := by
  unfold X1_moveHeats_J48 at h
  refine wp_iadd dX1_moveHeats_48 ?_
  refine wp_iload dX1_moveHeats_49 rfl ?_
  refine wp_sipush (v := 200) dX1_moveHeats_51 (by decide) ?_
  refine wp_isub dX1_moveHeats_54 ?_
  refine wp_aload_n dX1_moveHeats_55 rfl ?_
  obtain ⟨v1, e2, h⟩ := bnd h
  refine wp_getR (c := 7) (k := 5) dX1_moveHeats_56 e2 (by decide) (by decide) rfl fl_RX1_62 ?_
  refine wp_iload_n dX1_moveHeats_59 rfl ?_
  obtain ⟨v3, e4, h⟩ := bnd h
  refine wp_iaload dX1_moveHeats_60 e4 ?_
  obtain ⟨q5, e6, h⟩ := bnd h
  refine wp_callSN (As := [.inl (x4 - 200), .inl v3]) dX1_moveHeats_61 (sh_X11_quotient_ok (d := d) e6) okX11_quotient nnX11_quotient ssX11_quotient nl_RX1_65 rfl (Nat.le_of_ble_eq_true rfl) ?_
  refine wp_isub dX1_moveHeats_64 ?_
  obtain ⟨M7, e8, h⟩ := bnd h
  refine wp_iastore dX1_moveHeats_65 e8 ?_
  refine wp_iinc (v := x3 + 1) dX1_moveHeats_66 rfl rfl ?_
  refine wp_goto (tgt := 7) dX1_moveHeats_69 (by decide) ?_
  cases h
  exact wp_ls (lsS (lsS (lsS (lsS (lsN (lsN lsZ)))))) (hc (x3 + 1, M7) rfl)

theorem X1_moveHeats_B7_ok {w : Gw} {d : Nat} {x0 : Nat} {x1 : Nat} {x2 : Nat} {q : Int32 × Gm} {o : Go} {M' : Gm} {out : (Int32 × Gm) ⊕ Gm} (h : X1_moveHeats_B7 x0 x1 x2 q = some out) (hc : ∀ t : Int32 × Gm, out = .inl t → Wp w mdX1_moveHeats (d + 2) 7 [some (.inr x0), some (.inr x1), some (.inr x2), some (.inl t.1), none, none] [] t.2 o M') (he0 : ∀ t : Gm, out = .inr t → Wp w mdX1_moveHeats (d + 2) 72 [some (.inr x0), some (.inr x1), some (.inr x2), none, none, none] [] t o M') : Wp w mdX1_moveHeats (d + 2) 7 [some (.inr x0), some (.inr x1), some (.inr x2), some (.inl q.1), none, none] [] q.2 o M' := by
  unfold X1_moveHeats_B7 at h
  refine wp_iload_n dX1_moveHeats_7 rfl ?_
  refine wp_aload_n dX1_moveHeats_8 rfl ?_
  obtain ⟨v1, e2, h⟩ := bnd h
  refine wp_getI (c := 5) (k := 5) dX1_moveHeats_9 e2 (by decide) (by decide) rfl fl_RX1_47 ?_
  refine wp_icmp_ge (tgt := 72) dX1_moveHeats_12 (by decide) (fun hc_ => ?_) (fun hc_ => ?_)
  · replace h := ite_t hc_ h
    cases h
    exact wp_ls (lsS (lsS (lsS (lsN (lsN (lsN lsZ)))))) (he0 q.2 rfl)
  · replace h := ite_f hc_ h
    refine wp_aload_n dX1_moveHeats_15 rfl ?_
    obtain ⟨v3, e4, h⟩ := bnd h
    refine wp_getR (c := 7) (k := 3) dX1_moveHeats_16 e4 (by decide) (by decide) rfl fl_RX1_52 ?_
    refine wp_iload_n dX1_moveHeats_19 rfl ?_
    obtain ⟨v5, e6, h⟩ := bnd h
    refine wp_iaload dX1_moveHeats_20 e6 ?_
    refine wp_istore dX1_moveHeats_21 (Nat.le_of_ble_eq_true rfl) ?_
    refine wp_aload_n dX1_moveHeats_23 rfl ?_
    obtain ⟨v7, e8, h⟩ := bnd h
    refine wp_getR (c := 1) (k := 0) dX1_moveHeats_24 e8 (by decide) (by decide) rfl fl_RX1_9 ?_
    refine wp_iload_n dX1_moveHeats_27 rfl ?_
    refine wp_iload dX1_moveHeats_28 rfl ?_
    refine wp_aload_n dX1_moveHeats_30 rfl ?_
    refine wp_iload_n dX1_moveHeats_31 rfl ?_
    obtain ⟨q9, e10, h⟩ := bnd h
    refine wp_callV (As := [.inl q.1]) dX1_moveHeats_32 (sh_X7_isShut_ok (d := d + 1) e10) okX7_isShut nnX7_isShut vvX7_isShut ml_RX1_55 rfl (Nat.le_of_ble_eq_true rfl) ?_
    refine wp_if_eq (tgt := 42) dX1_moveHeats_35 (by decide) (fun hc_ => ?_) (fun hc_ => ?_)
    · replace h := ite_t hc_ h
      refine wp_aload_n dX1_moveHeats_42 rfl ?_
      obtain ⟨v11, e12, h⟩ := bnd h
      refine wp_getR (c := 7) (k := 4) dX1_moveHeats_43 e12 (by decide) (by decide) rfl fl_RX1_59 ?_
      refine wp_iload_n dX1_moveHeats_46 rfl ?_
      obtain ⟨v13, e14, h⟩ := bnd h
      refine wp_iaload dX1_moveHeats_47 e14 ?_
      exact wp_ls (lsS (lsS (lsS (lsS (lsS (lsN lsZ)))))) (X1_moveHeats_J48_ok h hc he0)
    · replace h := ite_f hc_ h
      refine wp_iconst (v := 0) dX1_moveHeats_38 (by decide) ?_
      refine wp_goto (tgt := 48) dX1_moveHeats_39 (by decide) ?_
      exact wp_ls (lsS (lsS (lsS (lsS (lsS (lsN lsZ)))))) (X1_moveHeats_J48_ok h hc he0)

theorem X1_moveHeats_B7_lp {w : Gw} {d : Nat} {x0 : Nat} {x1 : Nat} {x2 : Nat} {o : Go} {M' : Gm} {r : Gm} : ∀ (n : Nat) (q : Int32 × Gm), lp (X1_moveHeats_B7 x0 x1 x2) n q = some r → (∀ t : Gm, r = t → Wp w mdX1_moveHeats (d + 2) 72 [some (.inr x0), some (.inr x1), some (.inr x2), none, none, none] [] t o M') → Wp w mdX1_moveHeats (d + 2) 7 [some (.inr x0), some (.inr x1), some (.inr x2), some (.inl q.1), none, none] [] q.2 o M' := by
  intro n
  induction n with
  | zero => intro q h; cases h
  | succ n ih =>
    intro q h he0
    cases hb : X1_moveHeats_B7 x0 x1 x2 q with
    | none => rw [lp_succ, hb] at h; cases h
    | some out =>
      rw [lp_succ, hb] at h
      exact X1_moveHeats_B7_ok hb (fun t e => ih t (by rw [e] at h; exact h) he0) (fun t e => he0 t (by rw [e] at h; cases h; rfl))
theorem X1_moveHeats_B74_ok {w : Gw} {d : Nat} {x0 : Nat} {x1 : Nat} {x2 : Nat} {q : Int32 × Gm} {o : Go} {M' : Gm} {out : (Int32 × Gm) ⊕ Gm} (h : X1_moveHeats_B74 x0 x1 x2 q = some out) (hc : ∀ t : Int32 × Gm, out = .inl t → Wp w mdX1_moveHeats (d + 2) 74 [some (.inr x0), some (.inr x1), some (.inr x2), some (.inl t.1), none, none] [] t.2 o M') (he0 : ∀ t : Gm, out = .inr t → Wp w mdX1_moveHeats (d + 2) 118 [some (.inr x0), some (.inr x1), some (.inr x2), none, none, none] [] t o M') : Wp w mdX1_moveHeats (d + 2) 74 [some (.inr x0), some (.inr x1), some (.inr x2), some (.inl q.1), none, none] [] q.2 o M' := by
  unfold X1_moveHeats_B74 at h
  refine wp_iload_n dX1_moveHeats_74 rfl ?_
  refine wp_aload_n dX1_moveHeats_75 rfl ?_
  obtain ⟨v1, e2, h⟩ := bnd h
  refine wp_getI (c := 5) (k := 7) dX1_moveHeats_76 e2 (by decide) (by decide) rfl fl_RX1_69 ?_
  refine wp_icmp_ge (tgt := 118) dX1_moveHeats_79 (by decide) (fun hc_ => ?_) (fun hc_ => ?_)
  · replace h := ite_t hc_ h
    cases h
    exact wp_ls (lsS (lsS (lsS (lsN (lsN (lsN lsZ)))))) (he0 q.2 rfl)
  · replace h := ite_f hc_ h
    refine wp_aload_n dX1_moveHeats_82 rfl ?_
    obtain ⟨v3, e4, h⟩ := bnd h
    refine wp_getR (c := 1) (k := 0) dX1_moveHeats_83 e4 (by decide) (by decide) rfl fl_RX1_9 ?_
    refine wp_aload_n dX1_moveHeats_86 rfl ?_
    obtain ⟨v5, e6, h⟩ := bnd h
    refine wp_getR (c := 5) (k := 2) dX1_moveHeats_87 e6 (by decide) (by decide) rfl fl_RX1_72 ?_
    refine wp_iload_n dX1_moveHeats_90 rfl ?_
    obtain ⟨v7, e8, h⟩ := bnd h
    refine wp_aaload (t := 6) dX1_moveHeats_91 (by decide) rfl e8 ?_
    obtain ⟨v9, e10, h⟩ := bnd h
    refine wp_getI (c := 2) (k := 1) dX1_moveHeats_92 e10 (by decide) (by decide) rfl fl_RX1_76 ?_
    refine wp_dup2 dX1_moveHeats_95 ?_
    obtain ⟨v11, e12, h⟩ := bnd h
    refine wp_iaload dX1_moveHeats_96 e12 ?_
    refine wp_aload_n dX1_moveHeats_97 rfl ?_
    obtain ⟨v13, e14, h⟩ := bnd h
    refine wp_getR (c := 7) (k := 12) dX1_moveHeats_98 e14 (by decide) (by decide) rfl fl_RX1_81 ?_
    refine wp_iload_n dX1_moveHeats_101 rfl ?_
    obtain ⟨v15, e16, h⟩ := bnd h
    refine wp_iaload dX1_moveHeats_102 e16 ?_
    refine wp_aload_n dX1_moveHeats_103 rfl ?_
    obtain ⟨v17, e18, h⟩ := bnd h
    refine wp_getR (c := 7) (k := 14) dX1_moveHeats_104 e18 (by decide) (by decide) rfl fl_RX1_84 ?_
    refine wp_iload_n dX1_moveHeats_107 rfl ?_
    obtain ⟨v19, e20, h⟩ := bnd h
    refine wp_iaload dX1_moveHeats_108 e20 ?_
    refine wp_imul dX1_moveHeats_109 ?_
    refine wp_isub dX1_moveHeats_110 ?_
    obtain ⟨M21, e22, h⟩ := bnd h
    refine wp_iastore dX1_moveHeats_111 e22 ?_
    refine wp_iinc (v := q.1 + 1) dX1_moveHeats_112 rfl rfl ?_
    refine wp_goto (tgt := 74) dX1_moveHeats_115 (by decide) ?_
    cases h
    exact wp_ls (lsS (lsS (lsS (lsS (lsN (lsN lsZ)))))) (hc (q.1 + 1, M21) rfl)

theorem X1_moveHeats_B74_lp {w : Gw} {d : Nat} {x0 : Nat} {x1 : Nat} {x2 : Nat} {o : Go} {M' : Gm} {r : Gm} : ∀ (n : Nat) (q : Int32 × Gm), lp (X1_moveHeats_B74 x0 x1 x2) n q = some r → (∀ t : Gm, r = t → Wp w mdX1_moveHeats (d + 2) 118 [some (.inr x0), some (.inr x1), some (.inr x2), none, none, none] [] t o M') → Wp w mdX1_moveHeats (d + 2) 74 [some (.inr x0), some (.inr x1), some (.inr x2), some (.inl q.1), none, none] [] q.2 o M' := by
  intro n
  induction n with
  | zero => intro q h; cases h
  | succ n ih =>
    intro q h he0
    cases hb : X1_moveHeats_B74 x0 x1 x2 q with
    | none => rw [lp_succ, hb] at h; cases h
    | some out =>
      rw [lp_succ, hb] at h
      exact X1_moveHeats_B74_ok hb (fun t e => ih t (by rw [e] at h; exact h) he0) (fun t e => he0 t (by rw [e] at h; cases h; rfl))
theorem X1_moveHeats_B120_ok {w : Gw} {d : Nat} {x0 : Nat} {x1 : Nat} {x2 : Nat} {q : Int32 × Gm} {o : Go} {M' : Gm} {out : (Int32 × Gm) ⊕ Gm} (h : X1_moveHeats_B120 x0 x1 x2 q = some out) (hc : ∀ t : Int32 × Gm, out = .inl t → Wp w mdX1_moveHeats (d + 2) 120 [some (.inr x0), some (.inr x1), some (.inr x2), some (.inl t.1), none, none] [] t.2 o M') (he0 : ∀ t : Gm, out = .inr t → Wp w mdX1_moveHeats (d + 2) 203 [some (.inr x0), some (.inr x1), some (.inr x2), none, none, none] [] t o M') : Wp w mdX1_moveHeats (d + 2) 120 [some (.inr x0), some (.inr x1), some (.inr x2), some (.inl q.1), none, none] [] q.2 o M' := by
  unfold X1_moveHeats_B120 at h
  refine wp_iload_n dX1_moveHeats_120 rfl ?_
  refine wp_aload_n dX1_moveHeats_121 rfl ?_
  obtain ⟨v1, e2, h⟩ := bnd h
  refine wp_getI (c := 5) (k := 9) dX1_moveHeats_122 e2 (by decide) (by decide) rfl fl_RX1_87 ?_
  refine wp_icmp_ge (tgt := 203) dX1_moveHeats_125 (by decide) (fun hc_ => ?_) (fun hc_ => ?_)
  · replace h := ite_t hc_ h
    cases h
    exact wp_ls (lsS (lsS (lsS (lsN (lsN (lsN lsZ)))))) (he0 q.2 rfl)
  · replace h := ite_f hc_ h
    refine wp_aload_n dX1_moveHeats_128 rfl ?_
    obtain ⟨v3, e4, h⟩ := bnd h
    refine wp_getR (c := 5) (k := 4) dX1_moveHeats_129 e4 (by decide) (by decide) rfl fl_RX1_90 ?_
    refine wp_iload_n dX1_moveHeats_132 rfl ?_
    obtain ⟨v5, e6, h⟩ := bnd h
    refine wp_aaload (t := 8) dX1_moveHeats_133 (by decide) rfl e6 ?_
    refine wp_astore dX1_moveHeats_134 (Nat.le_of_ble_eq_true rfl) ?_
    refine wp_aload_n dX1_moveHeats_136 rfl ?_
    obtain ⟨v7, e8, h⟩ := bnd h
    refine wp_getR (c := 7) (k := 3) dX1_moveHeats_137 e8 (by decide) (by decide) rfl fl_RX1_52 ?_
    refine wp_aload dX1_moveHeats_140 rfl ?_
    obtain ⟨v9, e10, h⟩ := bnd h
    refine wp_getI (c := 9) (k := 0) dX1_moveHeats_142 e10 (by decide) (by decide) rfl fl_RX1_94 ?_
    obtain ⟨v11, e12, h⟩ := bnd h
    refine wp_iaload dX1_moveHeats_145 e12 ?_
    refine wp_aload_n dX1_moveHeats_146 rfl ?_
    obtain ⟨v13, e14, h⟩ := bnd h
    refine wp_getR (c := 7) (k := 3) dX1_moveHeats_147 e14 (by decide) (by decide) rfl fl_RX1_52 ?_
    refine wp_aload dX1_moveHeats_150 rfl ?_
    obtain ⟨v15, e16, h⟩ := bnd h
    refine wp_getI (c := 9) (k := 1) dX1_moveHeats_152 e16 (by decide) (by decide) rfl fl_RX1_99 ?_
    obtain ⟨v17, e18, h⟩ := bnd h
    refine wp_iaload dX1_moveHeats_155 e18 ?_
    refine wp_isub dX1_moveHeats_156 ?_
    refine wp_aload dX1_moveHeats_157 rfl ?_
    obtain ⟨v19, e20, h⟩ := bnd h
    refine wp_getI (c := 9) (k := 2) dX1_moveHeats_159 e20 (by decide) (by decide) rfl fl_RX1_102 ?_
    obtain ⟨q21, e22, h⟩ := bnd h
    refine wp_callSN (As := [.inl (v11 - v17), .inl v19]) dX1_moveHeats_162 (sh_X11_quotient_ok (d := d) e22) okX11_quotient nnX11_quotient ssX11_quotient nl_RX1_65 rfl (Nat.le_of_ble_eq_true rfl) ?_
    refine wp_istore dX1_moveHeats_165 (Nat.le_of_ble_eq_true rfl) ?_
    refine wp_aload_n dX1_moveHeats_167 rfl ?_
    obtain ⟨v23, e24, h⟩ := bnd h
    refine wp_getR (c := 1) (k := 0) dX1_moveHeats_168 e24 (by decide) (by decide) rfl fl_RX1_9 ?_
    refine wp_aload dX1_moveHeats_171 rfl ?_
    obtain ⟨v25, e26, h⟩ := bnd h
    refine wp_getI (c := 9) (k := 0) dX1_moveHeats_173 e26 (by decide) (by decide) rfl fl_RX1_94 ?_
    refine wp_dup2 dX1_moveHeats_176 ?_
    obtain ⟨v27, e28, h⟩ := bnd h
    refine wp_iaload dX1_moveHeats_177 e28 ?_
    refine wp_iload dX1_moveHeats_178 rfl ?_
    refine wp_isub dX1_moveHeats_180 ?_
    obtain ⟨M29, e30, h⟩ := bnd h
    refine wp_iastore dX1_moveHeats_181 e30 ?_
    refine wp_aload_n dX1_moveHeats_182 rfl ?_
    obtain ⟨v31, e32, h⟩ := bnd h
    refine wp_getR (c := 1) (k := 0) dX1_moveHeats_183 e32 (by decide) (by decide) rfl fl_RX1_9 ?_
    refine wp_aload dX1_moveHeats_186 rfl ?_
    obtain ⟨v33, e34, h⟩ := bnd h
    refine wp_getI (c := 9) (k := 1) dX1_moveHeats_188 e34 (by decide) (by decide) rfl fl_RX1_99 ?_
    refine wp_dup2 dX1_moveHeats_191 ?_
    obtain ⟨v35, e36, h⟩ := bnd h
    refine wp_iaload dX1_moveHeats_192 e36 ?_
    refine wp_iload dX1_moveHeats_193 rfl ?_
    refine wp_iadd dX1_moveHeats_195 ?_
    obtain ⟨M37, e38, h⟩ := bnd h
    refine wp_iastore dX1_moveHeats_196 e38 ?_
    refine wp_iinc (v := q.1 + 1) dX1_moveHeats_197 rfl rfl ?_
    refine wp_goto (tgt := 120) dX1_moveHeats_200 (by decide) ?_
    cases h
    exact wp_ls (lsS (lsS (lsS (lsS (lsN (lsN lsZ)))))) (hc (q.1 + 1, M37) rfl)

theorem X1_moveHeats_B120_lp {w : Gw} {d : Nat} {x0 : Nat} {x1 : Nat} {x2 : Nat} {o : Go} {M' : Gm} {r : Gm} : ∀ (n : Nat) (q : Int32 × Gm), lp (X1_moveHeats_B120 x0 x1 x2) n q = some r → (∀ t : Gm, r = t → Wp w mdX1_moveHeats (d + 2) 203 [some (.inr x0), some (.inr x1), some (.inr x2), none, none, none] [] t o M') → Wp w mdX1_moveHeats (d + 2) 120 [some (.inr x0), some (.inr x1), some (.inr x2), some (.inl q.1), none, none] [] q.2 o M' := by
  intro n
  induction n with
  | zero => intro q h; cases h
  | succ n ih =>
    intro q h he0
    cases hb : X1_moveHeats_B120 x0 x1 x2 q with
    | none => rw [lp_succ, hb] at h; cases h
    | some out =>
      rw [lp_succ, hb] at h
      exact X1_moveHeats_B120_ok hb (fun t e => ih t (by rw [e] at h; exact h) he0) (fun t e => he0 t (by rw [e] at h; cases h; rfl))
theorem X1_moveHeats_B205_ok {w : Gw} {d : Nat} {x0 : Nat} {x1 : Nat} {x2 : Nat} {q : Int32 × Gm} {o : Go} {M' : Gm} {out : (Int32 × Gm) ⊕ Gm} (h : X1_moveHeats_B205 x0 x1 x2 q = some out) (hc : ∀ t : Int32 × Gm, out = .inl t → Wp w mdX1_moveHeats (d + 2) 205 [some (.inr x0), some (.inr x1), some (.inr x2), some (.inl t.1), none, none] [] t.2 o M') (he0 : ∀ t : Gm, out = .inr t → Wp w mdX1_moveHeats (d + 2) 238 [none, none, none, none, none, none] [] t o M') : Wp w mdX1_moveHeats (d + 2) 205 [some (.inr x0), some (.inr x1), some (.inr x2), some (.inl q.1), none, none] [] q.2 o M' := by
  unfold X1_moveHeats_B205 at h
  refine wp_iload_n dX1_moveHeats_205 rfl ?_
  refine wp_aload_n dX1_moveHeats_206 rfl ?_
  obtain ⟨v1, e2, h⟩ := bnd h
  refine wp_getI (c := 5) (k := 5) dX1_moveHeats_207 e2 (by decide) (by decide) rfl fl_RX1_47 ?_
  refine wp_icmp_ge (tgt := 238) dX1_moveHeats_210 (by decide) (fun hc_ => ?_) (fun hc_ => ?_)
  · replace h := ite_t hc_ h
    cases h
    exact wp_ls (lsN (lsN (lsN (lsN (lsN (lsN lsZ)))))) (he0 q.2 rfl)
  · replace h := ite_f hc_ h
    refine wp_aload_n dX1_moveHeats_213 rfl ?_
    obtain ⟨v3, e4, h⟩ := bnd h
    refine wp_getR (c := 7) (k := 3) dX1_moveHeats_214 e4 (by decide) (by decide) rfl fl_RX1_52 ?_
    refine wp_iload_n dX1_moveHeats_217 rfl ?_
    refine wp_aload_n dX1_moveHeats_218 rfl ?_
    obtain ⟨v5, e6, h⟩ := bnd h
    refine wp_getR (c := 1) (k := 0) dX1_moveHeats_219 e6 (by decide) (by decide) rfl fl_RX1_9 ?_
    refine wp_iload_n dX1_moveHeats_222 rfl ?_
    obtain ⟨v7, e8, h⟩ := bnd h
    refine wp_iaload dX1_moveHeats_223 e8 ?_
    refine wp_iconst (v := 0) dX1_moveHeats_224 (by decide) ?_
    refine wp_sipush (v := 1500) dX1_moveHeats_225 (by decide) ?_
    obtain ⟨q9, e10, h⟩ := bnd h
    refine wp_callSN (As := [.inl v7, .inl 0, .inl 1500]) dX1_moveHeats_228 (sh_X11_within_ok (d := d) e10) okX11_within nnX11_within ssX11_within nl_RX1_105 rfl (Nat.le_of_ble_eq_true rfl) ?_
    obtain ⟨M11, e12, h⟩ := bnd h
    refine wp_iastore dX1_moveHeats_231 e12 ?_
    refine wp_iinc (v := q.1 + 1) dX1_moveHeats_232 rfl rfl ?_
    refine wp_goto (tgt := 205) dX1_moveHeats_235 (by decide) ?_
    cases h
    exact wp_ls (lsS (lsS (lsS (lsS (lsN (lsN lsZ)))))) (hc (q.1 + 1, M11) rfl)

theorem X1_moveHeats_B205_lp {w : Gw} {d : Nat} {x0 : Nat} {x1 : Nat} {x2 : Nat} {o : Go} {M' : Gm} {r : Gm} : ∀ (n : Nat) (q : Int32 × Gm), lp (X1_moveHeats_B205 x0 x1 x2) n q = some r → (∀ t : Gm, r = t → Wp w mdX1_moveHeats (d + 2) 238 [none, none, none, none, none, none] [] t o M') → Wp w mdX1_moveHeats (d + 2) 205 [some (.inr x0), some (.inr x1), some (.inr x2), some (.inl q.1), none, none] [] q.2 o M' := by
  intro n
  induction n with
  | zero => intro q h; cases h
  | succ n ih =>
    intro q h he0
    cases hb : X1_moveHeats_B205 x0 x1 x2 q with
    | none => rw [lp_succ, hb] at h; cases h
    | some out =>
      rw [lp_succ, hb] at h
      exact X1_moveHeats_B205_ok hb (fun t e => ih t (by rw [e] at h; exact h) he0) (fun t e => he0 t (by rw [e] at h; cases h; rfl))
theorem X1_moveHeats_F_ok {w : Gw} {d : Nat} {x0 : Nat} {x1 : Nat} {M : Gm} {out : Gm} (h : X1_moveHeats_F x0 x1 M = some out) : Wp w mdX1_moveHeats (d + 2) 0 [some (.inr x0), some (.inr x1), none, none, none, none] [] M (.inl none) out := by
  unfold X1_moveHeats_F at h
  refine wp_aload_n dX1_moveHeats_0 rfl ?_
  obtain ⟨v1, e2, h⟩ := bnd h
  refine wp_getR (c := 7) (k := 0) dX1_moveHeats_1 e2 (by decide) (by decide) rfl fl_RX1_43 ?_
  refine wp_astore_n dX1_moveHeats_4 (Nat.le_of_ble_eq_true rfl) ?_
  refine wp_iconst (v := 0) dX1_moveHeats_5 (by decide) ?_
  refine wp_istore_n dX1_moveHeats_6 (Nat.le_of_ble_eq_true rfl) ?_
  obtain ⟨r3, e4, h⟩ := bnd h
  refine wp_ls (lsS (lsS (lsS (lsS (lsN (lsN lsZ)))))) (X1_moveHeats_B7_lp FU _ e4 ?_)
  intro t_ ht_; cases ht_
  refine wp_iconst (v := 0) dX1_moveHeats_72 (by decide) ?_
  refine wp_istore_n dX1_moveHeats_73 (Nat.le_of_ble_eq_true rfl) ?_
  obtain ⟨r5, e6, h⟩ := bnd h
  refine wp_ls (lsS (lsS (lsS (lsS (lsN (lsN lsZ)))))) (X1_moveHeats_B74_lp FU _ e6 ?_)
  intro t_ ht_; cases ht_
  refine wp_iconst (v := 0) dX1_moveHeats_118 (by decide) ?_
  refine wp_istore_n dX1_moveHeats_119 (Nat.le_of_ble_eq_true rfl) ?_
  obtain ⟨r7, e8, h⟩ := bnd h
  refine wp_ls (lsS (lsS (lsS (lsS (lsN (lsN lsZ)))))) (X1_moveHeats_B120_lp FU _ e8 ?_)
  intro t_ ht_; cases ht_
  refine wp_iconst (v := 0) dX1_moveHeats_203 (by decide) ?_
  refine wp_istore_n dX1_moveHeats_204 (Nat.le_of_ble_eq_true rfl) ?_
  obtain ⟨r9, e10, h⟩ := bnd h
  refine wp_ls (lsS (lsS (lsS (lsS (lsN (lsN lsZ)))))) (X1_moveHeats_B205_lp FU _ e10 ?_)
  intro t_ ht_; cases ht_
  cases h
  exact wp_ret dX1_moveHeats_238 rfl

theorem sh_X1_moveHeats_ok {w : Gw} {d : Nat} {x0 : Nat} {x1 : Nat} {M : Gm} {out : Gm} (h : sh_X1_moveHeats x0 x1 M = some out) : Ev w mdX1_moveHeats (d + 2) [.inr x0, .inr x1] M (.inl none) out := by
  obtain ⟨u, e0, h⟩ := bnd h
  exact ev_of okX1_moveHeats ⟨_, _, rfl, isO_of e0 (by decide), by decide⟩ (Nat.le_of_ble_eq_true rfl) (X1_moveHeats_F_ok h)

/-! HeatGovernor$Clock.medianOfReadings(LHeatGovernor$State;II)I -/
def X1_medianOfReadings_B26 (x0 : Nat) (x1 : Nat) (x2 : Int32) (x3 : Int32) (x4 : Int32) (x5 : Int32) (q : Int32 × Gm) : Option ((Int32 × Gm) ⊕ (Int32 × Gm)) :=
  if q.1 ≤ 0 then
    some (.inr (q.1, q.2))
  else
    (gfR q.2 x0 1 1).bind fun v1 =>
    (ldA q.2 0 v1 (q.1 - 1)).bind fun v3 =>
    if v3 ≤ x5 then
      some (.inr (q.1, q.2))
    else
      (gfR q.2 x0 1 1).bind fun v5 =>
      (gfR q.2 x0 1 1).bind fun v7 =>
      (ldA q.2 0 v7 (q.1 - 1)).bind fun v9 =>
      (stA q.2 0 v5 q.1 v9).bind fun M11 =>
      some (.inl (q.1 + (-1), M11))
def X1_medianOfReadings_J67 (x0 : Nat) (x1 : Nat) (x2 : Int32) (x3 : Int32) (x4 : Int32) (x5 : Int32) (x6 : Int32) (M : Gm) : Option ((Int32 × Gm) ⊕ Gm) :=
  (gfR M x0 1 1).bind fun v1 =>
  (stA M 0 v1 x6 x5).bind fun M3 =>
  some (.inl (x4 + 1, M3))
def X1_medianOfReadings_B3 (x0 : Nat) (x1 : Nat) (x2 : Int32) (x3 : Int32) (q : Int32 × Gm) : Option ((Int32 × Gm) ⊕ Gm) :=
  if x3 ≤ q.1 then
    some (.inr q.2)
  else
    (gfR q.2 x1 7 9).bind fun v1 =>
    (ldA q.2 0 v1 ((x2 * 4) + q.1)).bind fun v3 =>
    (lp (X1_medianOfReadings_B26 x0 x1 x2 x3 q.1 v3) FU (q.1, q.2)).bind fun r5 =>
    X1_medianOfReadings_J67 x0 x1 x2 x3 q.1 v3 r5.1 r5.2
def X1_medianOfReadings_F (x0 : Nat) (x1 : Nat) (x2 : Int32) (x3 : Int32) (M : Gm) : Option (Int32 × Gm) :=
  (lp (X1_medianOfReadings_B3 x0 x1 x2 x3) FU (0, M)).bind fun r1 =>
  (gfR r1 x0 1 1).bind fun v3 =>
  (sh_J9_max_7cf53 0 (x3 - 1) r1).bind fun q5 =>
  (dvI q5 2).bind fun v7 =>
  (ldA r1 0 v3 v7).bind fun v9 =>
  some (v9, r1)
def sh_X1_medianOfReadings (x0 : Nat) (x1 : Nat) (x2 : Int32) (x3 : Int32) (M : Gm) : Option (Int32 × Gm) := (isO M x0 1).bind fun _ => X1_medianOfReadings_F x0 x1 x2 x3 M
theorem X1_medianOfReadings_B26_ok {w : Gw} {d : Nat} {x0 : Nat} {x1 : Nat} {x2 : Int32} {x3 : Int32} {x4 : Int32} {x5 : Int32} {q : Int32 × Gm} {o : Go} {M' : Gm} {out : (Int32 × Gm) ⊕ (Int32 × Gm)} (h : X1_medianOfReadings_B26 x0 x1 x2 x3 x4 x5 q = some out) (hc : ∀ t : Int32 × Gm, out = .inl t → Wp w mdX1_medianOfReadings (d + 1) 26 [some (.inr x0), some (.inr x1), some (.inl x2), some (.inl x3), some (.inl x4), some (.inl x5), some (.inl t.1)] [] t.2 o M') (he0 : ∀ t : Int32 × Gm, out = .inr t → Wp w mdX1_medianOfReadings (d + 1) 67 [some (.inr x0), some (.inr x1), some (.inl x2), some (.inl x3), some (.inl x4), some (.inl x5), some (.inl t.1)] [] t.2 o M') : Wp w mdX1_medianOfReadings (d + 1) 26 [some (.inr x0), some (.inr x1), some (.inl x2), some (.inl x3), some (.inl x4), some (.inl x5), some (.inl q.1)] [] q.2 o M' := by
  unfold X1_medianOfReadings_B26 at h
  refine wp_iload dX1_medianOfReadings_26 rfl ?_
  refine wp_if_le (tgt := 67) dX1_medianOfReadings_28 (by decide) (fun hc_ => ?_) (fun hc_ => ?_)
  · replace h := ite_t hc_ h
    cases h
    exact wp_ls (lsS (lsS (lsS (lsS (lsS (lsS (lsS lsZ))))))) (he0 (q.1, q.2) rfl)
  · replace h := ite_f hc_ h
    refine wp_aload_n dX1_medianOfReadings_31 rfl ?_
    obtain ⟨v1, e2, h⟩ := bnd h
    refine wp_getR (c := 1) (k := 1) dX1_medianOfReadings_32 e2 (by decide) (by decide) rfl fl_RX1_15 ?_
    refine wp_iload dX1_medianOfReadings_35 rfl ?_
    refine wp_iconst (v := 1) dX1_medianOfReadings_37 (by decide) ?_
    refine wp_isub dX1_medianOfReadings_38 ?_
    obtain ⟨v3, e4, h⟩ := bnd h
    refine wp_iaload dX1_medianOfReadings_39 e4 ?_
    refine wp_iload dX1_medianOfReadings_40 rfl ?_
    refine wp_icmp_le (tgt := 67) dX1_medianOfReadings_42 (by decide) (fun hc_ => ?_) (fun hc_ => ?_)
    · replace h := ite_t hc_ h
      cases h
      exact wp_ls (lsS (lsS (lsS (lsS (lsS (lsS (lsS lsZ))))))) (he0 (q.1, q.2) rfl)
    · replace h := ite_f hc_ h
      refine wp_aload_n dX1_medianOfReadings_45 rfl ?_
      obtain ⟨v5, e6, h⟩ := bnd h
      refine wp_getR (c := 1) (k := 1) dX1_medianOfReadings_46 e6 (by decide) (by decide) rfl fl_RX1_15 ?_
      refine wp_iload dX1_medianOfReadings_49 rfl ?_
      refine wp_aload_n dX1_medianOfReadings_51 rfl ?_
      obtain ⟨v7, e8, h⟩ := bnd h
      refine wp_getR (c := 1) (k := 1) dX1_medianOfReadings_52 e8 (by decide) (by decide) rfl fl_RX1_15 ?_
      refine wp_iload dX1_medianOfReadings_55 rfl ?_
      refine wp_iconst (v := 1) dX1_medianOfReadings_57 (by decide) ?_
      refine wp_isub dX1_medianOfReadings_58 ?_
      obtain ⟨v9, e10, h⟩ := bnd h
      refine wp_iaload dX1_medianOfReadings_59 e10 ?_
      obtain ⟨M11, e12, h⟩ := bnd h
      refine wp_iastore dX1_medianOfReadings_60 e12 ?_
      refine wp_iinc (v := q.1 + (-1)) dX1_medianOfReadings_61 rfl rfl ?_
      refine wp_goto (tgt := 26) dX1_medianOfReadings_64 (by decide) ?_
      cases h
      exact wp_ls (lsS (lsS (lsS (lsS (lsS (lsS (lsS lsZ))))))) (hc (q.1 + (-1), M11) rfl)

theorem X1_medianOfReadings_B26_lp {w : Gw} {d : Nat} {x0 : Nat} {x1 : Nat} {x2 : Int32} {x3 : Int32} {x4 : Int32} {x5 : Int32} {o : Go} {M' : Gm} {r : (Int32 × Gm)} : ∀ (n : Nat) (q : Int32 × Gm), lp (X1_medianOfReadings_B26 x0 x1 x2 x3 x4 x5) n q = some r → (∀ t : Int32 × Gm, r = t → Wp w mdX1_medianOfReadings (d + 1) 67 [some (.inr x0), some (.inr x1), some (.inl x2), some (.inl x3), some (.inl x4), some (.inl x5), some (.inl t.1)] [] t.2 o M') → Wp w mdX1_medianOfReadings (d + 1) 26 [some (.inr x0), some (.inr x1), some (.inl x2), some (.inl x3), some (.inl x4), some (.inl x5), some (.inl q.1)] [] q.2 o M' := by
  intro n
  induction n with
  | zero => intro q h; cases h
  | succ n ih =>
    intro q h he0
    cases hb : X1_medianOfReadings_B26 x0 x1 x2 x3 x4 x5 q with
    | none => rw [lp_succ, hb] at h; cases h
    | some out =>
      rw [lp_succ, hb] at h
      exact X1_medianOfReadings_B26_ok hb (fun t e => ih t (by rw [e] at h; exact h) he0) (fun t e => he0 t (by rw [e] at h; cases h; rfl))
theorem X1_medianOfReadings_J67_ok {w : Gw} {d : Nat} {x0 : Nat} {x1 : Nat} {x2 : Int32} {x3 : Int32} {x4 : Int32} {x5 : Int32} {x6 : Int32} {M : Gm} {o : Go} {M' : Gm} {out : (Int32 × Gm) ⊕ Gm} (h : X1_medianOfReadings_J67 x0 x1 x2 x3 x4 x5 x6 M = some out) (hc : ∀ t : Int32 × Gm, out = .inl t → Wp w mdX1_medianOfReadings (d + 1) 3 [some (.inr x0), some (.inr x1), some (.inl x2), some (.inl x3), some (.inl t.1), none, none] [] t.2 o M') (he0 : ∀ t : Gm, out = .inr t → Wp w mdX1_medianOfReadings (d + 1) 82 [some (.inr x0), none, none, some (.inl x3), none, none, none] [] t o M') : Wp w mdX1_medianOfReadings (d + 1) 67 [some (.inr x0), some (.inr x1), some (.inl x2), some (.inl x3), some (.inl x4), some (.inl x5), some (.inl x6)] [] M o M' := by
  unfold X1_medianOfReadings_J67 at h
  refine wp_aload_n dX1_medianOfReadings_67 rfl ?_
  obtain ⟨v1, e2, h⟩ := bnd h
  refine wp_getR (c := 1) (k := 1) dX1_medianOfReadings_68 e2 (by decide) (by decide) rfl fl_RX1_15 ?_
  refine wp_iload dX1_medianOfReadings_71 rfl ?_
  refine wp_iload dX1_medianOfReadings_73 rfl ?_
  obtain ⟨M3, e4, h⟩ := bnd h
  refine wp_iastore dX1_medianOfReadings_75 e4 ?_
  refine wp_iinc (v := x4 + 1) dX1_medianOfReadings_76 rfl rfl ?_
  refine wp_goto (tgt := 3) dX1_medianOfReadings_79 (by decide) ?_
  cases h
  exact wp_ls (lsS (lsS (lsS (lsS (lsS (lsN (lsN lsZ))))))) (hc (x4 + 1, M3) rfl)

theorem X1_medianOfReadings_B3_ok {w : Gw} {d : Nat} {x0 : Nat} {x1 : Nat} {x2 : Int32} {x3 : Int32} {q : Int32 × Gm} {o : Go} {M' : Gm} {out : (Int32 × Gm) ⊕ Gm} (h : X1_medianOfReadings_B3 x0 x1 x2 x3 q = some out) (hc : ∀ t : Int32 × Gm, out = .inl t → Wp w mdX1_medianOfReadings (d + 1) 3 [some (.inr x0), some (.inr x1), some (.inl x2), some (.inl x3), some (.inl t.1), none, none] [] t.2 o M') (he0 : ∀ t : Gm, out = .inr t → Wp w mdX1_medianOfReadings (d + 1) 82 [some (.inr x0), none, none, some (.inl x3), none, none, none] [] t o M') : Wp w mdX1_medianOfReadings (d + 1) 3 [some (.inr x0), some (.inr x1), some (.inl x2), some (.inl x3), some (.inl q.1), none, none] [] q.2 o M' := by
  unfold X1_medianOfReadings_B3 at h
  refine wp_iload dX1_medianOfReadings_3 rfl ?_
  refine wp_iload_n dX1_medianOfReadings_5 rfl ?_
  refine wp_icmp_ge (tgt := 82) dX1_medianOfReadings_6 (by decide) (fun hc_ => ?_) (fun hc_ => ?_)
  · replace h := ite_t hc_ h
    cases h
    exact wp_ls (lsS (lsN (lsN (lsS (lsN (lsN (lsN lsZ))))))) (he0 q.2 rfl)
  · replace h := ite_f hc_ h
    refine wp_aload_n dX1_medianOfReadings_9 rfl ?_
    obtain ⟨v1, e2, h⟩ := bnd h
    refine wp_getR (c := 7) (k := 9) dX1_medianOfReadings_10 e2 (by decide) (by decide) rfl fl_RX1_109 ?_
    refine wp_iload_n dX1_medianOfReadings_13 rfl ?_
    refine wp_iconst (v := 4) dX1_medianOfReadings_14 (by decide) ?_
    refine wp_imul dX1_medianOfReadings_15 ?_
    refine wp_iload dX1_medianOfReadings_16 rfl ?_
    refine wp_iadd dX1_medianOfReadings_18 ?_
    obtain ⟨v3, e4, h⟩ := bnd h
    refine wp_iaload dX1_medianOfReadings_19 e4 ?_
    refine wp_istore dX1_medianOfReadings_20 (Nat.le_of_ble_eq_true rfl) ?_
    refine wp_iload dX1_medianOfReadings_22 rfl ?_
    refine wp_istore dX1_medianOfReadings_24 (Nat.le_of_ble_eq_true rfl) ?_
    obtain ⟨r5, e6, h⟩ := bnd h
    refine wp_ls (lsS (lsS (lsS (lsS (lsS (lsS (lsS lsZ))))))) (X1_medianOfReadings_B26_lp FU _ e6 ?_)
    intro t_ ht_; cases ht_
    exact wp_ls (lsS (lsS (lsS (lsS (lsS (lsS (lsS lsZ))))))) (X1_medianOfReadings_J67_ok h hc he0)

theorem X1_medianOfReadings_B3_lp {w : Gw} {d : Nat} {x0 : Nat} {x1 : Nat} {x2 : Int32} {x3 : Int32} {o : Go} {M' : Gm} {r : Gm} : ∀ (n : Nat) (q : Int32 × Gm), lp (X1_medianOfReadings_B3 x0 x1 x2 x3) n q = some r → (∀ t : Gm, r = t → Wp w mdX1_medianOfReadings (d + 1) 82 [some (.inr x0), none, none, some (.inl x3), none, none, none] [] t o M') → Wp w mdX1_medianOfReadings (d + 1) 3 [some (.inr x0), some (.inr x1), some (.inl x2), some (.inl x3), some (.inl q.1), none, none] [] q.2 o M' := by
  intro n
  induction n with
  | zero => intro q h; cases h
  | succ n ih =>
    intro q h he0
    cases hb : X1_medianOfReadings_B3 x0 x1 x2 x3 q with
    | none => rw [lp_succ, hb] at h; cases h
    | some out =>
      rw [lp_succ, hb] at h
      exact X1_medianOfReadings_B3_ok hb (fun t e => ih t (by rw [e] at h; exact h) he0) (fun t e => he0 t (by rw [e] at h; cases h; rfl))
theorem X1_medianOfReadings_F_ok {w : Gw} {d : Nat} {x0 : Nat} {x1 : Nat} {x2 : Int32} {x3 : Int32} {M : Gm} {out : Int32 × Gm} (h : X1_medianOfReadings_F x0 x1 x2 x3 M = some out) : Wp w mdX1_medianOfReadings (d + 1) 0 [some (.inr x0), some (.inr x1), some (.inl x2), some (.inl x3), none, none, none] [] M (.inl (some (.inl out.1))) out.2 := by
  unfold X1_medianOfReadings_F at h
  refine wp_iconst (v := 0) dX1_medianOfReadings_0 (by decide) ?_
  refine wp_istore dX1_medianOfReadings_1 (Nat.le_of_ble_eq_true rfl) ?_
  obtain ⟨r1, e2, h⟩ := bnd h
  refine wp_ls (lsS (lsS (lsS (lsS (lsS (lsN (lsN lsZ))))))) (X1_medianOfReadings_B3_lp FU _ e2 ?_)
  intro t_ ht_; cases ht_
  refine wp_aload_n dX1_medianOfReadings_82 rfl ?_
  obtain ⟨v3, e4, h⟩ := bnd h
  refine wp_getR (c := 1) (k := 1) dX1_medianOfReadings_83 e4 (by decide) (by decide) rfl fl_RX1_15 ?_
  refine wp_iconst (v := 0) dX1_medianOfReadings_86 (by decide) ?_
  refine wp_iload_n dX1_medianOfReadings_87 rfl ?_
  refine wp_iconst (v := 1) dX1_medianOfReadings_88 (by decide) ?_
  refine wp_isub dX1_medianOfReadings_89 ?_
  obtain ⟨q5, e6, h⟩ := bnd h
  refine wp_callS (As := [.inl 0, .inl (x3 - 1)]) dX1_medianOfReadings_90 (sh_J9_max_7cf53_ok (d := d) e6) okJ9_max_7cf53 nnJ9_max_7cf53 ssJ9_max_7cf53 ml_RX1_141 rfl (Nat.le_of_ble_eq_true rfl) ?_
  refine wp_iconst (v := 2) dX1_medianOfReadings_93 (by decide) ?_
  obtain ⟨v7, e8, h⟩ := bnd h
  refine wp_idiv dX1_medianOfReadings_94 e8 ?_
  obtain ⟨v9, e10, h⟩ := bnd h
  refine wp_iaload dX1_medianOfReadings_95 e10 ?_
  cases h
  exact wp_iret dX1_medianOfReadings_96 rfl

theorem sh_X1_medianOfReadings_ok {w : Gw} {d : Nat} {x0 : Nat} {x1 : Nat} {x2 : Int32} {x3 : Int32} {M : Gm} {out : Int32 × Gm} (h : sh_X1_medianOfReadings x0 x1 x2 x3 M = some out) : Ev w mdX1_medianOfReadings (d + 1) [.inr x0, .inr x1, .inl x2, .inl x3] M (.inl (some (.inl out.1))) out.2 := by
  obtain ⟨u, e0, h⟩ := bnd h
  exact ev_of okX1_medianOfReadings ⟨_, _, rfl, isO_of e0 (by decide), by decide⟩ (Nat.le_of_ble_eq_true rfl) (X1_medianOfReadings_F_ok h)

/-! HeatGovernor$Clock.sumOfReadings(LHeatGovernor$State;II)I -/
def X1_sumOfReadings_B6 (x1 : Nat) (x2 : Int32) (x3 : Int32) (M : Gm) (q : Int32 × Int32) : Option ((Int32 × Int32) ⊕ Int32) :=
  if x3 ≤ q.2 then
    some (.inr q.1)
  else
    (gfR M x1 7 9).bind fun v1 =>
    (ldA M 0 v1 ((x2 * 4) + q.2)).bind fun v3 =>
    some (.inl (q.1 + v3, q.2 + 1))
def X1_sumOfReadings_F (x0 : Nat) (x1 : Nat) (x2 : Int32) (x3 : Int32) (M : Gm) : Option (Int32) :=
  (lp (X1_sumOfReadings_B6 x1 x2 x3 M) FU (0, 0)).bind fun r1 =>
  some r1
def sh_X1_sumOfReadings (x0 : Nat) (x1 : Nat) (x2 : Int32) (x3 : Int32) (M : Gm) : Option (Int32) := (isO M x0 1).bind fun _ => X1_sumOfReadings_F x0 x1 x2 x3 M
theorem X1_sumOfReadings_B6_ok {w : Gw} {d : Nat} {x1 : Nat} {x2 : Int32} {x3 : Int32} {M : Gm} {q : Int32 × Int32} {o : Go} {M' : Gm} {out : (Int32 × Int32) ⊕ Int32} (h : X1_sumOfReadings_B6 x1 x2 x3 M q = some out) (hc : ∀ t : Int32 × Int32, out = .inl t → Wp w mdX1_sumOfReadings d 6 [none, some (.inr x1), some (.inl x2), some (.inl x3), some (.inl t.1), some (.inl t.2)] [] M o M') (he0 : ∀ t : Int32, out = .inr t → Wp w mdX1_sumOfReadings d 34 [none, none, none, none, some (.inl t), none] [] M o M') : Wp w mdX1_sumOfReadings d 6 [none, some (.inr x1), some (.inl x2), some (.inl x3), some (.inl q.1), some (.inl q.2)] [] M o M' := by
  unfold X1_sumOfReadings_B6 at h
  refine wp_iload dX1_sumOfReadings_6 rfl ?_
  refine wp_iload_n dX1_sumOfReadings_8 rfl ?_
  refine wp_icmp_ge (tgt := 34) dX1_sumOfReadings_9 (by decide) (fun hc_ => ?_) (fun hc_ => ?_)
  · replace h := ite_t hc_ h
    cases h
    exact wp_ls (lsN (lsN (lsN (lsN (lsS (lsN lsZ)))))) (he0 q.1 rfl)
  · replace h := ite_f hc_ h
    refine wp_iload dX1_sumOfReadings_12 rfl ?_
    refine wp_aload_n dX1_sumOfReadings_14 rfl ?_
    obtain ⟨v1, e2, h⟩ := bnd h
    refine wp_getR (c := 7) (k := 9) dX1_sumOfReadings_15 e2 (by decide) (by decide) rfl fl_RX1_109 ?_
    refine wp_iload_n dX1_sumOfReadings_18 rfl ?_
    refine wp_iconst (v := 4) dX1_sumOfReadings_19 (by decide) ?_
    refine wp_imul dX1_sumOfReadings_20 ?_
    refine wp_iload dX1_sumOfReadings_21 rfl ?_
    refine wp_iadd dX1_sumOfReadings_23 ?_
    obtain ⟨v3, e4, h⟩ := bnd h
    refine wp_iaload dX1_sumOfReadings_24 e4 ?_
    refine wp_iadd dX1_sumOfReadings_25 ?_
    refine wp_istore dX1_sumOfReadings_26 (Nat.le_of_ble_eq_true rfl) ?_
    refine wp_iinc (v := q.2 + 1) dX1_sumOfReadings_28 rfl rfl ?_
    refine wp_goto (tgt := 6) dX1_sumOfReadings_31 (by decide) ?_
    cases h
    exact wp_ls (lsN (lsS (lsS (lsS (lsS (lsS lsZ)))))) (hc (q.1 + v3, q.2 + 1) rfl)

theorem X1_sumOfReadings_B6_lp {w : Gw} {d : Nat} {x1 : Nat} {x2 : Int32} {x3 : Int32} {M : Gm} {o : Go} {M' : Gm} {r : Int32} : ∀ (n : Nat) (q : Int32 × Int32), lp (X1_sumOfReadings_B6 x1 x2 x3 M) n q = some r → (∀ t : Int32, r = t → Wp w mdX1_sumOfReadings d 34 [none, none, none, none, some (.inl t), none] [] M o M') → Wp w mdX1_sumOfReadings d 6 [none, some (.inr x1), some (.inl x2), some (.inl x3), some (.inl q.1), some (.inl q.2)] [] M o M' := by
  intro n
  induction n with
  | zero => intro q h; cases h
  | succ n ih =>
    intro q h he0
    cases hb : X1_sumOfReadings_B6 x1 x2 x3 M q with
    | none => rw [lp_succ, hb] at h; cases h
    | some out =>
      rw [lp_succ, hb] at h
      exact X1_sumOfReadings_B6_ok hb (fun t e => ih t (by rw [e] at h; exact h) he0) (fun t e => he0 t (by rw [e] at h; cases h; rfl))
theorem X1_sumOfReadings_F_ok {w : Gw} {d : Nat} {x0 : Nat} {x1 : Nat} {x2 : Int32} {x3 : Int32} {M : Gm} {out : Int32} (h : X1_sumOfReadings_F x0 x1 x2 x3 M = some out) : Wp w mdX1_sumOfReadings d 0 [some (.inr x0), some (.inr x1), some (.inl x2), some (.inl x3), none, none] [] M (.inl (some (.inl out))) M := by
  unfold X1_sumOfReadings_F at h
  refine wp_iconst (v := 0) dX1_sumOfReadings_0 (by decide) ?_
  refine wp_istore dX1_sumOfReadings_1 (Nat.le_of_ble_eq_true rfl) ?_
  refine wp_iconst (v := 0) dX1_sumOfReadings_3 (by decide) ?_
  refine wp_istore dX1_sumOfReadings_4 (Nat.le_of_ble_eq_true rfl) ?_
  obtain ⟨r1, e2, h⟩ := bnd h
  refine wp_ls (lsN (lsS (lsS (lsS (lsS (lsS lsZ)))))) (X1_sumOfReadings_B6_lp FU _ e2 ?_)
  intro t_ ht_; cases ht_
  refine wp_iload dX1_sumOfReadings_34 rfl ?_
  cases h
  exact wp_iret dX1_sumOfReadings_36 rfl

theorem sh_X1_sumOfReadings_ok {w : Gw} {d : Nat} {x0 : Nat} {x1 : Nat} {x2 : Int32} {x3 : Int32} {M : Gm} {out : Int32} (h : sh_X1_sumOfReadings x0 x1 x2 x3 M = some out) : Ev w mdX1_sumOfReadings d [.inr x0, .inr x1, .inl x2, .inl x3] M (.inl (some (.inl out))) M := by
  obtain ⟨u, e0, h⟩ := bnd h
  exact ev_of okX1_sumOfReadings ⟨_, _, rfl, isO_of e0 (by decide), by decide⟩ (Nat.le_of_ble_eq_true rfl) (X1_sumOfReadings_F_ok h)

/-! HeatGovernor$Clock.filtered(LHeatGovernor$State;I)I -/
def X1_filtered_F (x0 : Nat) (x1 : Nat) (x2 : Int32) (M : Gm) : Option (Int32 × Gm) :=
  (gfR M x1 7 0).bind fun v1 =>
  (gfR M v1 5 0).bind fun v3 =>
  (ldR M 4 v3 x2).bind fun v5 =>
  (gfR M x1 7 3).bind fun v7 =>
  (ldA M 0 v7 x2).bind fun v9 =>
  (gfI M v5 10 2).bind fun v11 =>
  if v11 = 1 then
    (gfI M v5 10 3).bind fun v13 =>
    (sh_X1_sumOfReadings x0 x1 x2 v13 M).bind fun q15 =>
    (gfI M v5 10 3).bind fun v17 =>
    (sh_X11_quotient q15 v17 M).bind fun q19 =>
    some (q19, M)
  else if v11 = 2 then
    (gfI M v5 10 3).bind fun v21 =>
    (sh_X1_medianOfReadings x0 x1 x2 v21 M).bind fun q23 =>
    some (q23.1, q23.2)
  else if v11 = 3 then
    (gfR M x1 7 6).bind fun v25 =>
    (ldA M 0 v25 x2).bind fun v27 =>
    (gfR M x1 7 6).bind fun v29 =>
    (ldA M 0 v29 x2).bind fun v31 =>
    (gfI M v5 10 3).bind fun v33 =>
    (sh_X11_quotient (v9 - v31) v33 M).bind fun q35 =>
    some (v27 + q35, M)
  else
    some (v9, M)
def sh_X1_filtered (x0 : Nat) (x1 : Nat) (x2 : Int32) (M : Gm) : Option (Int32 × Gm) := (isO M x0 1).bind fun _ => X1_filtered_F x0 x1 x2 M
theorem X1_filtered_F_ok {w : Gw} {d : Nat} {x0 : Nat} {x1 : Nat} {x2 : Int32} {M : Gm} {out : Int32 × Gm} (h : X1_filtered_F x0 x1 x2 M = some out) : Wp w mdX1_filtered (d + 2) 0 [some (.inr x0), some (.inr x1), some (.inl x2), none, none] [] M (.inl (some (.inl out.1))) out.2 := by
  unfold X1_filtered_F at h
  refine wp_aload_n dX1_filtered_0 rfl ?_
  obtain ⟨v1, e2, h⟩ := bnd h
  refine wp_getR (c := 7) (k := 0) dX1_filtered_1 e2 (by decide) (by decide) rfl fl_RX1_43 ?_
  obtain ⟨v3, e4, h⟩ := bnd h
  refine wp_getR (c := 5) (k := 0) dX1_filtered_4 e4 (by decide) (by decide) rfl fl_RX1_122 ?_
  refine wp_iload_n dX1_filtered_7 rfl ?_
  obtain ⟨v5, e6, h⟩ := bnd h
  refine wp_aaload (t := 4) dX1_filtered_8 (by decide) rfl e6 ?_
  refine wp_astore_n dX1_filtered_9 (Nat.le_of_ble_eq_true rfl) ?_
  refine wp_aload_n dX1_filtered_10 rfl ?_
  obtain ⟨v7, e8, h⟩ := bnd h
  refine wp_getR (c := 7) (k := 3) dX1_filtered_11 e8 (by decide) (by decide) rfl fl_RX1_52 ?_
  refine wp_iload_n dX1_filtered_14 rfl ?_
  obtain ⟨v9, e10, h⟩ := bnd h
  refine wp_iaload dX1_filtered_15 e10 ?_
  refine wp_istore dX1_filtered_16 (Nat.le_of_ble_eq_true rfl) ?_
  refine wp_aload_n dX1_filtered_18 rfl ?_
  obtain ⟨v11, e12, h⟩ := bnd h
  refine wp_getI (c := 10) (k := 2) dX1_filtered_19 e12 (by decide) (by decide) rfl fl_RX1_126 ?_
  by_cases cz0 : v11 = 1
  · replace h := ite_t cz0 h
    refine wp_tableIn (tgt := 48) dX1_filtered_22 0 (by rw [cz0]; decide) (by decide) rfl (by decide) ?_
    refine wp_aload_n dX1_filtered_48 rfl ?_
    refine wp_aload_n dX1_filtered_49 rfl ?_
    refine wp_iload_n dX1_filtered_50 rfl ?_
    refine wp_aload_n dX1_filtered_51 rfl ?_
    obtain ⟨v13, e14, h⟩ := bnd h
    refine wp_getI (c := 10) (k := 3) dX1_filtered_52 e14 (by decide) (by decide) rfl fl_RX1_131 ?_
    obtain ⟨q15, e16, h⟩ := bnd h
    refine wp_callV (As := [.inr x1, .inl x2, .inl v13]) dX1_filtered_55 (sh_X1_sumOfReadings_ok (d := d + 1) e16) okX1_sumOfReadings nnX1_sumOfReadings vvX1_sumOfReadings ml_RX1_134 rfl (Nat.le_of_ble_eq_true rfl) ?_
    refine wp_aload_n dX1_filtered_58 rfl ?_
    obtain ⟨v17, e18, h⟩ := bnd h
    refine wp_getI (c := 10) (k := 3) dX1_filtered_59 e18 (by decide) (by decide) rfl fl_RX1_131 ?_
    obtain ⟨q19, e20, h⟩ := bnd h
    refine wp_callSN (As := [.inl q15, .inl v17]) dX1_filtered_62 (sh_X11_quotient_ok (d := d) e20) okX11_quotient nnX11_quotient ssX11_quotient nl_RX1_65 rfl (Nat.le_of_ble_eq_true rfl) ?_
    cases h
    exact wp_iret dX1_filtered_65 rfl
  replace h := ite_f cz0 h
  by_cases cz1 : v11 = 2
  · replace h := ite_t cz1 h
    refine wp_tableIn (tgt := 66) dX1_filtered_22 1 (by rw [cz1]; decide) (by decide) rfl (by decide) ?_
    refine wp_aload_n dX1_filtered_66 rfl ?_
    refine wp_aload_n dX1_filtered_67 rfl ?_
    refine wp_iload_n dX1_filtered_68 rfl ?_
    refine wp_aload_n dX1_filtered_69 rfl ?_
    obtain ⟨v21, e22, h⟩ := bnd h
    refine wp_getI (c := 10) (k := 3) dX1_filtered_70 e22 (by decide) (by decide) rfl fl_RX1_131 ?_
    obtain ⟨q23, e24, h⟩ := bnd h
    refine wp_callV (As := [.inr x1, .inl x2, .inl v21]) dX1_filtered_73 (sh_X1_medianOfReadings_ok (d := d) e24) okX1_medianOfReadings nnX1_medianOfReadings vvX1_medianOfReadings ml_RX1_138 rfl (Nat.le_of_ble_eq_true rfl) ?_
    cases h
    exact wp_iret dX1_filtered_76 rfl
  replace h := ite_f cz1 h
  by_cases cz2 : v11 = 3
  · replace h := ite_t cz2 h
    refine wp_tableIn (tgt := 77) dX1_filtered_22 2 (by rw [cz2]; decide) (by decide) rfl (by decide) ?_
    refine wp_aload_n dX1_filtered_77 rfl ?_
    obtain ⟨v25, e26, h⟩ := bnd h
    refine wp_getR (c := 7) (k := 6) dX1_filtered_78 e26 (by decide) (by decide) rfl fl_RX1_112 ?_
    refine wp_iload_n dX1_filtered_81 rfl ?_
    obtain ⟨v27, e28, h⟩ := bnd h
    refine wp_iaload dX1_filtered_82 e28 ?_
    refine wp_iload dX1_filtered_83 rfl ?_
    refine wp_aload_n dX1_filtered_85 rfl ?_
    obtain ⟨v29, e30, h⟩ := bnd h
    refine wp_getR (c := 7) (k := 6) dX1_filtered_86 e30 (by decide) (by decide) rfl fl_RX1_112 ?_
    refine wp_iload_n dX1_filtered_89 rfl ?_
    obtain ⟨v31, e32, h⟩ := bnd h
    refine wp_iaload dX1_filtered_90 e32 ?_
    refine wp_isub dX1_filtered_91 ?_
    refine wp_aload_n dX1_filtered_92 rfl ?_
    obtain ⟨v33, e34, h⟩ := bnd h
    refine wp_getI (c := 10) (k := 3) dX1_filtered_93 e34 (by decide) (by decide) rfl fl_RX1_131 ?_
    obtain ⟨q35, e36, h⟩ := bnd h
    refine wp_callSN (As := [.inl (v9 - v31), .inl v33]) dX1_filtered_96 (sh_X11_quotient_ok (d := d) e36) okX11_quotient nnX11_quotient ssX11_quotient nl_RX1_65 rfl (Nat.le_of_ble_eq_true rfl) ?_
    refine wp_iadd dX1_filtered_99 ?_
    cases h
    exact wp_iret dX1_filtered_100 rfl
  replace h := ite_f cz2 h
  refine wp_tableOut (tgt := 101) dX1_filtered_22 (by have g0 := lv_neT cz0 (show (1 : Int32).toInt = 1 by decide); have g1 := lv_neT cz1 (show (2 : Int32).toInt = 2 by decide); have g2 := lv_neT cz2 (show (3 : Int32).toInt = 3 by decide); omega) (by decide) ?_
  refine wp_iload dX1_filtered_101 rfl ?_
  cases h
  exact wp_iret dX1_filtered_103 rfl

theorem sh_X1_filtered_ok {w : Gw} {d : Nat} {x0 : Nat} {x1 : Nat} {x2 : Int32} {M : Gm} {out : Int32 × Gm} (h : sh_X1_filtered x0 x1 x2 M = some out) : Ev w mdX1_filtered (d + 2) [.inr x0, .inr x1, .inl x2] M (.inl (some (.inl out.1))) out.2 := by
  obtain ⟨u, e0, h⟩ := bnd h
  exact ev_of okX1_filtered ⟨_, _, rfl, isO_of e0 (by decide), by decide⟩ (Nat.le_of_ble_eq_true rfl) (X1_filtered_F_ok h)

/-! HeatGovernor$Clock.readSensors(LHeatGovernor$State;)V -/
def X1_readSensors_B24 (x0 : Nat) (x1 : Nat) (x2 : Int32) (x3 : Int32) (q : Int32 × Gm) : Option ((Int32 × Gm) ⊕ Gm) :=
  if q.1 ≤ x3 then
    some (.inr q.2)
  else
    (gfR q.2 x1 7 9).bind fun v1 =>
    (gfR q.2 x1 7 9).bind fun v3 =>
    (ldA q.2 0 v3 (q.1 - 1)).bind fun v5 =>
    (stA q.2 0 v1 q.1 v5).bind fun M7 =>
    some (.inl (q.1 + (-1), M7))
def X1_readSensors_B2 (x0 : Nat) (x1 : Nat) (q : Int32 × Gm) : Option ((Int32 × Gm) ⊕ Gm) :=
  (gfR q.2 x1 7 0).bind fun v1 =>
  (gfI q.2 v1 5 5).bind fun v3 =>
  if v3 ≤ q.1 then
    some (.inr q.2)
  else
    (lp (X1_readSensors_B24 x0 x1 q.1 (q.1 * 4)) FU (((q.1 * 4) + 4) - 1, q.2)).bind fun r5 =>
    (gfR r5 x1 7 9).bind fun v7 =>
    (gfR r5 x1 7 3).bind fun v9 =>
    (ldA r5 0 v9 q.1).bind fun v11 =>
    (stA r5 0 v7 (q.1 * 4) v11).bind fun M13 =>
    (gfR M13 x1 7 6).bind fun v15 =>
    (ldA M13 0 v15 q.1).bind fun v17 =>
    (gfR M13 x1 7 6).bind fun v19 =>
    (sh_X1_filtered x0 x1 q.1 M13).bind fun q21 =>
    (stA q21.2 0 v19 q.1 q21.1).bind fun M23 =>
    (gfR M23 x1 7 7).bind fun v25 =>
    (gfR M23 x1 7 6).bind fun v27 =>
    (ldA M23 0 v27 q.1).bind fun v29 =>
    (stA M23 0 v25 q.1 (v29 - v17)).bind fun M31 =>
    some (.inl (q.1 + 1, M31))
def X1_readSensors_F (x0 : Nat) (x1 : Nat) (M : Gm) : Option (Gm) :=
  (lp (X1_readSensors_B2 x0 x1) FU (0, M)).bind fun r1 =>
  some r1
def sh_X1_readSensors (x0 : Nat) (x1 : Nat) (M : Gm) : Option (Gm) := (isO M x0 1).bind fun _ => X1_readSensors_F x0 x1 M
theorem X1_readSensors_B24_ok {w : Gw} {d : Nat} {x0 : Nat} {x1 : Nat} {x2 : Int32} {x3 : Int32} {q : Int32 × Gm} {o : Go} {M' : Gm} {out : (Int32 × Gm) ⊕ Gm} (h : X1_readSensors_B24 x0 x1 x2 x3 q = some out) (hc : ∀ t : Int32 × Gm, out = .inl t → Wp w mdX1_readSensors (d + 3) 24 [some (.inr x0), some (.inr x1), some (.inl x2), some (.inl x3), some (.inl t.1)] [] t.2 o M') (he0 : ∀ t : Gm, out = .inr t → Wp w mdX1_readSensors (d + 3) 52 [some (.inr x0), some (.inr x1), some (.inl x2), some (.inl x3), none] [] t o M') : Wp w mdX1_readSensors (d + 3) 24 [some (.inr x0), some (.inr x1), some (.inl x2), some (.inl x3), some (.inl q.1)] [] q.2 o M' := by
  unfold X1_readSensors_B24 at h
  refine wp_iload dX1_readSensors_24 rfl ?_
  refine wp_iload_n dX1_readSensors_26 rfl ?_
  refine wp_icmp_le (tgt := 52) dX1_readSensors_27 (by decide) (fun hc_ => ?_) (fun hc_ => ?_)
  · replace h := ite_t hc_ h
    cases h
    exact wp_ls (lsS (lsS (lsS (lsS (lsN lsZ))))) (he0 q.2 rfl)
  · replace h := ite_f hc_ h
    refine wp_aload_n dX1_readSensors_30 rfl ?_
    obtain ⟨v1, e2, h⟩ := bnd h
    refine wp_getR (c := 7) (k := 9) dX1_readSensors_31 e2 (by decide) (by decide) rfl fl_RX1_109 ?_
    refine wp_iload dX1_readSensors_34 rfl ?_
    refine wp_aload_n dX1_readSensors_36 rfl ?_
    obtain ⟨v3, e4, h⟩ := bnd h
    refine wp_getR (c := 7) (k := 9) dX1_readSensors_37 e4 (by decide) (by decide) rfl fl_RX1_109 ?_
    refine wp_iload dX1_readSensors_40 rfl ?_
    refine wp_iconst (v := 1) dX1_readSensors_42 (by decide) ?_
    refine wp_isub dX1_readSensors_43 ?_
    obtain ⟨v5, e6, h⟩ := bnd h
    refine wp_iaload dX1_readSensors_44 e6 ?_
    obtain ⟨M7, e8, h⟩ := bnd h
    refine wp_iastore dX1_readSensors_45 e8 ?_
    refine wp_iinc (v := q.1 + (-1)) dX1_readSensors_46 rfl rfl ?_
    refine wp_goto (tgt := 24) dX1_readSensors_49 (by decide) ?_
    cases h
    exact wp_ls (lsS (lsS (lsS (lsS (lsS lsZ))))) (hc (q.1 + (-1), M7) rfl)

theorem X1_readSensors_B24_lp {w : Gw} {d : Nat} {x0 : Nat} {x1 : Nat} {x2 : Int32} {x3 : Int32} {o : Go} {M' : Gm} {r : Gm} : ∀ (n : Nat) (q : Int32 × Gm), lp (X1_readSensors_B24 x0 x1 x2 x3) n q = some r → (∀ t : Gm, r = t → Wp w mdX1_readSensors (d + 3) 52 [some (.inr x0), some (.inr x1), some (.inl x2), some (.inl x3), none] [] t o M') → Wp w mdX1_readSensors (d + 3) 24 [some (.inr x0), some (.inr x1), some (.inl x2), some (.inl x3), some (.inl q.1)] [] q.2 o M' := by
  intro n
  induction n with
  | zero => intro q h; cases h
  | succ n ih =>
    intro q h he0
    cases hb : X1_readSensors_B24 x0 x1 x2 x3 q with
    | none => rw [lp_succ, hb] at h; cases h
    | some out =>
      rw [lp_succ, hb] at h
      exact X1_readSensors_B24_ok hb (fun t e => ih t (by rw [e] at h; exact h) he0) (fun t e => he0 t (by rw [e] at h; cases h; rfl))
theorem X1_readSensors_B2_ok {w : Gw} {d : Nat} {x0 : Nat} {x1 : Nat} {q : Int32 × Gm} {o : Go} {M' : Gm} {out : (Int32 × Gm) ⊕ Gm} (h : X1_readSensors_B2 x0 x1 q = some out) (hc : ∀ t : Int32 × Gm, out = .inl t → Wp w mdX1_readSensors (d + 3) 2 [some (.inr x0), some (.inr x1), some (.inl t.1), none, none] [] t.2 o M') (he0 : ∀ t : Gm, out = .inr t → Wp w mdX1_readSensors (d + 3) 105 [none, none, none, none, none] [] t o M') : Wp w mdX1_readSensors (d + 3) 2 [some (.inr x0), some (.inr x1), some (.inl q.1), none, none] [] q.2 o M' := by
  unfold X1_readSensors_B2 at h
  refine wp_iload_n dX1_readSensors_2 rfl ?_
  refine wp_aload_n dX1_readSensors_3 rfl ?_
  obtain ⟨v1, e2, h⟩ := bnd h
  refine wp_getR (c := 7) (k := 0) dX1_readSensors_4 e2 (by decide) (by decide) rfl fl_RX1_43 ?_
  obtain ⟨v3, e4, h⟩ := bnd h
  refine wp_getI (c := 5) (k := 5) dX1_readSensors_7 e4 (by decide) (by decide) rfl fl_RX1_47 ?_
  refine wp_icmp_ge (tgt := 105) dX1_readSensors_10 (by decide) (fun hc_ => ?_) (fun hc_ => ?_)
  · replace h := ite_t hc_ h
    cases h
    exact wp_ls (lsN (lsN (lsN (lsN (lsN lsZ))))) (he0 q.2 rfl)
  · replace h := ite_f hc_ h
    refine wp_iload_n dX1_readSensors_13 rfl ?_
    refine wp_iconst (v := 4) dX1_readSensors_14 (by decide) ?_
    refine wp_imul dX1_readSensors_15 ?_
    refine wp_istore_n dX1_readSensors_16 (Nat.le_of_ble_eq_true rfl) ?_
    refine wp_iload_n dX1_readSensors_17 rfl ?_
    refine wp_iconst (v := 4) dX1_readSensors_18 (by decide) ?_
    refine wp_iadd dX1_readSensors_19 ?_
    refine wp_iconst (v := 1) dX1_readSensors_20 (by decide) ?_
    refine wp_isub dX1_readSensors_21 ?_
    refine wp_istore dX1_readSensors_22 (Nat.le_of_ble_eq_true rfl) ?_
    obtain ⟨r5, e6, h⟩ := bnd h
    refine wp_ls (lsS (lsS (lsS (lsS (lsS lsZ))))) (X1_readSensors_B24_lp FU _ e6 ?_)
    intro t_ ht_; cases ht_
    refine wp_aload_n dX1_readSensors_52 rfl ?_
    obtain ⟨v7, e8, h⟩ := bnd h
    refine wp_getR (c := 7) (k := 9) dX1_readSensors_53 e8 (by decide) (by decide) rfl fl_RX1_109 ?_
    refine wp_iload_n dX1_readSensors_56 rfl ?_
    refine wp_aload_n dX1_readSensors_57 rfl ?_
    obtain ⟨v9, e10, h⟩ := bnd h
    refine wp_getR (c := 7) (k := 3) dX1_readSensors_58 e10 (by decide) (by decide) rfl fl_RX1_52 ?_
    refine wp_iload_n dX1_readSensors_61 rfl ?_
    obtain ⟨v11, e12, h⟩ := bnd h
    refine wp_iaload dX1_readSensors_62 e12 ?_
    obtain ⟨M13, e14, h⟩ := bnd h
    refine wp_iastore dX1_readSensors_63 e14 ?_
    refine wp_aload_n dX1_readSensors_64 rfl ?_
    obtain ⟨v15, e16, h⟩ := bnd h
    refine wp_getR (c := 7) (k := 6) dX1_readSensors_65 e16 (by decide) (by decide) rfl fl_RX1_112 ?_
    refine wp_iload_n dX1_readSensors_68 rfl ?_
    obtain ⟨v17, e18, h⟩ := bnd h
    refine wp_iaload dX1_readSensors_69 e18 ?_
    refine wp_istore dX1_readSensors_70 (Nat.le_of_ble_eq_true rfl) ?_
    refine wp_aload_n dX1_readSensors_72 rfl ?_
    obtain ⟨v19, e20, h⟩ := bnd h
    refine wp_getR (c := 7) (k := 6) dX1_readSensors_73 e20 (by decide) (by decide) rfl fl_RX1_112 ?_
    refine wp_iload_n dX1_readSensors_76 rfl ?_
    refine wp_aload_n dX1_readSensors_77 rfl ?_
    refine wp_aload_n dX1_readSensors_78 rfl ?_
    refine wp_iload_n dX1_readSensors_79 rfl ?_
    obtain ⟨q21, e22, h⟩ := bnd h
    refine wp_callV (As := [.inr x1, .inl q.1]) dX1_readSensors_80 (sh_X1_filtered_ok (d := d) e22) okX1_filtered nnX1_filtered vvX1_filtered ml_RX1_115 rfl (Nat.le_of_ble_eq_true rfl) ?_
    obtain ⟨M23, e24, h⟩ := bnd h
    refine wp_iastore dX1_readSensors_83 e24 ?_
    refine wp_aload_n dX1_readSensors_84 rfl ?_
    obtain ⟨v25, e26, h⟩ := bnd h
    refine wp_getR (c := 7) (k := 7) dX1_readSensors_85 e26 (by decide) (by decide) rfl fl_RX1_119 ?_
    refine wp_iload_n dX1_readSensors_88 rfl ?_
    refine wp_aload_n dX1_readSensors_89 rfl ?_
    obtain ⟨v27, e28, h⟩ := bnd h
    refine wp_getR (c := 7) (k := 6) dX1_readSensors_90 e28 (by decide) (by decide) rfl fl_RX1_112 ?_
    refine wp_iload_n dX1_readSensors_93 rfl ?_
    obtain ⟨v29, e30, h⟩ := bnd h
    refine wp_iaload dX1_readSensors_94 e30 ?_
    refine wp_iload dX1_readSensors_95 rfl ?_
    refine wp_isub dX1_readSensors_97 ?_
    obtain ⟨M31, e32, h⟩ := bnd h
    refine wp_iastore dX1_readSensors_98 e32 ?_
    refine wp_iinc (v := q.1 + 1) dX1_readSensors_99 rfl rfl ?_
    refine wp_goto (tgt := 2) dX1_readSensors_102 (by decide) ?_
    cases h
    exact wp_ls (lsS (lsS (lsS (lsN (lsN lsZ))))) (hc (q.1 + 1, M31) rfl)

theorem X1_readSensors_B2_lp {w : Gw} {d : Nat} {x0 : Nat} {x1 : Nat} {o : Go} {M' : Gm} {r : Gm} : ∀ (n : Nat) (q : Int32 × Gm), lp (X1_readSensors_B2 x0 x1) n q = some r → (∀ t : Gm, r = t → Wp w mdX1_readSensors (d + 3) 105 [none, none, none, none, none] [] t o M') → Wp w mdX1_readSensors (d + 3) 2 [some (.inr x0), some (.inr x1), some (.inl q.1), none, none] [] q.2 o M' := by
  intro n
  induction n with
  | zero => intro q h; cases h
  | succ n ih =>
    intro q h he0
    cases hb : X1_readSensors_B2 x0 x1 q with
    | none => rw [lp_succ, hb] at h; cases h
    | some out =>
      rw [lp_succ, hb] at h
      exact X1_readSensors_B2_ok hb (fun t e => ih t (by rw [e] at h; exact h) he0) (fun t e => he0 t (by rw [e] at h; cases h; rfl))
theorem X1_readSensors_F_ok {w : Gw} {d : Nat} {x0 : Nat} {x1 : Nat} {M : Gm} {out : Gm} (h : X1_readSensors_F x0 x1 M = some out) : Wp w mdX1_readSensors (d + 3) 0 [some (.inr x0), some (.inr x1), none, none, none] [] M (.inl none) out := by
  unfold X1_readSensors_F at h
  refine wp_iconst (v := 0) dX1_readSensors_0 (by decide) ?_
  refine wp_istore_n dX1_readSensors_1 (Nat.le_of_ble_eq_true rfl) ?_
  obtain ⟨r1, e2, h⟩ := bnd h
  refine wp_ls (lsS (lsS (lsS (lsN (lsN lsZ))))) (X1_readSensors_B2_lp FU _ e2 ?_)
  intro t_ ht_; cases ht_
  cases h
  exact wp_ret dX1_readSensors_105 rfl

theorem sh_X1_readSensors_ok {w : Gw} {d : Nat} {x0 : Nat} {x1 : Nat} {M : Gm} {out : Gm} (h : sh_X1_readSensors x0 x1 M = some out) : Ev w mdX1_readSensors (d + 3) [.inr x0, .inr x1] M (.inl none) out := by
  obtain ⟨u, e0, h⟩ := bnd h
  exact ev_of okX1_readSensors ⟨_, _, rfl, isO_of e0 (by decide), by decide⟩ (Nat.le_of_ble_eq_true rfl) (X1_readSensors_F_ok h)

/-! HeatGovernor$State.allAtMost(I)Z -/
def X7_allAtMost_J46 (x0 : Nat) (x1 : Int32) (x2 : Int32) (M : Gm) : Option (Int32 ⊕ Unit ⊕ Unit) :=
  some (.inl (x2 + 1))
def X7_allAtMost_B2 (x0 : Nat) (x1 : Int32) (M : Gm) (q : Int32) : Option (Int32 ⊕ Unit ⊕ Unit) :=
  (gfR M x0 7 0).bind fun v1 =>
  (gfI M v1 5 7).bind fun v3 =>
  if v3 ≤ q then
    some (.inr (.inl ()))
  else
    (gfR M x0 7 0).bind fun v5 =>
    (gfR M v5 5 2).bind fun v7 =>
    (ldR M 6 v7 q).bind fun v9 =>
    (gfI M v9 2 1).bind fun v11 =>
    if v11 = x1 then
      (gfR M x0 7 12).bind fun v13 =>
      (ldA M 0 v13 q).bind fun v15 =>
      (gfI M v9 2 2).bind fun v17 =>
      if v17 ≤ v15 then
        X7_allAtMost_J46 x0 x1 q M
      else
        some (.inr (.inr ()))
    else
      X7_allAtMost_J46 x0 x1 q M
def X7_allAtMost_F (x0 : Nat) (x1 : Int32) (M : Gm) : Option (Int32) :=
  (lp (X7_allAtMost_B2 x0 x1 M) FU 0).bind fun r1 =>
  Sum.elim (fun u3 =>
    (zck 1).bind fun z4 =>
    some z4) (fun u6 =>
    (zck 0).bind fun z7 =>
    some z7) r1
def sh_X7_allAtMost (x0 : Nat) (x1 : Int32) (M : Gm) : Option (Int32) := (isO M x0 7).bind fun _ => X7_allAtMost_F x0 x1 M
theorem X7_allAtMost_J46_ok {w : Gw} {d : Nat} {x0 : Nat} {x1 : Int32} {x2 : Int32} {M : Gm} {o : Go} {M' : Gm} {out : Int32 ⊕ Unit ⊕ Unit} (h : X7_allAtMost_J46 x0 x1 x2 M = some out) (hc : ∀ t : Int32, out = .inl t → Wp w mdX7_allAtMost d 2 [some (.inr x0), some (.inl x1), some (.inl t), none] [] M o M') (he0 : ∀ t : Unit, out = .inr (.inl t) → Wp w mdX7_allAtMost d 52 [none, none, none, none] [] M o M') (he1 : ∀ t : Unit, out = .inr (.inr t) → Wp w mdX7_allAtMost d 44 [none, none, none, none] [] M o M') : Wp w mdX7_allAtMost d 46 [some (.inr x0), some (.inl x1), some (.inl x2), none] [] M o M' := by
  unfold X7_allAtMost_J46 at h
  refine wp_iinc (v := x2 + 1) dX7_allAtMost_46 rfl rfl ?_
  refine wp_goto (tgt := 2) dX7_allAtMost_49 (by decide) ?_
  cases h
  exact wp_ls (lsS (lsS (lsS (lsN lsZ)))) (hc (x2 + 1) rfl)

theorem X7_allAtMost_B2_ok {w : Gw} {d : Nat} {x0 : Nat} {x1 : Int32} {M : Gm} {q : Int32} {o : Go} {M' : Gm} {out : Int32 ⊕ Unit ⊕ Unit} (h : X7_allAtMost_B2 x0 x1 M q = some out) (hc : ∀ t : Int32, out = .inl t → Wp w mdX7_allAtMost d 2 [some (.inr x0), some (.inl x1), some (.inl t), none] [] M o M') (he0 : ∀ t : Unit, out = .inr (.inl t) → Wp w mdX7_allAtMost d 52 [none, none, none, none] [] M o M') (he1 : ∀ t : Unit, out = .inr (.inr t) → Wp w mdX7_allAtMost d 44 [none, none, none, none] [] M o M') : Wp w mdX7_allAtMost d 2 [some (.inr x0), some (.inl x1), some (.inl q), none] [] M o M' := by
  unfold X7_allAtMost_B2 at h
  refine wp_iload_n dX7_allAtMost_2 rfl ?_
  refine wp_aload_n dX7_allAtMost_3 rfl ?_
  obtain ⟨v1, e2, h⟩ := bnd h
  refine wp_getR (c := 7) (k := 0) dX7_allAtMost_4 e2 (by decide) (by decide) rfl fl_RX7_70 ?_
  obtain ⟨v3, e4, h⟩ := bnd h
  refine wp_getI (c := 5) (k := 7) dX7_allAtMost_7 e4 (by decide) (by decide) rfl fl_RX7_96 ?_
  refine wp_icmp_ge (tgt := 52) dX7_allAtMost_10 (by decide) (fun hc_ => ?_) (fun hc_ => ?_)
  · replace h := ite_t hc_ h
    cases h
    exact wp_ls (lsN (lsN (lsN (lsN lsZ)))) (he0 () rfl)
  · replace h := ite_f hc_ h
    refine wp_aload_n dX7_allAtMost_13 rfl ?_
    obtain ⟨v5, e6, h⟩ := bnd h
    refine wp_getR (c := 7) (k := 0) dX7_allAtMost_14 e6 (by decide) (by decide) rfl fl_RX7_70 ?_
    obtain ⟨v7, e8, h⟩ := bnd h
    refine wp_getR (c := 5) (k := 2) dX7_allAtMost_17 e8 (by decide) (by decide) rfl fl_RX7_99 ?_
    refine wp_iload_n dX7_allAtMost_20 rfl ?_
    obtain ⟨v9, e10, h⟩ := bnd h
    refine wp_aaload (t := 6) dX7_allAtMost_21 (by decide) rfl e10 ?_
    refine wp_astore_n dX7_allAtMost_22 (Nat.le_of_ble_eq_true rfl) ?_
    refine wp_aload_n dX7_allAtMost_23 rfl ?_
    obtain ⟨v11, e12, h⟩ := bnd h
    refine wp_getI (c := 2) (k := 1) dX7_allAtMost_24 e12 (by decide) (by decide) rfl fl_RX7_146 ?_
    refine wp_iload_n dX7_allAtMost_27 rfl ?_
    refine wp_icmp_ne (tgt := 46) dX7_allAtMost_28 (by decide) (fun hc_ => ?_) (fun hc_ => ?_)
    · replace h := ite_f hc_ h
      exact wp_ls (lsS (lsS (lsS (lsN lsZ)))) (X7_allAtMost_J46_ok h hc he0 he1)
    · replace h := ite_t hc_ h
      refine wp_aload_n dX7_allAtMost_31 rfl ?_
      obtain ⟨v13, e14, h⟩ := bnd h
      refine wp_getR (c := 7) (k := 12) dX7_allAtMost_32 e14 (by decide) (by decide) rfl fl_RX7_46 ?_
      refine wp_iload_n dX7_allAtMost_35 rfl ?_
      obtain ⟨v15, e16, h⟩ := bnd h
      refine wp_iaload dX7_allAtMost_36 e16 ?_
      refine wp_aload_n dX7_allAtMost_37 rfl ?_
      obtain ⟨v17, e18, h⟩ := bnd h
      refine wp_getI (c := 2) (k := 2) dX7_allAtMost_38 e18 (by decide) (by decide) rfl fl_RX7_147 ?_
      refine wp_icmp_ge (tgt := 46) dX7_allAtMost_41 (by decide) (fun hc_ => ?_) (fun hc_ => ?_)
      · replace h := ite_t hc_ h
        exact wp_ls (lsS (lsS (lsS (lsN lsZ)))) (X7_allAtMost_J46_ok h hc he0 he1)
      · replace h := ite_f hc_ h
        cases h
        exact wp_ls (lsN (lsN (lsN (lsN lsZ)))) (he1 () rfl)

theorem X7_allAtMost_B2_lp {w : Gw} {d : Nat} {x0 : Nat} {x1 : Int32} {M : Gm} {o : Go} {M' : Gm} {r : Unit ⊕ Unit} : ∀ (n : Nat) (q : Int32), lp (X7_allAtMost_B2 x0 x1 M) n q = some r → (∀ t : Unit, r = (.inl t) → Wp w mdX7_allAtMost d 52 [none, none, none, none] [] M o M') → (∀ t : Unit, r = (.inr t) → Wp w mdX7_allAtMost d 44 [none, none, none, none] [] M o M') → Wp w mdX7_allAtMost d 2 [some (.inr x0), some (.inl x1), some (.inl q), none] [] M o M' := by
  intro n
  induction n with
  | zero => intro q h; cases h
  | succ n ih =>
    intro q h he0 he1
    cases hb : X7_allAtMost_B2 x0 x1 M q with
    | none => rw [lp_succ, hb] at h; cases h
    | some out =>
      rw [lp_succ, hb] at h
      exact X7_allAtMost_B2_ok hb (fun t e => ih t (by rw [e] at h; exact h) he0 he1) (fun t e => he0 t (by rw [e] at h; cases h; rfl)) (fun t e => he1 t (by rw [e] at h; cases h; rfl))
theorem X7_allAtMost_F_ok {w : Gw} {d : Nat} {x0 : Nat} {x1 : Int32} {M : Gm} {out : Int32} (h : X7_allAtMost_F x0 x1 M = some out) : Wp w mdX7_allAtMost d 0 [some (.inr x0), some (.inl x1), none, none] [] M (.inl (some (.inl out))) M := by
  unfold X7_allAtMost_F at h
  refine wp_iconst (v := 0) dX7_allAtMost_0 (by decide) ?_
  refine wp_istore_n dX7_allAtMost_1 (Nat.le_of_ble_eq_true rfl) ?_
  obtain ⟨r1, e2, h⟩ := bnd h
  refine wp_ls (lsS (lsS (lsS (lsN lsZ)))) (X7_allAtMost_B2_lp FU _ e2 ?_ ?_)
  · intro y3 ht_; subst ht_
    replace h := elim_l h
    refine wp_iconst (v := 1) dX7_allAtMost_52 (by decide) ?_
    obtain ⟨z4, e5, h⟩ := bnd h
    obtain ⟨hz_, rfl⟩ := zck_of e5
    cases h
    exact wp_zret dX7_allAtMost_53 rfl hz_
  · intro y6 ht_; subst ht_
    replace h := elim_r h
    refine wp_iconst (v := 0) dX7_allAtMost_44 (by decide) ?_
    obtain ⟨z7, e8, h⟩ := bnd h
    obtain ⟨hz_, rfl⟩ := zck_of e8
    cases h
    exact wp_zret dX7_allAtMost_45 rfl hz_

theorem sh_X7_allAtMost_ok {w : Gw} {d : Nat} {x0 : Nat} {x1 : Int32} {M : Gm} {out : Int32} (h : sh_X7_allAtMost x0 x1 M = some out) : Ev w mdX7_allAtMost d [.inr x0, .inl x1] M (.inl (some (.inl out))) M := by
  obtain ⟨u, e0, h⟩ := bnd h
  exact ev_of okX7_allAtMost ⟨_, _, rfl, isO_of e0 (by decide), by decide⟩ (Nat.le_of_ble_eq_true rfl) (X7_allAtMost_F_ok h)

/-! HeatGovernor$Clock.isForeseen(LHeatGovernor$State;LHeatGovernor$Trip;)Z -/
def X1_isForeseen_J60 (s0 : Int32) (M : Gm) : Option (Int32) :=
  (zck s0).bind fun z1 =>
  some z1
def X1_isForeseen_J59 (M : Gm) : Option (Int32) :=
  X1_isForeseen_J60 0 M
def X1_isForeseen_F (x0 : Nat) (x1 : Nat) (M : Gm) : Option (Int32) :=
  (gfR M x0 7 7).bind fun v1 =>
  (gfI M x1 8 0).bind fun v3 =>
  (ldA M 0 v1 v3).bind fun v5 =>
  (gfI M x0 7 2).bind fun v7 =>
  if v7 ≤ 0 then
    X1_isForeseen_J59 M
  else
    if v5 ≤ 0 then
      X1_isForeseen_J59 M
    else
      (gfR M x0 7 6).bind fun v9 =>
      (gfI M x1 8 0).bind fun v11 =>
      (ldA M 0 v9 v11).bind fun v13 =>
      (gfI M x0 7 2).bind fun v15 =>
      (gfI M x1 8 2).bind fun v17 =>
      if (v13 + (v5 * v15)) < v17 then
        X1_isForeseen_J59 M
      else
        (gfI M x1 8 0).bind fun v19 =>
        (sh_X7_allAtMost x0 v19 M).bind fun q21 =>
        if q21 = 0 then
          X1_isForeseen_J59 M
        else
          X1_isForeseen_J60 1 M
def sh_X1_isForeseen (x0 : Nat) (x1 : Nat) (M : Gm) : Option (Int32) := X1_isForeseen_F x0 x1 M
theorem X1_isForeseen_J60_ok {w : Gw} {d : Nat} {s0 : Int32} {M : Gm} {out : Int32} (h : X1_isForeseen_J60 s0 M = some out) : Wp w mdX1_isForeseen (d + 1) 60 [none, none, none] [.inl s0] M (.inl (some (.inl out))) M := by
  unfold X1_isForeseen_J60 at h
  obtain ⟨z1, e2, h⟩ := bnd h
  obtain ⟨hz_, rfl⟩ := zck_of e2
  cases h
  exact wp_zret dX1_isForeseen_60 rfl hz_

theorem X1_isForeseen_J59_ok {w : Gw} {d : Nat} {M : Gm} {out : Int32} (h : X1_isForeseen_J59 M = some out) : Wp w mdX1_isForeseen (d + 1) 59 [none, none, none] [] M (.inl (some (.inl out))) M := by
  unfold X1_isForeseen_J59 at h
  refine wp_iconst (v := 0) dX1_isForeseen_59 (by decide) ?_
  exact wp_ls (lsN (lsN (lsN lsZ))) (X1_isForeseen_J60_ok h)

theorem X1_isForeseen_F_ok {w : Gw} {d : Nat} {x0 : Nat} {x1 : Nat} {M : Gm} {out : Int32} (h : X1_isForeseen_F x0 x1 M = some out) : Wp w mdX1_isForeseen (d + 1) 0 [some (.inr x0), some (.inr x1), none] [] M (.inl (some (.inl out))) M := by
  unfold X1_isForeseen_F at h
  refine wp_aload_n dX1_isForeseen_0 rfl ?_
  obtain ⟨v1, e2, h⟩ := bnd h
  refine wp_getR (c := 7) (k := 7) dX1_isForeseen_1 e2 (by decide) (by decide) rfl fl_RX1_119 ?_
  refine wp_aload_n dX1_isForeseen_4 rfl ?_
  obtain ⟨v3, e4, h⟩ := bnd h
  refine wp_getI (c := 8) (k := 0) dX1_isForeseen_5 e4 (by decide) (by decide) rfl fl_RX1_153 ?_
  obtain ⟨v5, e6, h⟩ := bnd h
  refine wp_iaload dX1_isForeseen_8 e6 ?_
  refine wp_istore_n dX1_isForeseen_9 (Nat.le_of_ble_eq_true rfl) ?_
  refine wp_aload_n dX1_isForeseen_10 rfl ?_
  obtain ⟨v7, e8, h⟩ := bnd h
  refine wp_getI (c := 7) (k := 2) dX1_isForeseen_11 e8 (by decide) (by decide) rfl fl_RX1_238 ?_
  refine wp_if_le (tgt := 59) dX1_isForeseen_14 (by decide) (fun hc_ => ?_) (fun hc_ => ?_)
  · replace h := ite_t hc_ h
    exact wp_ls (lsN (lsN (lsN lsZ))) (X1_isForeseen_J59_ok h)
  · replace h := ite_f hc_ h
    refine wp_iload_n dX1_isForeseen_17 rfl ?_
    refine wp_if_le (tgt := 59) dX1_isForeseen_18 (by decide) (fun hc_ => ?_) (fun hc_ => ?_)
    · replace h := ite_t hc_ h
      exact wp_ls (lsN (lsN (lsN lsZ))) (X1_isForeseen_J59_ok h)
    · replace h := ite_f hc_ h
      refine wp_aload_n dX1_isForeseen_21 rfl ?_
      obtain ⟨v9, e10, h⟩ := bnd h
      refine wp_getR (c := 7) (k := 6) dX1_isForeseen_22 e10 (by decide) (by decide) rfl fl_RX1_112 ?_
      refine wp_aload_n dX1_isForeseen_25 rfl ?_
      obtain ⟨v11, e12, h⟩ := bnd h
      refine wp_getI (c := 8) (k := 0) dX1_isForeseen_26 e12 (by decide) (by decide) rfl fl_RX1_153 ?_
      obtain ⟨v13, e14, h⟩ := bnd h
      refine wp_iaload dX1_isForeseen_29 e14 ?_
      refine wp_iload_n dX1_isForeseen_30 rfl ?_
      refine wp_aload_n dX1_isForeseen_31 rfl ?_
      obtain ⟨v15, e16, h⟩ := bnd h
      refine wp_getI (c := 7) (k := 2) dX1_isForeseen_32 e16 (by decide) (by decide) rfl fl_RX1_238 ?_
      refine wp_imul dX1_isForeseen_35 ?_
      refine wp_iadd dX1_isForeseen_36 ?_
      refine wp_aload_n dX1_isForeseen_37 rfl ?_
      obtain ⟨v17, e18, h⟩ := bnd h
      refine wp_getI (c := 8) (k := 2) dX1_isForeseen_38 e18 (by decide) (by decide) rfl fl_RX1_159 ?_
      refine wp_icmp_lt (tgt := 59) dX1_isForeseen_41 (by decide) (fun hc_ => ?_) (fun hc_ => ?_)
      · replace h := ite_t hc_ h
        exact wp_ls (lsN (lsN (lsN lsZ))) (X1_isForeseen_J59_ok h)
      · replace h := ite_f hc_ h
        refine wp_aload_n dX1_isForeseen_44 rfl ?_
        refine wp_aload_n dX1_isForeseen_45 rfl ?_
        obtain ⟨v19, e20, h⟩ := bnd h
        refine wp_getI (c := 8) (k := 0) dX1_isForeseen_46 e20 (by decide) (by decide) rfl fl_RX1_153 ?_
        obtain ⟨q21, e22, h⟩ := bnd h
        refine wp_callV (As := [.inl v19]) dX1_isForeseen_49 (sh_X7_allAtMost_ok (d := d) e22) okX7_allAtMost nnX7_allAtMost vvX7_allAtMost ml_RX1_241 rfl (Nat.le_of_ble_eq_true rfl) ?_
        refine wp_if_eq (tgt := 59) dX1_isForeseen_52 (by decide) (fun hc_ => ?_) (fun hc_ => ?_)
        · replace h := ite_t hc_ h
          exact wp_ls (lsN (lsN (lsN lsZ))) (X1_isForeseen_J59_ok h)
        · replace h := ite_f hc_ h
          refine wp_iconst (v := 1) dX1_isForeseen_55 (by decide) ?_
          refine wp_goto (tgt := 60) dX1_isForeseen_56 (by decide) ?_
          exact wp_ls (lsN (lsN (lsN lsZ))) (X1_isForeseen_J60_ok h)

theorem sh_X1_isForeseen_ok {w : Gw} {d : Nat} {x0 : Nat} {x1 : Nat} {M : Gm} {out : Int32} (h : sh_X1_isForeseen x0 x1 M = some out) : Ev w mdX1_isForeseen (d + 1) [.inr x0, .inr x1] M (.inl (some (.inl out))) M := ev_of okX1_isForeseen trivial (Nat.le_of_ble_eq_true rfl) (X1_isForeseen_F_ok h)

/-! HeatGovernor$State.shutZone(III)V -/
def X7_shutZone_J18 (x1 : Int32) (x2 : Int32) (s0 : Nat) (s1 : Int32) (M : Gm) : Option (Gm) :=
  (sh_X7_addLogRow s0 s1 x1 x2 M).bind fun q1 =>
  some q1
def X7_shutZone_F (x0 : Nat) (x1 : Int32) (x2 : Int32) (x3 : Int32) (M : Gm) : Option (Gm) :=
  (gfR M x0 7 8).bind fun v1 =>
  (stA M 0 v1 x1 x3).bind fun M3 =>
  if x3 = 1 then
    X7_shutZone_J18 x1 x2 x0 3 M3
  else
    X7_shutZone_J18 x1 x2 x0 4 M3
def sh_X7_shutZone (x0 : Nat) (x1 : Int32) (x2 : Int32) (x3 : Int32) (M : Gm) : Option (Gm) := (isO M x0 7).bind fun _ => X7_shutZone_F x0 x1 x2 x3 M
theorem X7_shutZone_J18_ok {w : Gw} {d : Nat} {x1 : Int32} {x2 : Int32} {s0 : Nat} {s1 : Int32} {M : Gm} {out : Gm} (h : X7_shutZone_J18 x1 x2 s0 s1 M = some out) : Wp w mdX7_shutZone (d + 2) 18 [none, some (.inl x1), some (.inl x2), none] [.inl s1, .inr s0] M (.inl none) out := by
  unfold X7_shutZone_J18 at h
  refine wp_iload_n dX7_shutZone_18 rfl ?_
  refine wp_iload_n dX7_shutZone_19 rfl ?_
  obtain ⟨q1, e2, h⟩ := bnd h
  refine wp_callV (As := [.inl s1, .inl x1, .inl x2]) dX7_shutZone_20 (sh_X7_addLogRow_ok (d := d) e2) okX7_addLogRow nnX7_addLogRow vvX7_addLogRow ml_RX7_177 rfl (Nat.le_of_ble_eq_true rfl) ?_
  cases h
  exact wp_ret dX7_shutZone_23 rfl

theorem X7_shutZone_F_ok {w : Gw} {d : Nat} {x0 : Nat} {x1 : Int32} {x2 : Int32} {x3 : Int32} {M : Gm} {out : Gm} (h : X7_shutZone_F x0 x1 x2 x3 M = some out) : Wp w mdX7_shutZone (d + 2) 0 [some (.inr x0), some (.inl x1), some (.inl x2), some (.inl x3)] [] M (.inl none) out := by
  unfold X7_shutZone_F at h
  refine wp_aload_n dX7_shutZone_0 rfl ?_
  obtain ⟨v1, e2, h⟩ := bnd h
  refine wp_getR (c := 7) (k := 8) dX7_shutZone_1 e2 (by decide) (by decide) rfl fl_RX7_34 ?_
  refine wp_iload_n dX7_shutZone_4 rfl ?_
  refine wp_iload_n dX7_shutZone_5 rfl ?_
  obtain ⟨M3, e4, h⟩ := bnd h
  refine wp_iastore dX7_shutZone_6 e4 ?_
  refine wp_aload_n dX7_shutZone_7 rfl ?_
  refine wp_iload_n dX7_shutZone_8 rfl ?_
  refine wp_iconst (v := 1) dX7_shutZone_9 (by decide) ?_
  refine wp_icmp_ne (tgt := 17) dX7_shutZone_10 (by decide) (fun hc_ => ?_) (fun hc_ => ?_)
  · replace h := ite_f hc_ h
    refine wp_iconst (v := 4) dX7_shutZone_17 (by decide) ?_
    exact wp_ls (lsN (lsS (lsS (lsN lsZ)))) (X7_shutZone_J18_ok h)
  · replace h := ite_t hc_ h
    refine wp_iconst (v := 3) dX7_shutZone_13 (by decide) ?_
    refine wp_goto (tgt := 18) dX7_shutZone_14 (by decide) ?_
    exact wp_ls (lsN (lsS (lsS (lsN lsZ)))) (X7_shutZone_J18_ok h)

theorem sh_X7_shutZone_ok {w : Gw} {d : Nat} {x0 : Nat} {x1 : Int32} {x2 : Int32} {x3 : Int32} {M : Gm} {out : Gm} (h : sh_X7_shutZone x0 x1 x2 x3 M = some out) : Ev w mdX7_shutZone (d + 2) [.inr x0, .inl x1, .inl x2, .inl x3] M (.inl none) out := by
  obtain ⟨u, e0, h⟩ := bnd h
  exact ev_of okX7_shutZone ⟨_, _, rfl, isO_of e0 (by decide), by decide⟩ (Nat.le_of_ble_eq_true rfl) (X7_shutZone_F_ok h)

/-! HeatGovernor$Clock.shutZones(LHeatGovernor$State;)V -/
def X1_shutZones_J86 (x1 : Nat) (x2 : Int32) (M : Gm) : Option ((Int32 × Gm) ⊕ Gm) :=
  some (.inl (x2 + 1, M))
def X1_shutZones_B2 (x1 : Nat) (q : Int32 × Gm) : Option ((Int32 × Gm) ⊕ Gm) :=
  (gfR q.2 x1 7 0).bind fun v1 =>
  (gfI q.2 v1 5 6).bind fun v3 =>
  if v3 ≤ q.1 then
    some (.inr q.2)
  else
    (gfR q.2 x1 7 0).bind fun v5 =>
    (gfR q.2 v5 5 1).bind fun v7 =>
    (ldR q.2 5 v7 q.1).bind fun v9 =>
    (gfI q.2 v9 8 1).bind fun v11 =>
    if v11 = 3 then
      (gfI q.2 v9 8 0).bind fun v13 =>
      (sh_X7_isShut x1 v13 q.2).bind fun q15 =>
      if q15 = 0 then
        (gfR q.2 x1 7 10).bind fun v17 =>
        (ldA q.2 0 v17 q.1).bind fun v19 =>
        if v19 = 1 then
          (gfI q.2 v9 8 0).bind fun v27 =>
          (sh_X7_shutZone x1 v27 q.1 1 q.2).bind fun q29 =>
          X1_shutZones_J86 x1 q.1 q29
        else
          (sh_X1_isForeseen x1 v9 q.2).bind fun q21 =>
          if q21 = 0 then
            X1_shutZones_J86 x1 q.1 q.2
          else
            (gfI q.2 v9 8 0).bind fun v23 =>
            (sh_X7_shutZone x1 v23 q.1 2 q.2).bind fun q25 =>
            X1_shutZones_J86 x1 q.1 q25
      else
        X1_shutZones_J86 x1 q.1 q.2
    else
      X1_shutZones_J86 x1 q.1 q.2
def X1_shutZones_F (x0 : Nat) (x1 : Nat) (M : Gm) : Option (Gm) :=
  (lp (X1_shutZones_B2 x1) FU (0, M)).bind fun r1 =>
  some r1
def sh_X1_shutZones (x0 : Nat) (x1 : Nat) (M : Gm) : Option (Gm) := (isO M x0 1).bind fun _ => X1_shutZones_F x0 x1 M
theorem X1_shutZones_J86_ok {w : Gw} {d : Nat} {x1 : Nat} {x2 : Int32} {M : Gm} {o : Go} {M' : Gm} {out : (Int32 × Gm) ⊕ Gm} (h : X1_shutZones_J86 x1 x2 M = some out) (hc : ∀ t : Int32 × Gm, out = .inl t → Wp w mdX1_shutZones (d + 3) 2 [none, some (.inr x1), some (.inl t.1), none] [] t.2 o M') (he0 : ∀ t : Gm, out = .inr t → Wp w mdX1_shutZones (d + 3) 92 [none, none, none, none] [] t o M') : Wp w mdX1_shutZones (d + 3) 86 [none, some (.inr x1), some (.inl x2), none] [] M o M' := by
  unfold X1_shutZones_J86 at h
  refine wp_iinc (v := x2 + 1) dX1_shutZones_86 rfl rfl ?_
  refine wp_goto (tgt := 2) dX1_shutZones_89 (by decide) ?_
  cases h
  exact wp_ls (lsN (lsS (lsS (lsN lsZ)))) (hc (x2 + 1, M) rfl)

theorem X1_shutZones_B2_ok {w : Gw} {d : Nat} {x1 : Nat} {q : Int32 × Gm} {o : Go} {M' : Gm} {out : (Int32 × Gm) ⊕ Gm} (h : X1_shutZones_B2 x1 q = some out) (hc : ∀ t : Int32 × Gm, out = .inl t → Wp w mdX1_shutZones (d + 3) 2 [none, some (.inr x1), some (.inl t.1), none] [] t.2 o M') (he0 : ∀ t : Gm, out = .inr t → Wp w mdX1_shutZones (d + 3) 92 [none, none, none, none] [] t o M') : Wp w mdX1_shutZones (d + 3) 2 [none, some (.inr x1), some (.inl q.1), none] [] q.2 o M' := by
  unfold X1_shutZones_B2 at h
  refine wp_iload_n dX1_shutZones_2 rfl ?_
  refine wp_aload_n dX1_shutZones_3 rfl ?_
  obtain ⟨v1, e2, h⟩ := bnd h
  refine wp_getR (c := 7) (k := 0) dX1_shutZones_4 e2 (by decide) (by decide) rfl fl_RX1_43 ?_
  obtain ⟨v3, e4, h⟩ := bnd h
  refine wp_getI (c := 5) (k := 6) dX1_shutZones_7 e4 (by decide) (by decide) rfl fl_RX1_146 ?_
  refine wp_icmp_ge (tgt := 92) dX1_shutZones_10 (by decide) (fun hc_ => ?_) (fun hc_ => ?_)
  · replace h := ite_t hc_ h
    cases h
    exact wp_ls (lsN (lsN (lsN (lsN lsZ)))) (he0 q.2 rfl)
  · replace h := ite_f hc_ h
    refine wp_aload_n dX1_shutZones_13 rfl ?_
    obtain ⟨v5, e6, h⟩ := bnd h
    refine wp_getR (c := 7) (k := 0) dX1_shutZones_14 e6 (by decide) (by decide) rfl fl_RX1_43 ?_
    obtain ⟨v7, e8, h⟩ := bnd h
    refine wp_getR (c := 5) (k := 1) dX1_shutZones_17 e8 (by decide) (by decide) rfl fl_RX1_149 ?_
    refine wp_iload_n dX1_shutZones_20 rfl ?_
    obtain ⟨v9, e10, h⟩ := bnd h
    refine wp_aaload (t := 5) dX1_shutZones_21 (by decide) rfl e10 ?_
    refine wp_astore_n dX1_shutZones_22 (Nat.le_of_ble_eq_true rfl) ?_
    refine wp_aload_n dX1_shutZones_23 rfl ?_
    obtain ⟨v11, e12, h⟩ := bnd h
    refine wp_getI (c := 8) (k := 1) dX1_shutZones_24 e12 (by decide) (by decide) rfl fl_RX1_172 ?_
    refine wp_iconst (v := 3) dX1_shutZones_27 (by decide) ?_
    refine wp_icmp_ne (tgt := 86) dX1_shutZones_28 (by decide) (fun hc_ => ?_) (fun hc_ => ?_)
    · replace h := ite_f hc_ h
      exact wp_ls (lsN (lsS (lsS (lsN lsZ)))) (X1_shutZones_J86_ok h hc he0)
    · replace h := ite_t hc_ h
      refine wp_aload_n dX1_shutZones_31 rfl ?_
      refine wp_aload_n dX1_shutZones_32 rfl ?_
      obtain ⟨v13, e14, h⟩ := bnd h
      refine wp_getI (c := 8) (k := 0) dX1_shutZones_33 e14 (by decide) (by decide) rfl fl_RX1_153 ?_
      obtain ⟨q15, e16, h⟩ := bnd h
      refine wp_callV (As := [.inl v13]) dX1_shutZones_36 (sh_X7_isShut_ok (d := d + 2) e16) okX7_isShut nnX7_isShut vvX7_isShut ml_RX1_55 rfl (Nat.le_of_ble_eq_true rfl) ?_
      refine wp_if_eq (tgt := 45) dX1_shutZones_39 (by decide) (fun hc_ => ?_) (fun hc_ => ?_)
      · replace h := ite_t hc_ h
        refine wp_aload_n dX1_shutZones_45 rfl ?_
        obtain ⟨v17, e18, h⟩ := bnd h
        refine wp_getR (c := 7) (k := 10) dX1_shutZones_46 e18 (by decide) (by decide) rfl fl_RX1_156 ?_
        refine wp_iload_n dX1_shutZones_49 rfl ?_
        obtain ⟨v19, e20, h⟩ := bnd h
        refine wp_iaload dX1_shutZones_50 e20 ?_
        refine wp_iconst (v := 1) dX1_shutZones_51 (by decide) ?_
        refine wp_icmp_ne (tgt := 68) dX1_shutZones_52 (by decide) (fun hc_ => ?_) (fun hc_ => ?_)
        · replace h := ite_f hc_ h
          refine wp_aload_n dX1_shutZones_68 rfl ?_
          refine wp_aload_n dX1_shutZones_69 rfl ?_
          obtain ⟨q21, e22, h⟩ := bnd h
          refine wp_callS (As := [.inr x1, .inr v9]) dX1_shutZones_70 (sh_X1_isForeseen_ok (d := d + 1) e22) okX1_isForeseen nnX1_isForeseen ssX1_isForeseen ml_RX1_234 rfl (Nat.le_of_ble_eq_true rfl) ?_
          refine wp_if_eq (tgt := 86) dX1_shutZones_73 (by decide) (fun hc_ => ?_) (fun hc_ => ?_)
          · replace h := ite_t hc_ h
            exact wp_ls (lsN (lsS (lsS (lsN lsZ)))) (X1_shutZones_J86_ok h hc he0)
          · replace h := ite_f hc_ h
            refine wp_aload_n dX1_shutZones_76 rfl ?_
            refine wp_aload_n dX1_shutZones_77 rfl ?_
            obtain ⟨v23, e24, h⟩ := bnd h
            refine wp_getI (c := 8) (k := 0) dX1_shutZones_78 e24 (by decide) (by decide) rfl fl_RX1_153 ?_
            refine wp_iload_n dX1_shutZones_81 rfl ?_
            refine wp_iconst (v := 2) dX1_shutZones_82 (by decide) ?_
            obtain ⟨q25, e26, h⟩ := bnd h
            refine wp_callV (As := [.inl v23, .inl q.1, .inl 2]) dX1_shutZones_83 (sh_X7_shutZone_ok (d := d) e26) okX7_shutZone nnX7_shutZone vvX7_shutZone ml_RX1_231 rfl (Nat.le_of_ble_eq_true rfl) ?_
            exact wp_ls (lsN (lsS (lsS (lsN lsZ)))) (X1_shutZones_J86_ok h hc he0)
        · replace h := ite_t hc_ h
          refine wp_aload_n dX1_shutZones_55 rfl ?_
          refine wp_aload_n dX1_shutZones_56 rfl ?_
          obtain ⟨v27, e28, h⟩ := bnd h
          refine wp_getI (c := 8) (k := 0) dX1_shutZones_57 e28 (by decide) (by decide) rfl fl_RX1_153 ?_
          refine wp_iload_n dX1_shutZones_60 rfl ?_
          refine wp_iconst (v := 1) dX1_shutZones_61 (by decide) ?_
          obtain ⟨q29, e30, h⟩ := bnd h
          refine wp_callV (As := [.inl v27, .inl q.1, .inl 1]) dX1_shutZones_62 (sh_X7_shutZone_ok (d := d) e30) okX7_shutZone nnX7_shutZone vvX7_shutZone ml_RX1_231 rfl (Nat.le_of_ble_eq_true rfl) ?_
          refine wp_goto (tgt := 86) dX1_shutZones_65 (by decide) ?_
          exact wp_ls (lsN (lsS (lsS (lsN lsZ)))) (X1_shutZones_J86_ok h hc he0)
      · replace h := ite_f hc_ h
        refine wp_goto (tgt := 86) dX1_shutZones_42 (by decide) ?_
        exact wp_ls (lsN (lsS (lsS (lsN lsZ)))) (X1_shutZones_J86_ok h hc he0)

theorem X1_shutZones_B2_lp {w : Gw} {d : Nat} {x1 : Nat} {o : Go} {M' : Gm} {r : Gm} : ∀ (n : Nat) (q : Int32 × Gm), lp (X1_shutZones_B2 x1) n q = some r → (∀ t : Gm, r = t → Wp w mdX1_shutZones (d + 3) 92 [none, none, none, none] [] t o M') → Wp w mdX1_shutZones (d + 3) 2 [none, some (.inr x1), some (.inl q.1), none] [] q.2 o M' := by
  intro n
  induction n with
  | zero => intro q h; cases h
  | succ n ih =>
    intro q h he0
    cases hb : X1_shutZones_B2 x1 q with
    | none => rw [lp_succ, hb] at h; cases h
    | some out =>
      rw [lp_succ, hb] at h
      exact X1_shutZones_B2_ok hb (fun t e => ih t (by rw [e] at h; exact h) he0) (fun t e => he0 t (by rw [e] at h; cases h; rfl))
theorem X1_shutZones_F_ok {w : Gw} {d : Nat} {x0 : Nat} {x1 : Nat} {M : Gm} {out : Gm} (h : X1_shutZones_F x0 x1 M = some out) : Wp w mdX1_shutZones (d + 3) 0 [some (.inr x0), some (.inr x1), none, none] [] M (.inl none) out := by
  unfold X1_shutZones_F at h
  refine wp_iconst (v := 0) dX1_shutZones_0 (by decide) ?_
  refine wp_istore_n dX1_shutZones_1 (Nat.le_of_ble_eq_true rfl) ?_
  obtain ⟨r1, e2, h⟩ := bnd h
  refine wp_ls (lsN (lsS (lsS (lsN lsZ)))) (X1_shutZones_B2_lp FU _ e2 ?_)
  intro t_ ht_; cases ht_
  cases h
  exact wp_ret dX1_shutZones_92 rfl

theorem sh_X1_shutZones_ok {w : Gw} {d : Nat} {x0 : Nat} {x1 : Nat} {M : Gm} {out : Gm} (h : sh_X1_shutZones x0 x1 M = some out) : Ev w mdX1_shutZones (d + 3) [.inr x0, .inr x1] M (.inl none) out := by
  obtain ⟨u, e0, h⟩ := bnd h
  exact ev_of okX1_shutZones ⟨_, _, rfl, isO_of e0 (by decide), by decide⟩ (Nat.le_of_ble_eq_true rfl) (X1_shutZones_F_ok h)

/-! HeatGovernor$Clock.wantShares(LHeatGovernor$State;LHeatGovernor$Trip;I)V -/
def X1_wantShares_B15 (x1 : Nat) (x2 : Nat) (x3 : Int32) (x4 : Nat) (M : Gm) (q : Int32 × Int32) : Option ((Int32 × Int32) ⊕ Int32) :=
  (gfI M x2 8 5).bind fun v1 =>
  if v1 ≤ q.2 then
    some (.inr q.1)
  else
    (gfR M x4 5 3).bind fun v3 =>
    (ldR M 7 v3 q.2).bind fun v5 =>
    (gfI M v5 0 2).bind fun v7 =>
    some (.inl (q.1 + v7, q.2 + 1))
def X1_wantShares_B55 (x1 : Nat) (x2 : Nat) (x3 : Int32) (x4 : Nat) (x5 : Int32) (q : Int32 × Int32 × Gm) : Option ((Int32 × Int32 × Gm) ⊕ (Int32 × Gm)) :=
  (gfI q.2.2 x2 8 5).bind fun v1 =>
  if v1 ≤ q.2.1 then
    some (.inr (q.1, q.2.2))
  else
    (gfR q.2.2 x4 5 3).bind fun v3 =>
    (ldR q.2.2 7 v3 q.2.1).bind fun v5 =>
    (gfI q.2.2 v5 0 2).bind fun v7 =>
    (sh_X11_quotient (x3 * v7) x5 q.2.2).bind fun q9 =>
    (gfR q.2.2 x1 7 15).bind fun v11 =>
    (gfR q.2.2 x4 5 2).bind fun v13 =>
    (gfR q.2.2 x4 5 3).bind fun v15 =>
    (ldR q.2.2 7 v15 q.2.1).bind fun v17 =>
    (gfI q.2.2 v17 0 1).bind fun v19 =>
    (ldR q.2.2 6 v13 v19).bind fun v21 =>
    (gfI q.2.2 v21 2 2).bind fun v23 =>
    (sh_J9_min_7cf53 q9 v23 q.2.2).bind fun q25 =>
    (stA q.2.2 0 v11 q.2.1 q25).bind fun M27 =>
    (gfR M27 x1 7 15).bind fun v29 =>
    (ldA M27 0 v29 q.2.1).bind fun v31 =>
    some (.inl (q.1 - v31, q.2.1 + 1, M27))
def X1_wantShares_J213 (x1 : Nat) (x2 : Nat) (x4 : Nat) (x6 : Int32) (x7 : Int32) (x8 : Int32) (M : Gm) : Option ((Int32 × Int32 × Gm) ⊕ (Int32 × Gm)) :=
  some (.inl (x6, x8 + 1, M))
def X1_wantShares_B155 (x1 : Nat) (x2 : Nat) (x4 : Nat) (x7 : Int32) (q : Int32 × Int32 × Gm) : Option ((Int32 × Int32 × Gm) ⊕ (Int32 × Gm)) :=
  (gfI q.2.2 x2 8 5).bind fun v1 =>
  if v1 ≤ q.2.1 then
    some (.inr (q.1, q.2.2))
  else
    if q.1 ≤ 0 then
      some (.inr (q.1, q.2.2))
    else
      (gfR q.2.2 x1 7 15).bind fun v3 =>
      (ldA q.2.2 0 v3 q.2.1).bind fun v5 =>
      (gfR q.2.2 x4 5 2).bind fun v7 =>
      (gfR q.2.2 x4 5 3).bind fun v9 =>
      (ldR q.2.2 7 v9 q.2.1).bind fun v11 =>
      (gfI q.2.2 v11 0 1).bind fun v13 =>
      (ldR q.2.2 6 v7 v13).bind fun v15 =>
      (gfI q.2.2 v15 2 2).bind fun v17 =>
      if v17 ≤ v5 then
        X1_wantShares_J213 x1 x2 x4 q.1 x7 q.2.1 q.2.2
      else
        (gfR q.2.2 x1 7 15).bind fun v19 =>
        (ldA q.2.2 0 v19 q.2.1).bind fun v21 =>
        (stA q.2.2 0 v19 q.2.1 (v21 + 1)).bind fun M23 =>
        X1_wantShares_J213 x1 x2 x4 (q.1 + (-1)) x7 q.2.1 M23
def X1_wantShares_J219 (x1 : Nat) (x2 : Nat) (x4 : Nat) (x6 : Int32) (x7 : Int32) (M : Gm) : Option ((Int32 × Int32 × Gm) ⊕ Gm) :=
  some (.inl (x6, x7 + 1, M))
def X1_wantShares_B137 (x1 : Nat) (x2 : Nat) (x4 : Nat) (q : Int32 × Int32 × Gm) : Option ((Int32 × Int32 × Gm) ⊕ Gm) :=
  if 9 ≤ q.2.1 then
    some (.inr q.2.2)
  else
    if q.1 ≤ 0 then
      some (.inr q.2.2)
    else
      (gfI q.2.2 x2 8 4).bind fun v1 =>
      (lp (X1_wantShares_B155 x1 x2 x4 q.2.1) FU (q.1, v1, q.2.2)).bind fun r3 =>
      X1_wantShares_J219 x1 x2 x4 r3.1 q.2.1 r3.2
def X1_wantShares_J225 (M : Gm) : Option (Gm) :=
  some M
def X1_wantShares_F (x0 : Nat) (x1 : Nat) (x2 : Nat) (x3 : Int32) (M : Gm) : Option (Gm) :=
  (gfR M x1 7 0).bind fun v1 =>
  (gfI M x2 8 4).bind fun v3 =>
  (lp (X1_wantShares_B15 x1 x2 x3 v1 M) FU (0, v3)).bind fun r5 =>
  (gfI M x2 8 4).bind fun v7 =>
  (lp (X1_wantShares_B55 x1 x2 x3 v1 r5) FU (x3, v7, M)).bind fun r9 =>
  (lp (X1_wantShares_B137 x1 x2 v1) FU (r9.1, 0, r9.2)).bind fun r11 =>
  X1_wantShares_J225 r11
def sh_X1_wantShares (x0 : Nat) (x1 : Nat) (x2 : Nat) (x3 : Int32) (M : Gm) : Option (Gm) := (isO M x0 1).bind fun _ => X1_wantShares_F x0 x1 x2 x3 M
theorem X1_wantShares_B15_ok {w : Gw} {d : Nat} {x1 : Nat} {x2 : Nat} {x3 : Int32} {x4 : Nat} {M : Gm} {q : Int32 × Int32} {o : Go} {M' : Gm} {out : (Int32 × Int32) ⊕ Int32} (h : X1_wantShares_B15 x1 x2 x3 x4 M q = some out) (hc : ∀ t : Int32 × Int32, out = .inl t → Wp w mdX1_wantShares (d + 2) 15 [none, some (.inr x1), some (.inr x2), some (.inl x3), some (.inr x4), some (.inl t.1), some (.inl t.2), none, none] [] M o M') (he0 : ∀ t : Int32, out = .inr t → Wp w mdX1_wantShares (d + 2) 46 [none, some (.inr x1), some (.inr x2), some (.inl x3), some (.inr x4), some (.inl t), none, none, none] [] M o M') : Wp w mdX1_wantShares (d + 2) 15 [none, some (.inr x1), some (.inr x2), some (.inl x3), some (.inr x4), some (.inl q.1), some (.inl q.2), none, none] [] M o M' := by
  unfold X1_wantShares_B15 at h
  refine wp_iload dX1_wantShares_15 rfl ?_
  refine wp_aload_n dX1_wantShares_17 rfl ?_
  obtain ⟨v1, e2, h⟩ := bnd h
  refine wp_getI (c := 8) (k := 5) dX1_wantShares_18 e2 (by decide) (by decide) rfl fl_RX1_195 ?_
  refine wp_icmp_ge (tgt := 46) dX1_wantShares_21 (by decide) (fun hc_ => ?_) (fun hc_ => ?_)
  · replace h := ite_t hc_ h
    cases h
    exact wp_ls (lsN (lsS (lsS (lsS (lsS (lsS (lsN (lsN (lsN lsZ))))))))) (he0 q.1 rfl)
  · replace h := ite_f hc_ h
    refine wp_iload dX1_wantShares_24 rfl ?_
    refine wp_aload dX1_wantShares_26 rfl ?_
    obtain ⟨v3, e4, h⟩ := bnd h
    refine wp_getR (c := 5) (k := 3) dX1_wantShares_28 e4 (by decide) (by decide) rfl fl_RX1_198 ?_
    refine wp_iload dX1_wantShares_31 rfl ?_
    obtain ⟨v5, e6, h⟩ := bnd h
    refine wp_aaload (t := 7) dX1_wantShares_33 (by decide) rfl e6 ?_
    obtain ⟨v7, e8, h⟩ := bnd h
    refine wp_getI (c := 0) (k := 2) dX1_wantShares_34 e8 (by decide) (by decide) rfl fl_RX1_213 ?_
    refine wp_iadd dX1_wantShares_37 ?_
    refine wp_istore dX1_wantShares_38 (Nat.le_of_ble_eq_true rfl) ?_
    refine wp_iinc (v := q.2 + 1) dX1_wantShares_40 rfl rfl ?_
    refine wp_goto (tgt := 15) dX1_wantShares_43 (by decide) ?_
    cases h
    exact wp_ls (lsN (lsS (lsS (lsS (lsS (lsS (lsS (lsN (lsN lsZ))))))))) (hc (q.1 + v7, q.2 + 1) rfl)

theorem X1_wantShares_B15_lp {w : Gw} {d : Nat} {x1 : Nat} {x2 : Nat} {x3 : Int32} {x4 : Nat} {M : Gm} {o : Go} {M' : Gm} {r : Int32} : ∀ (n : Nat) (q : Int32 × Int32), lp (X1_wantShares_B15 x1 x2 x3 x4 M) n q = some r → (∀ t : Int32, r = t → Wp w mdX1_wantShares (d + 2) 46 [none, some (.inr x1), some (.inr x2), some (.inl x3), some (.inr x4), some (.inl t), none, none, none] [] M o M') → Wp w mdX1_wantShares (d + 2) 15 [none, some (.inr x1), some (.inr x2), some (.inl x3), some (.inr x4), some (.inl q.1), some (.inl q.2), none, none] [] M o M' := by
  intro n
  induction n with
  | zero => intro q h; cases h
  | succ n ih =>
    intro q h he0
    cases hb : X1_wantShares_B15 x1 x2 x3 x4 M q with
    | none => rw [lp_succ, hb] at h; cases h
    | some out =>
      rw [lp_succ, hb] at h
      exact X1_wantShares_B15_ok hb (fun t e => ih t (by rw [e] at h; exact h) he0) (fun t e => he0 t (by rw [e] at h; cases h; rfl))
theorem X1_wantShares_B55_ok {w : Gw} {d : Nat} {x1 : Nat} {x2 : Nat} {x3 : Int32} {x4 : Nat} {x5 : Int32} {q : Int32 × Int32 × Gm} {o : Go} {M' : Gm} {out : (Int32 × Int32 × Gm) ⊕ (Int32 × Gm)} (h : X1_wantShares_B55 x1 x2 x3 x4 x5 q = some out) (hc : ∀ t : Int32 × Int32 × Gm, out = .inl t → Wp w mdX1_wantShares (d + 2) 55 [none, some (.inr x1), some (.inr x2), some (.inl x3), some (.inr x4), some (.inl x5), some (.inl t.1), some (.inl t.2.1), none] [] t.2.2 o M') (he0 : ∀ t : Int32 × Gm, out = .inr t → Wp w mdX1_wantShares (d + 2) 134 [none, some (.inr x1), some (.inr x2), none, some (.inr x4), none, some (.inl t.1), none, none] [] t.2 o M') : Wp w mdX1_wantShares (d + 2) 55 [none, some (.inr x1), some (.inr x2), some (.inl x3), some (.inr x4), some (.inl x5), some (.inl q.1), some (.inl q.2.1), none] [] q.2.2 o M' := by
  unfold X1_wantShares_B55 at h
  refine wp_iload dX1_wantShares_55 rfl ?_
  refine wp_aload_n dX1_wantShares_57 rfl ?_
  obtain ⟨v1, e2, h⟩ := bnd h
  refine wp_getI (c := 8) (k := 5) dX1_wantShares_58 e2 (by decide) (by decide) rfl fl_RX1_195 ?_
  refine wp_icmp_ge (tgt := 134) dX1_wantShares_61 (by decide) (fun hc_ => ?_) (fun hc_ => ?_)
  · replace h := ite_t hc_ h
    cases h
    exact wp_ls (lsN (lsS (lsS (lsN (lsS (lsN (lsS (lsN (lsN lsZ))))))))) (he0 (q.1, q.2.2) rfl)
  · replace h := ite_f hc_ h
    refine wp_iload_n dX1_wantShares_64 rfl ?_
    refine wp_aload dX1_wantShares_65 rfl ?_
    obtain ⟨v3, e4, h⟩ := bnd h
    refine wp_getR (c := 5) (k := 3) dX1_wantShares_67 e4 (by decide) (by decide) rfl fl_RX1_198 ?_
    refine wp_iload dX1_wantShares_70 rfl ?_
    obtain ⟨v5, e6, h⟩ := bnd h
    refine wp_aaload (t := 7) dX1_wantShares_72 (by decide) rfl e6 ?_
    obtain ⟨v7, e8, h⟩ := bnd h
    refine wp_getI (c := 0) (k := 2) dX1_wantShares_73 e8 (by decide) (by decide) rfl fl_RX1_213 ?_
    refine wp_imul dX1_wantShares_76 ?_
    refine wp_iload dX1_wantShares_77 rfl ?_
    obtain ⟨q9, e10, h⟩ := bnd h
    refine wp_callSN (As := [.inl (x3 * v7), .inl x5]) dX1_wantShares_79 (sh_X11_quotient_ok (d := d) e10) okX11_quotient nnX11_quotient ssX11_quotient nl_RX1_65 rfl (Nat.le_of_ble_eq_true rfl) ?_
    refine wp_istore dX1_wantShares_82 (Nat.le_of_ble_eq_true rfl) ?_
    refine wp_aload_n dX1_wantShares_84 rfl ?_
    obtain ⟨v11, e12, h⟩ := bnd h
    refine wp_getR (c := 7) (k := 15) dX1_wantShares_85 e12 (by decide) (by decide) rfl fl_RX1_210 ?_
    refine wp_iload dX1_wantShares_88 rfl ?_
    refine wp_iload dX1_wantShares_90 rfl ?_
    refine wp_aload dX1_wantShares_92 rfl ?_
    obtain ⟨v13, e14, h⟩ := bnd h
    refine wp_getR (c := 5) (k := 2) dX1_wantShares_94 e14 (by decide) (by decide) rfl fl_RX1_72 ?_
    refine wp_aload dX1_wantShares_97 rfl ?_
    obtain ⟨v15, e16, h⟩ := bnd h
    refine wp_getR (c := 5) (k := 3) dX1_wantShares_99 e16 (by decide) (by decide) rfl fl_RX1_198 ?_
    refine wp_iload dX1_wantShares_102 rfl ?_
    obtain ⟨v17, e18, h⟩ := bnd h
    refine wp_aaload (t := 7) dX1_wantShares_104 (by decide) rfl e18 ?_
    obtain ⟨v19, e20, h⟩ := bnd h
    refine wp_getI (c := 0) (k := 1) dX1_wantShares_105 e20 (by decide) (by decide) rfl fl_RX1_202 ?_
    obtain ⟨v21, e22, h⟩ := bnd h
    refine wp_aaload (t := 6) dX1_wantShares_108 (by decide) rfl e22 ?_
    obtain ⟨v23, e24, h⟩ := bnd h
    refine wp_getI (c := 2) (k := 2) dX1_wantShares_109 e24 (by decide) (by decide) rfl fl_RX1_207 ?_
    obtain ⟨q25, e26, h⟩ := bnd h
    refine wp_callS (As := [.inl q9, .inl v23]) dX1_wantShares_112 (sh_J9_min_7cf53_ok (d := d + 1) e26) okJ9_min_7cf53 nnJ9_min_7cf53 ssJ9_min_7cf53 ml_RX1_216 rfl (Nat.le_of_ble_eq_true rfl) ?_
    obtain ⟨M27, e28, h⟩ := bnd h
    refine wp_iastore dX1_wantShares_115 e28 ?_
    refine wp_iload dX1_wantShares_116 rfl ?_
    refine wp_aload_n dX1_wantShares_118 rfl ?_
    obtain ⟨v29, e30, h⟩ := bnd h
    refine wp_getR (c := 7) (k := 15) dX1_wantShares_119 e30 (by decide) (by decide) rfl fl_RX1_210 ?_
    refine wp_iload dX1_wantShares_122 rfl ?_
    obtain ⟨v31, e32, h⟩ := bnd h
    refine wp_iaload dX1_wantShares_124 e32 ?_
    refine wp_isub dX1_wantShares_125 ?_
    refine wp_istore dX1_wantShares_126 (Nat.le_of_ble_eq_true rfl) ?_
    refine wp_iinc (v := q.2.1 + 1) dX1_wantShares_128 rfl rfl ?_
    refine wp_goto (tgt := 55) dX1_wantShares_131 (by decide) ?_
    cases h
    exact wp_ls (lsN (lsS (lsS (lsS (lsS (lsS (lsS (lsS (lsN lsZ))))))))) (hc (q.1 - v31, q.2.1 + 1, M27) rfl)

theorem X1_wantShares_B55_lp {w : Gw} {d : Nat} {x1 : Nat} {x2 : Nat} {x3 : Int32} {x4 : Nat} {x5 : Int32} {o : Go} {M' : Gm} {r : (Int32 × Gm)} : ∀ (n : Nat) (q : Int32 × Int32 × Gm), lp (X1_wantShares_B55 x1 x2 x3 x4 x5) n q = some r → (∀ t : Int32 × Gm, r = t → Wp w mdX1_wantShares (d + 2) 134 [none, some (.inr x1), some (.inr x2), none, some (.inr x4), none, some (.inl t.1), none, none] [] t.2 o M') → Wp w mdX1_wantShares (d + 2) 55 [none, some (.inr x1), some (.inr x2), some (.inl x3), some (.inr x4), some (.inl x5), some (.inl q.1), some (.inl q.2.1), none] [] q.2.2 o M' := by
  intro n
  induction n with
  | zero => intro q h; cases h
  | succ n ih =>
    intro q h he0
    cases hb : X1_wantShares_B55 x1 x2 x3 x4 x5 q with
    | none => rw [lp_succ, hb] at h; cases h
    | some out =>
      rw [lp_succ, hb] at h
      exact X1_wantShares_B55_ok hb (fun t e => ih t (by rw [e] at h; exact h) he0) (fun t e => he0 t (by rw [e] at h; cases h; rfl))
theorem X1_wantShares_J213_ok {w : Gw} {d : Nat} {x1 : Nat} {x2 : Nat} {x4 : Nat} {x6 : Int32} {x7 : Int32} {x8 : Int32} {M : Gm} {o : Go} {M' : Gm} {out : (Int32 × Int32 × Gm) ⊕ (Int32 × Gm)} (h : X1_wantShares_J213 x1 x2 x4 x6 x7 x8 M = some out) (hc : ∀ t : Int32 × Int32 × Gm, out = .inl t → Wp w mdX1_wantShares (d + 2) 155 [none, some (.inr x1), some (.inr x2), none, some (.inr x4), none, some (.inl t.1), some (.inl x7), some (.inl t.2.1)] [] t.2.2 o M') (he0 : ∀ t : Int32 × Gm, out = .inr t → Wp w mdX1_wantShares (d + 2) 219 [none, some (.inr x1), some (.inr x2), none, some (.inr x4), none, some (.inl t.1), some (.inl x7), none] [] t.2 o M') : Wp w mdX1_wantShares (d + 2) 213 [none, some (.inr x1), some (.inr x2), none, some (.inr x4), none, some (.inl x6), some (.inl x7), some (.inl x8)] [] M o M' := by
  unfold X1_wantShares_J213 at h
  refine wp_iinc (v := x8 + 1) dX1_wantShares_213 rfl rfl ?_
  refine wp_goto (tgt := 155) dX1_wantShares_216 (by decide) ?_
  cases h
  exact wp_ls (lsN (lsS (lsS (lsN (lsS (lsN (lsS (lsS (lsS lsZ))))))))) (hc (x6, x8 + 1, M) rfl)

theorem X1_wantShares_B155_ok {w : Gw} {d : Nat} {x1 : Nat} {x2 : Nat} {x4 : Nat} {x7 : Int32} {q : Int32 × Int32 × Gm} {o : Go} {M' : Gm} {out : (Int32 × Int32 × Gm) ⊕ (Int32 × Gm)} (h : X1_wantShares_B155 x1 x2 x4 x7 q = some out) (hc : ∀ t : Int32 × Int32 × Gm, out = .inl t → Wp w mdX1_wantShares (d + 2) 155 [none, some (.inr x1), some (.inr x2), none, some (.inr x4), none, some (.inl t.1), some (.inl x7), some (.inl t.2.1)] [] t.2.2 o M') (he0 : ∀ t : Int32 × Gm, out = .inr t → Wp w mdX1_wantShares (d + 2) 219 [none, some (.inr x1), some (.inr x2), none, some (.inr x4), none, some (.inl t.1), some (.inl x7), none] [] t.2 o M') : Wp w mdX1_wantShares (d + 2) 155 [none, some (.inr x1), some (.inr x2), none, some (.inr x4), none, some (.inl q.1), some (.inl x7), some (.inl q.2.1)] [] q.2.2 o M' := by
  unfold X1_wantShares_B155 at h
  refine wp_iload dX1_wantShares_155 rfl ?_
  refine wp_aload_n dX1_wantShares_157 rfl ?_
  obtain ⟨v1, e2, h⟩ := bnd h
  refine wp_getI (c := 8) (k := 5) dX1_wantShares_158 e2 (by decide) (by decide) rfl fl_RX1_195 ?_
  refine wp_icmp_ge (tgt := 219) dX1_wantShares_161 (by decide) (fun hc_ => ?_) (fun hc_ => ?_)
  · replace h := ite_t hc_ h
    cases h
    exact wp_ls (lsN (lsS (lsS (lsN (lsS (lsN (lsS (lsS (lsN lsZ))))))))) (he0 (q.1, q.2.2) rfl)
  · replace h := ite_f hc_ h
    refine wp_iload dX1_wantShares_164 rfl ?_
    refine wp_if_le (tgt := 219) dX1_wantShares_166 (by decide) (fun hc_ => ?_) (fun hc_ => ?_)
    · replace h := ite_t hc_ h
      cases h
      exact wp_ls (lsN (lsS (lsS (lsN (lsS (lsN (lsS (lsS (lsN lsZ))))))))) (he0 (q.1, q.2.2) rfl)
    · replace h := ite_f hc_ h
      refine wp_aload_n dX1_wantShares_169 rfl ?_
      obtain ⟨v3, e4, h⟩ := bnd h
      refine wp_getR (c := 7) (k := 15) dX1_wantShares_170 e4 (by decide) (by decide) rfl fl_RX1_210 ?_
      refine wp_iload dX1_wantShares_173 rfl ?_
      obtain ⟨v5, e6, h⟩ := bnd h
      refine wp_iaload dX1_wantShares_175 e6 ?_
      refine wp_aload dX1_wantShares_176 rfl ?_
      obtain ⟨v7, e8, h⟩ := bnd h
      refine wp_getR (c := 5) (k := 2) dX1_wantShares_178 e8 (by decide) (by decide) rfl fl_RX1_72 ?_
      refine wp_aload dX1_wantShares_181 rfl ?_
      obtain ⟨v9, e10, h⟩ := bnd h
      refine wp_getR (c := 5) (k := 3) dX1_wantShares_183 e10 (by decide) (by decide) rfl fl_RX1_198 ?_
      refine wp_iload dX1_wantShares_186 rfl ?_
      obtain ⟨v11, e12, h⟩ := bnd h
      refine wp_aaload (t := 7) dX1_wantShares_188 (by decide) rfl e12 ?_
      obtain ⟨v13, e14, h⟩ := bnd h
      refine wp_getI (c := 0) (k := 1) dX1_wantShares_189 e14 (by decide) (by decide) rfl fl_RX1_202 ?_
      obtain ⟨v15, e16, h⟩ := bnd h
      refine wp_aaload (t := 6) dX1_wantShares_192 (by decide) rfl e16 ?_
      obtain ⟨v17, e18, h⟩ := bnd h
      refine wp_getI (c := 2) (k := 2) dX1_wantShares_193 e18 (by decide) (by decide) rfl fl_RX1_207 ?_
      refine wp_icmp_ge (tgt := 213) dX1_wantShares_196 (by decide) (fun hc_ => ?_) (fun hc_ => ?_)
      · replace h := ite_t hc_ h
        exact wp_ls (lsN (lsS (lsS (lsN (lsS (lsN (lsS (lsS (lsS lsZ))))))))) (X1_wantShares_J213_ok h hc he0)
      · replace h := ite_f hc_ h
        refine wp_aload_n dX1_wantShares_199 rfl ?_
        obtain ⟨v19, e20, h⟩ := bnd h
        refine wp_getR (c := 7) (k := 15) dX1_wantShares_200 e20 (by decide) (by decide) rfl fl_RX1_210 ?_
        refine wp_iload dX1_wantShares_203 rfl ?_
        refine wp_dup2 dX1_wantShares_205 ?_
        obtain ⟨v21, e22, h⟩ := bnd h
        refine wp_iaload dX1_wantShares_206 e22 ?_
        refine wp_iconst (v := 1) dX1_wantShares_207 (by decide) ?_
        refine wp_iadd dX1_wantShares_208 ?_
        obtain ⟨M23, e24, h⟩ := bnd h
        refine wp_iastore dX1_wantShares_209 e24 ?_
        refine wp_iinc (v := q.1 + (-1)) dX1_wantShares_210 rfl rfl ?_
        exact wp_ls (lsN (lsS (lsS (lsN (lsS (lsN (lsS (lsS (lsS lsZ))))))))) (X1_wantShares_J213_ok h hc he0)

theorem X1_wantShares_B155_lp {w : Gw} {d : Nat} {x1 : Nat} {x2 : Nat} {x4 : Nat} {x7 : Int32} {o : Go} {M' : Gm} {r : (Int32 × Gm)} : ∀ (n : Nat) (q : Int32 × Int32 × Gm), lp (X1_wantShares_B155 x1 x2 x4 x7) n q = some r → (∀ t : Int32 × Gm, r = t → Wp w mdX1_wantShares (d + 2) 219 [none, some (.inr x1), some (.inr x2), none, some (.inr x4), none, some (.inl t.1), some (.inl x7), none] [] t.2 o M') → Wp w mdX1_wantShares (d + 2) 155 [none, some (.inr x1), some (.inr x2), none, some (.inr x4), none, some (.inl q.1), some (.inl x7), some (.inl q.2.1)] [] q.2.2 o M' := by
  intro n
  induction n with
  | zero => intro q h; cases h
  | succ n ih =>
    intro q h he0
    cases hb : X1_wantShares_B155 x1 x2 x4 x7 q with
    | none => rw [lp_succ, hb] at h; cases h
    | some out =>
      rw [lp_succ, hb] at h
      exact X1_wantShares_B155_ok hb (fun t e => ih t (by rw [e] at h; exact h) he0) (fun t e => he0 t (by rw [e] at h; cases h; rfl))
theorem X1_wantShares_J219_ok {w : Gw} {d : Nat} {x1 : Nat} {x2 : Nat} {x4 : Nat} {x6 : Int32} {x7 : Int32} {M : Gm} {o : Go} {M' : Gm} {out : (Int32 × Int32 × Gm) ⊕ Gm} (h : X1_wantShares_J219 x1 x2 x4 x6 x7 M = some out) (hc : ∀ t : Int32 × Int32 × Gm, out = .inl t → Wp w mdX1_wantShares (d + 2) 137 [none, some (.inr x1), some (.inr x2), none, some (.inr x4), none, some (.inl t.1), some (.inl t.2.1), none] [] t.2.2 o M') (he0 : ∀ t : Gm, out = .inr t → Wp w mdX1_wantShares (d + 2) 225 [none, none, none, none, none, none, none, none, none] [] t o M') : Wp w mdX1_wantShares (d + 2) 219 [none, some (.inr x1), some (.inr x2), none, some (.inr x4), none, some (.inl x6), some (.inl x7), none] [] M o M' := by
  unfold X1_wantShares_J219 at h
  refine wp_iinc (v := x7 + 1) dX1_wantShares_219 rfl rfl ?_
  refine wp_goto (tgt := 137) dX1_wantShares_222 (by decide) ?_
  cases h
  exact wp_ls (lsN (lsS (lsS (lsN (lsS (lsN (lsS (lsS (lsN lsZ))))))))) (hc (x6, x7 + 1, M) rfl)

theorem X1_wantShares_B137_ok {w : Gw} {d : Nat} {x1 : Nat} {x2 : Nat} {x4 : Nat} {q : Int32 × Int32 × Gm} {o : Go} {M' : Gm} {out : (Int32 × Int32 × Gm) ⊕ Gm} (h : X1_wantShares_B137 x1 x2 x4 q = some out) (hc : ∀ t : Int32 × Int32 × Gm, out = .inl t → Wp w mdX1_wantShares (d + 2) 137 [none, some (.inr x1), some (.inr x2), none, some (.inr x4), none, some (.inl t.1), some (.inl t.2.1), none] [] t.2.2 o M') (he0 : ∀ t : Gm, out = .inr t → Wp w mdX1_wantShares (d + 2) 225 [none, none, none, none, none, none, none, none, none] [] t o M') : Wp w mdX1_wantShares (d + 2) 137 [none, some (.inr x1), some (.inr x2), none, some (.inr x4), none, some (.inl q.1), some (.inl q.2.1), none] [] q.2.2 o M' := by
  unfold X1_wantShares_B137 at h
  refine wp_iload dX1_wantShares_137 rfl ?_
  refine wp_bipush (v := 9) dX1_wantShares_139 (by decide) ?_
  refine wp_icmp_ge (tgt := 225) dX1_wantShares_141 (by decide) (fun hc_ => ?_) (fun hc_ => ?_)
  · replace h := ite_t hc_ h
    cases h
    exact wp_ls (lsN (lsN (lsN (lsN (lsN (lsN (lsN (lsN (lsN lsZ))))))))) (he0 q.2.2 rfl)
  · replace h := ite_f hc_ h
    refine wp_iload dX1_wantShares_144 rfl ?_
    refine wp_if_le (tgt := 225) dX1_wantShares_146 (by decide) (fun hc_ => ?_) (fun hc_ => ?_)
    · replace h := ite_t hc_ h
      cases h
      exact wp_ls (lsN (lsN (lsN (lsN (lsN (lsN (lsN (lsN (lsN lsZ))))))))) (he0 q.2.2 rfl)
    · replace h := ite_f hc_ h
      refine wp_aload_n dX1_wantShares_149 rfl ?_
      obtain ⟨v1, e2, h⟩ := bnd h
      refine wp_getI (c := 8) (k := 4) dX1_wantShares_150 e2 (by decide) (by decide) rfl fl_RX1_192 ?_
      refine wp_istore dX1_wantShares_153 (Nat.le_of_ble_eq_true rfl) ?_
      obtain ⟨r3, e4, h⟩ := bnd h
      refine wp_ls (lsN (lsS (lsS (lsN (lsS (lsN (lsS (lsS (lsS lsZ))))))))) (X1_wantShares_B155_lp FU _ e4 ?_)
      intro t_ ht_; cases ht_
      exact wp_ls (lsN (lsS (lsS (lsN (lsS (lsN (lsS (lsS (lsN lsZ))))))))) (X1_wantShares_J219_ok h hc he0)

theorem X1_wantShares_B137_lp {w : Gw} {d : Nat} {x1 : Nat} {x2 : Nat} {x4 : Nat} {o : Go} {M' : Gm} {r : Gm} : ∀ (n : Nat) (q : Int32 × Int32 × Gm), lp (X1_wantShares_B137 x1 x2 x4) n q = some r → (∀ t : Gm, r = t → Wp w mdX1_wantShares (d + 2) 225 [none, none, none, none, none, none, none, none, none] [] t o M') → Wp w mdX1_wantShares (d + 2) 137 [none, some (.inr x1), some (.inr x2), none, some (.inr x4), none, some (.inl q.1), some (.inl q.2.1), none] [] q.2.2 o M' := by
  intro n
  induction n with
  | zero => intro q h; cases h
  | succ n ih =>
    intro q h he0
    cases hb : X1_wantShares_B137 x1 x2 x4 q with
    | none => rw [lp_succ, hb] at h; cases h
    | some out =>
      rw [lp_succ, hb] at h
      exact X1_wantShares_B137_ok hb (fun t e => ih t (by rw [e] at h; exact h) he0) (fun t e => he0 t (by rw [e] at h; cases h; rfl))
theorem X1_wantShares_J225_ok {w : Gw} {d : Nat} {M : Gm} {out : Gm} (h : X1_wantShares_J225 M = some out) : Wp w mdX1_wantShares (d + 2) 225 [none, none, none, none, none, none, none, none, none] [] M (.inl none) out := by
  unfold X1_wantShares_J225 at h
  cases h
  exact wp_ret dX1_wantShares_225 rfl

theorem X1_wantShares_F_ok {w : Gw} {d : Nat} {x0 : Nat} {x1 : Nat} {x2 : Nat} {x3 : Int32} {M : Gm} {out : Gm} (h : X1_wantShares_F x0 x1 x2 x3 M = some out) : Wp w mdX1_wantShares (d + 2) 0 [some (.inr x0), some (.inr x1), some (.inr x2), some (.inl x3), none, none, none, none, none] [] M (.inl none) out := by
  unfold X1_wantShares_F at h
  refine wp_aload_n dX1_wantShares_0 rfl ?_
  obtain ⟨v1, e2, h⟩ := bnd h
  refine wp_getR (c := 7) (k := 0) dX1_wantShares_1 e2 (by decide) (by decide) rfl fl_RX1_43 ?_
  refine wp_astore dX1_wantShares_4 (Nat.le_of_ble_eq_true rfl) ?_
  refine wp_iconst (v := 0) dX1_wantShares_6 (by decide) ?_
  refine wp_istore dX1_wantShares_7 (Nat.le_of_ble_eq_true rfl) ?_
  refine wp_aload_n dX1_wantShares_9 rfl ?_
  obtain ⟨v3, e4, h⟩ := bnd h
  refine wp_getI (c := 8) (k := 4) dX1_wantShares_10 e4 (by decide) (by decide) rfl fl_RX1_192 ?_
  refine wp_istore dX1_wantShares_13 (Nat.le_of_ble_eq_true rfl) ?_
  obtain ⟨r5, e6, h⟩ := bnd h
  refine wp_ls (lsN (lsS (lsS (lsS (lsS (lsS (lsS (lsN (lsN lsZ))))))))) (X1_wantShares_B15_lp FU _ e6 ?_)
  intro t_ ht_; cases ht_
  refine wp_iload_n dX1_wantShares_46 rfl ?_
  refine wp_istore dX1_wantShares_47 (Nat.le_of_ble_eq_true rfl) ?_
  refine wp_aload_n dX1_wantShares_49 rfl ?_
  obtain ⟨v7, e8, h⟩ := bnd h
  refine wp_getI (c := 8) (k := 4) dX1_wantShares_50 e8 (by decide) (by decide) rfl fl_RX1_192 ?_
  refine wp_istore dX1_wantShares_53 (Nat.le_of_ble_eq_true rfl) ?_
  obtain ⟨r9, e10, h⟩ := bnd h
  refine wp_ls (lsN (lsS (lsS (lsS (lsS (lsS (lsS (lsS (lsN lsZ))))))))) (X1_wantShares_B55_lp FU _ e10 ?_)
  intro t_ ht_; cases ht_
  refine wp_iconst (v := 0) dX1_wantShares_134 (by decide) ?_
  refine wp_istore dX1_wantShares_135 (Nat.le_of_ble_eq_true rfl) ?_
  obtain ⟨r11, e12, h⟩ := bnd h
  refine wp_ls (lsN (lsS (lsS (lsN (lsS (lsN (lsS (lsS (lsN lsZ))))))))) (X1_wantShares_B137_lp FU _ e12 ?_)
  intro t_ ht_; cases ht_
  exact wp_ls (lsN (lsN (lsN (lsN (lsN (lsN (lsN (lsN (lsN lsZ))))))))) (X1_wantShares_J225_ok h)

theorem sh_X1_wantShares_ok {w : Gw} {d : Nat} {x0 : Nat} {x1 : Nat} {x2 : Nat} {x3 : Int32} {M : Gm} {out : Gm} (h : sh_X1_wantShares x0 x1 x2 x3 M = some out) : Ev w mdX1_wantShares (d + 2) [.inr x0, .inr x1, .inr x2, .inl x3] M (.inl none) out := by
  obtain ⟨u, e0, h⟩ := bnd h
  exact ev_of okX1_wantShares ⟨_, _, rfl, isO_of e0 (by decide), by decide⟩ (Nat.le_of_ble_eq_true rfl) (X1_wantShares_F_ok h)

/-! HeatGovernor$Clock.wantStep(LHeatGovernor$State;I)V -/
def X1_wantStep_B53 (x1 : Nat) (x3 : Nat) (x4 : Nat) (x6 : Int32) (q : Int32 × Gm) : Option ((Int32 × Gm) ⊕ Gm) :=
  (gfI q.2 x4 8 5).bind fun v1 =>
  if v1 ≤ q.1 then
    some (.inr q.2)
  else
    (gfR q.2 x3 5 2).bind fun v3 =>
    (gfR q.2 x3 5 3).bind fun v5 =>
    (ldR q.2 7 v5 q.1).bind fun v7 =>
    (gfI q.2 v7 0 1).bind fun v9 =>
    (ldR q.2 6 v3 v9).bind fun v11 =>
    (gfI q.2 v11 2 2).bind fun v13 =>
    (gfR q.2 x1 7 15).bind fun v15 =>
    (gfR q.2 x1 7 15).bind fun v17 =>
    (ldA q.2 0 v17 q.1).bind fun v19 =>
    (sh_X11_within (v19 + x6) 0 v13 q.2).bind fun q21 =>
    (stA q.2 0 v15 q.1 q21).bind fun M23 =>
    some (.inl (q.1 + 1, M23))
def X1_wantStep_J44 (x1 : Nat) (x3 : Nat) (x4 : Nat) (s0 : Int32) (M : Gm) : Option (Gm) :=
  (gfI M x4 8 4).bind fun v1 =>
  (lp (X1_wantStep_B53 x1 x3 x4 s0) FU (v1, M)).bind fun r3 =>
  some r3
def X1_wantStep_F (x0 : Nat) (x1 : Nat) (x2 : Int32) (M : Gm) : Option (Gm) :=
  (gfR M x1 7 0).bind fun v1 =>
  (gfR M v1 5 1).bind fun v3 =>
  (ldR M 5 v3 x2).bind fun v5 =>
  (gfR M x1 7 7).bind fun v7 =>
  (gfI M v5 8 0).bind fun v9 =>
  (ldA M 0 v7 v9).bind fun v11 =>
  (gfR M x1 7 10).bind fun v13 =>
  (ldA M 0 v13 x2).bind fun v15 =>
  if v15 = 0 then
    X1_wantStep_J44 x1 v1 v5 ((-1)) M
  else
    (sh_J6_compare_7cf53 v11 0 M).bind fun q17 =>
    X1_wantStep_J44 x1 v1 v5 q17 M
def sh_X1_wantStep (x0 : Nat) (x1 : Nat) (x2 : Int32) (M : Gm) : Option (Gm) := (isO M x0 1).bind fun _ => X1_wantStep_F x0 x1 x2 M
theorem X1_wantStep_B53_ok {w : Gw} {d : Nat} {x1 : Nat} {x3 : Nat} {x4 : Nat} {x6 : Int32} {q : Int32 × Gm} {o : Go} {M' : Gm} {out : (Int32 × Gm) ⊕ Gm} (h : X1_wantStep_B53 x1 x3 x4 x6 q = some out) (hc : ∀ t : Int32 × Gm, out = .inl t → Wp w mdX1_wantStep (d + 2) 53 [none, some (.inr x1), none, some (.inr x3), some (.inr x4), none, some (.inl x6), some (.inl t.1), none] [] t.2 o M') (he0 : ∀ t : Gm, out = .inr t → Wp w mdX1_wantStep (d + 2) 112 [none, none, none, none, none, none, none, none, none] [] t o M') : Wp w mdX1_wantStep (d + 2) 53 [none, some (.inr x1), none, some (.inr x3), some (.inr x4), none, some (.inl x6), some (.inl q.1), none] [] q.2 o M' := by
  unfold X1_wantStep_B53 at h
  refine wp_iload dX1_wantStep_53 rfl ?_
  refine wp_aload dX1_wantStep_55 rfl ?_
  obtain ⟨v1, e2, h⟩ := bnd h
  refine wp_getI (c := 8) (k := 5) dX1_wantStep_57 e2 (by decide) (by decide) rfl fl_RX1_195 ?_
  refine wp_icmp_ge (tgt := 112) dX1_wantStep_60 (by decide) (fun hc_ => ?_) (fun hc_ => ?_)
  · replace h := ite_t hc_ h
    cases h
    exact wp_ls (lsN (lsN (lsN (lsN (lsN (lsN (lsN (lsN (lsN lsZ))))))))) (he0 q.2 rfl)
  · replace h := ite_f hc_ h
    refine wp_aload_n dX1_wantStep_63 rfl ?_
    obtain ⟨v3, e4, h⟩ := bnd h
    refine wp_getR (c := 5) (k := 2) dX1_wantStep_64 e4 (by decide) (by decide) rfl fl_RX1_72 ?_
    refine wp_aload_n dX1_wantStep_67 rfl ?_
    obtain ⟨v5, e6, h⟩ := bnd h
    refine wp_getR (c := 5) (k := 3) dX1_wantStep_68 e6 (by decide) (by decide) rfl fl_RX1_198 ?_
    refine wp_iload dX1_wantStep_71 rfl ?_
    obtain ⟨v7, e8, h⟩ := bnd h
    refine wp_aaload (t := 7) dX1_wantStep_73 (by decide) rfl e8 ?_
    obtain ⟨v9, e10, h⟩ := bnd h
    refine wp_getI (c := 0) (k := 1) dX1_wantStep_74 e10 (by decide) (by decide) rfl fl_RX1_202 ?_
    obtain ⟨v11, e12, h⟩ := bnd h
    refine wp_aaload (t := 6) dX1_wantStep_77 (by decide) rfl e12 ?_
    obtain ⟨v13, e14, h⟩ := bnd h
    refine wp_getI (c := 2) (k := 2) dX1_wantStep_78 e14 (by decide) (by decide) rfl fl_RX1_207 ?_
    refine wp_istore dX1_wantStep_81 (Nat.le_of_ble_eq_true rfl) ?_
    refine wp_aload_n dX1_wantStep_83 rfl ?_
    obtain ⟨v15, e16, h⟩ := bnd h
    refine wp_getR (c := 7) (k := 15) dX1_wantStep_84 e16 (by decide) (by decide) rfl fl_RX1_210 ?_
    refine wp_iload dX1_wantStep_87 rfl ?_
    refine wp_aload_n dX1_wantStep_89 rfl ?_
    obtain ⟨v17, e18, h⟩ := bnd h
    refine wp_getR (c := 7) (k := 15) dX1_wantStep_90 e18 (by decide) (by decide) rfl fl_RX1_210 ?_
    refine wp_iload dX1_wantStep_93 rfl ?_
    obtain ⟨v19, e20, h⟩ := bnd h
    refine wp_iaload dX1_wantStep_95 e20 ?_
    refine wp_iload dX1_wantStep_96 rfl ?_
    refine wp_iadd dX1_wantStep_98 ?_
    refine wp_iconst (v := 0) dX1_wantStep_99 (by decide) ?_
    refine wp_iload dX1_wantStep_100 rfl ?_
    obtain ⟨q21, e22, h⟩ := bnd h
    refine wp_callSN (As := [.inl (v19 + x6), .inl 0, .inl v13]) dX1_wantStep_102 (sh_X11_within_ok (d := d) e22) okX11_within nnX11_within ssX11_within nl_RX1_105 rfl (Nat.le_of_ble_eq_true rfl) ?_
    obtain ⟨M23, e24, h⟩ := bnd h
    refine wp_iastore dX1_wantStep_105 e24 ?_
    refine wp_iinc (v := q.1 + 1) dX1_wantStep_106 rfl rfl ?_
    refine wp_goto (tgt := 53) dX1_wantStep_109 (by decide) ?_
    cases h
    exact wp_ls (lsN (lsS (lsN (lsS (lsS (lsN (lsS (lsS (lsN lsZ))))))))) (hc (q.1 + 1, M23) rfl)

theorem X1_wantStep_B53_lp {w : Gw} {d : Nat} {x1 : Nat} {x3 : Nat} {x4 : Nat} {x6 : Int32} {o : Go} {M' : Gm} {r : Gm} : ∀ (n : Nat) (q : Int32 × Gm), lp (X1_wantStep_B53 x1 x3 x4 x6) n q = some r → (∀ t : Gm, r = t → Wp w mdX1_wantStep (d + 2) 112 [none, none, none, none, none, none, none, none, none] [] t o M') → Wp w mdX1_wantStep (d + 2) 53 [none, some (.inr x1), none, some (.inr x3), some (.inr x4), none, some (.inl x6), some (.inl q.1), none] [] q.2 o M' := by
  intro n
  induction n with
  | zero => intro q h; cases h
  | succ n ih =>
    intro q h he0
    cases hb : X1_wantStep_B53 x1 x3 x4 x6 q with
    | none => rw [lp_succ, hb] at h; cases h
    | some out =>
      rw [lp_succ, hb] at h
      exact X1_wantStep_B53_ok hb (fun t e => ih t (by rw [e] at h; exact h) he0) (fun t e => he0 t (by rw [e] at h; cases h; rfl))
theorem X1_wantStep_J44_ok {w : Gw} {d : Nat} {x1 : Nat} {x3 : Nat} {x4 : Nat} {s0 : Int32} {M : Gm} {out : Gm} (h : X1_wantStep_J44 x1 x3 x4 s0 M = some out) : Wp w mdX1_wantStep (d + 2) 44 [none, some (.inr x1), none, some (.inr x3), some (.inr x4), none, none, none, none] [.inl s0] M (.inl none) out := by
  unfold X1_wantStep_J44 at h
  refine wp_istore dX1_wantStep_44 (Nat.le_of_ble_eq_true rfl) ?_
  refine wp_aload dX1_wantStep_46 rfl ?_
  obtain ⟨v1, e2, h⟩ := bnd h
  refine wp_getI (c := 8) (k := 4) dX1_wantStep_48 e2 (by decide) (by decide) rfl fl_RX1_192 ?_
  refine wp_istore dX1_wantStep_51 (Nat.le_of_ble_eq_true rfl) ?_
  obtain ⟨r3, e4, h⟩ := bnd h
  refine wp_ls (lsN (lsS (lsN (lsS (lsS (lsN (lsS (lsS (lsN lsZ))))))))) (X1_wantStep_B53_lp FU _ e4 ?_)
  intro t_ ht_; cases ht_
  cases h
  exact wp_ret dX1_wantStep_112 rfl

theorem X1_wantStep_F_ok {w : Gw} {d : Nat} {x0 : Nat} {x1 : Nat} {x2 : Int32} {M : Gm} {out : Gm} (h : X1_wantStep_F x0 x1 x2 M = some out) : Wp w mdX1_wantStep (d + 2) 0 [some (.inr x0), some (.inr x1), some (.inl x2), none, none, none, none, none, none] [] M (.inl none) out := by
  unfold X1_wantStep_F at h
  refine wp_aload_n dX1_wantStep_0 rfl ?_
  obtain ⟨v1, e2, h⟩ := bnd h
  refine wp_getR (c := 7) (k := 0) dX1_wantStep_1 e2 (by decide) (by decide) rfl fl_RX1_43 ?_
  refine wp_astore_n dX1_wantStep_4 (Nat.le_of_ble_eq_true rfl) ?_
  refine wp_aload_n dX1_wantStep_5 rfl ?_
  obtain ⟨v3, e4, h⟩ := bnd h
  refine wp_getR (c := 5) (k := 1) dX1_wantStep_6 e4 (by decide) (by decide) rfl fl_RX1_149 ?_
  refine wp_iload_n dX1_wantStep_9 rfl ?_
  obtain ⟨v5, e6, h⟩ := bnd h
  refine wp_aaload (t := 5) dX1_wantStep_10 (by decide) rfl e6 ?_
  refine wp_astore dX1_wantStep_11 (Nat.le_of_ble_eq_true rfl) ?_
  refine wp_aload_n dX1_wantStep_13 rfl ?_
  obtain ⟨v7, e8, h⟩ := bnd h
  refine wp_getR (c := 7) (k := 7) dX1_wantStep_14 e8 (by decide) (by decide) rfl fl_RX1_119 ?_
  refine wp_aload dX1_wantStep_17 rfl ?_
  obtain ⟨v9, e10, h⟩ := bnd h
  refine wp_getI (c := 8) (k := 0) dX1_wantStep_19 e10 (by decide) (by decide) rfl fl_RX1_153 ?_
  obtain ⟨v11, e12, h⟩ := bnd h
  refine wp_iaload dX1_wantStep_22 e12 ?_
  refine wp_istore dX1_wantStep_23 (Nat.le_of_ble_eq_true rfl) ?_
  refine wp_aload_n dX1_wantStep_25 rfl ?_
  obtain ⟨v13, e14, h⟩ := bnd h
  refine wp_getR (c := 7) (k := 10) dX1_wantStep_26 e14 (by decide) (by decide) rfl fl_RX1_156 ?_
  refine wp_iload_n dX1_wantStep_29 rfl ?_
  obtain ⟨v15, e16, h⟩ := bnd h
  refine wp_iaload dX1_wantStep_30 e16 ?_
  refine wp_if_ne (tgt := 38) dX1_wantStep_31 (by decide) (fun hc_ => ?_) (fun hc_ => ?_)
  · replace h := ite_f hc_ h
    refine wp_iload dX1_wantStep_38 rfl ?_
    refine wp_iconst (v := 0) dX1_wantStep_40 (by decide) ?_
    obtain ⟨q17, e18, h⟩ := bnd h
    refine wp_callS (As := [.inl v11, .inl 0]) dX1_wantStep_41 (sh_J6_compare_7cf53_ok (d := d + 1) e18) okJ6_compare_7cf53 nnJ6_compare_7cf53 ssJ6_compare_7cf53 ml_RX1_187 rfl (Nat.le_of_ble_eq_true rfl) ?_
    exact wp_ls (lsN (lsS (lsN (lsS (lsS (lsN (lsN (lsN (lsN lsZ))))))))) (X1_wantStep_J44_ok h)
  · replace h := ite_t hc_ h
    refine wp_iconst (v := (-1)) dX1_wantStep_34 (by decide) ?_
    refine wp_goto (tgt := 44) dX1_wantStep_35 (by decide) ?_
    exact wp_ls (lsN (lsS (lsN (lsS (lsS (lsN (lsN (lsN (lsN lsZ))))))))) (X1_wantStep_J44_ok h)

theorem sh_X1_wantStep_ok {w : Gw} {d : Nat} {x0 : Nat} {x1 : Nat} {x2 : Int32} {M : Gm} {out : Gm} (h : sh_X1_wantStep x0 x1 x2 M = some out) : Ev w mdX1_wantStep (d + 2) [.inr x0, .inr x1, .inl x2] M (.inl none) out := by
  obtain ⟨u, e0, h⟩ := bnd h
  exact ev_of okX1_wantStep ⟨_, _, rfl, isO_of e0 (by decide), by decide⟩ (Nat.le_of_ble_eq_true rfl) (X1_wantStep_F_ok h)
