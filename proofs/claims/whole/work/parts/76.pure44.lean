/-! ===== PURE 44: zone, trip, device ===== -/
section
variable {M : Gm} {P D k : Nat} {N T : Nat → Int32}
theorem zone_v (w : Wd M P T) (s : Sd M 263 P N T k) (o : ObK M P D) (mk : MmK M 257) {z m : Nat} (hz : z < tz T) (hm : m < 11) : ∃ v, sh_X11_zone 64 (Int32.ofNat z) (Int32.ofNat m) M = some (.inl v) ∧ ∀ M1, Rf M1 T N k → sh_X12_zone 319 (Int32.ofNat z) (Int32.ofNat m) M1 = some (v, sI M1 319 4 0) := by
  obtain ⟨hM, -, -, hP, -, hT, pv⟩ := id w
  obtain ⟨hS, -, sv, hN, hL⟩ := id s
  have h5 := hT.z.2
  have h10 := hT.t.2
  have h6 := hT.d.2
  have v1 : vl (Int32.ofNat z) (tz T) := ⟨z, hz, rfl⟩
  have i4 : ∀ M1 : Gm, (sI M1 319 4 0).1 325 = M1.1 325 := fun M1 => sI_ne _ _ _ (by decide)
  have i5 : ∀ M1 : Gm, (sI M1 319 4 0).1 324 = M1.1 324 := fun M1 => sI_ne _ _ _ (by decide)
  match m, hm with
  | 0, _ =>
    refine ⟨N z, ?_, fun M1 r => ?_⟩
    · unfold sh_X11_zone X11_zone_F X11_zone_J146
      rw [o_O hM, bs, c_needZone_y w o v1, bs, Sum.elim_inl, o_mem hM o, bs, mm_now hM mk, bs, if_pos (by decide)]
      simp (disch := omega) only [o_plan hM o, s_heat hS, sl1 hS, s_temp hS, sl4 hS, s_slope hS, sl5 hS, s_load hS, sl2 hS, s_leak hS, sl3 hS, s_why hS, sl6 hS, p_zones hP, p_zone hP, pz_I hP, (pv.2.1 z hz).1, (pv.2.1 z hz).2, (sv.2.1 z hz).1, (sv.2.1 z hz).2.1, (sv.2.1 z hz).2.2.1, (sv.2.1 z hz).2.2.2.1, (sv.2.1 z hz).2.2.2.2.1, (sv.2.1 z hz).2.2.2.2.2, c_shutE hT s hz, c_margin w s hz, c_cooling w s, Option.bind_some]
    · obtain ⟨hM1, -, -, -, eT, eN⟩ := id r
      have hM0 : Ky (sI M1 319 4 0) := hM1.sI _ _ _
      have f4 : (sI M1 319 4 0).1 325 = T := (i4 M1).trans eT
      have f5 : (sI M1 319 4 0).1 324 = N := (i5 M1).trans eN
      unfold sh_X12_zone X12_zone_F
      rw [m_O hM1, bs, m_P hM1, bs, m_isZone hM0 hT f4, bs, bI_t v1, if_neg (by decide), if_pos (by decide)]
      try simp (disch := omega) only [m_now hM0, m_told hM0, ld324 hM0, ld325 hM0, Nat.zero_add, f4, f5, ix0, ix5, ix10, ix15, ix20, ix25, m_margin hM0 hT hN f4 f5 hz, m_cooled hM0 (show (sI M1 319 4 0).1 325 165 = Int32.ofNat (td T) by rw [f4]; exact hT.d.1) h6, Option.bind_some]
  | 1, _ =>
    refine ⟨N (20 + z), ?_, fun M1 r => ?_⟩
    · unfold sh_X11_zone X11_zone_F X11_zone_J146
      rw [o_O hM, bs, c_needZone_y w o v1, bs, Sum.elim_inl, o_mem hM o, bs, mm_now hM mk, bs, if_neg (by decide), if_pos (by decide)]
      simp (disch := omega) only [o_plan hM o, s_heat hS, sl1 hS, s_temp hS, sl4 hS, s_slope hS, sl5 hS, s_load hS, sl2 hS, s_leak hS, sl3 hS, s_why hS, sl6 hS, p_zones hP, p_zone hP, pz_I hP, (pv.2.1 z hz).1, (pv.2.1 z hz).2, (sv.2.1 z hz).1, (sv.2.1 z hz).2.1, (sv.2.1 z hz).2.2.1, (sv.2.1 z hz).2.2.2.1, (sv.2.1 z hz).2.2.2.2.1, (sv.2.1 z hz).2.2.2.2.2, c_shutE hT s hz, c_margin w s hz, c_cooling w s, Option.bind_some]
    · obtain ⟨hM1, -, -, -, eT, eN⟩ := id r
      have hM0 : Ky (sI M1 319 4 0) := hM1.sI _ _ _
      have f4 : (sI M1 319 4 0).1 325 = T := (i4 M1).trans eT
      have f5 : (sI M1 319 4 0).1 324 = N := (i5 M1).trans eN
      unfold sh_X12_zone X12_zone_F
      rw [m_O hM1, bs, m_P hM1, bs, m_isZone hM0 hT f4, bs, bI_t v1, if_neg (by decide), if_neg (by decide), if_pos (by decide)]
      try simp (disch := omega) only [m_now hM0, m_told hM0, ld324 hM0, ld325 hM0, Nat.zero_add, f4, f5, ix0, ix5, ix10, ix15, ix20, ix25, m_margin hM0 hT hN f4 f5 hz, m_cooled hM0 (show (sI M1 319 4 0).1 325 165 = Int32.ofNat (td T) by rw [f4]; exact hT.d.1) h6, Option.bind_some]
  | 2, _ =>
    refine ⟨N (25 + z), ?_, fun M1 r => ?_⟩
    · unfold sh_X11_zone X11_zone_F X11_zone_J146
      rw [o_O hM, bs, c_needZone_y w o v1, bs, Sum.elim_inl, o_mem hM o, bs, mm_now hM mk, bs, if_neg (by decide), if_neg (by decide), if_pos (by decide)]
      simp (disch := omega) only [o_plan hM o, s_heat hS, sl1 hS, s_temp hS, sl4 hS, s_slope hS, sl5 hS, s_load hS, sl2 hS, s_leak hS, sl3 hS, s_why hS, sl6 hS, p_zones hP, p_zone hP, pz_I hP, (pv.2.1 z hz).1, (pv.2.1 z hz).2, (sv.2.1 z hz).1, (sv.2.1 z hz).2.1, (sv.2.1 z hz).2.2.1, (sv.2.1 z hz).2.2.2.1, (sv.2.1 z hz).2.2.2.2.1, (sv.2.1 z hz).2.2.2.2.2, c_shutE hT s hz, c_margin w s hz, c_cooling w s, Option.bind_some]
    · obtain ⟨hM1, -, -, -, eT, eN⟩ := id r
      have hM0 : Ky (sI M1 319 4 0) := hM1.sI _ _ _
      have f4 : (sI M1 319 4 0).1 325 = T := (i4 M1).trans eT
      have f5 : (sI M1 319 4 0).1 324 = N := (i5 M1).trans eN
      unfold sh_X12_zone X12_zone_F
      rw [m_O hM1, bs, m_P hM1, bs, m_isZone hM0 hT f4, bs, bI_t v1, if_neg (by decide), if_neg (by decide), if_neg (by decide), if_pos (by decide)]
      try simp (disch := omega) only [m_now hM0, m_told hM0, ld324 hM0, ld325 hM0, Nat.zero_add, f4, f5, ix0, ix5, ix10, ix15, ix20, ix25, m_margin hM0 hT hN f4 f5 hz, m_cooled hM0 (show (sI M1 319 4 0).1 325 165 = Int32.ofNat (td T) by rw [f4]; exact hT.d.1) h6, Option.bind_some]
  | 3, _ =>
    refine ⟨N (5 + z), ?_, fun M1 r => ?_⟩
    · unfold sh_X11_zone X11_zone_F X11_zone_J146
      rw [o_O hM, bs, c_needZone_y w o v1, bs, Sum.elim_inl, o_mem hM o, bs, mm_now hM mk, bs, if_neg (by decide), if_neg (by decide), if_neg (by decide), if_pos (by decide)]
      simp (disch := omega) only [o_plan hM o, s_heat hS, sl1 hS, s_temp hS, sl4 hS, s_slope hS, sl5 hS, s_load hS, sl2 hS, s_leak hS, sl3 hS, s_why hS, sl6 hS, p_zones hP, p_zone hP, pz_I hP, (pv.2.1 z hz).1, (pv.2.1 z hz).2, (sv.2.1 z hz).1, (sv.2.1 z hz).2.1, (sv.2.1 z hz).2.2.1, (sv.2.1 z hz).2.2.2.1, (sv.2.1 z hz).2.2.2.2.1, (sv.2.1 z hz).2.2.2.2.2, c_shutE hT s hz, c_margin w s hz, c_cooling w s, Option.bind_some]
    · obtain ⟨hM1, -, -, -, eT, eN⟩ := id r
      have hM0 : Ky (sI M1 319 4 0) := hM1.sI _ _ _
      have f4 : (sI M1 319 4 0).1 325 = T := (i4 M1).trans eT
      have f5 : (sI M1 319 4 0).1 324 = N := (i5 M1).trans eN
      unfold sh_X12_zone X12_zone_F
      rw [m_O hM1, bs, m_P hM1, bs, m_isZone hM0 hT f4, bs, bI_t v1, if_neg (by decide), if_neg (by decide), if_neg (by decide), if_neg (by decide), if_pos (by decide)]
      try simp (disch := omega) only [m_now hM0, m_told hM0, ld324 hM0, ld325 hM0, Nat.zero_add, f4, f5, ix0, ix5, ix10, ix15, ix20, ix25, m_margin hM0 hT hN f4 f5 hz, m_cooled hM0 (show (sI M1 319 4 0).1 325 165 = Int32.ofNat (td T) by rw [f4]; exact hT.d.1) h6, Option.bind_some]
  | 4, _ =>
    refine ⟨T z, ?_, fun M1 r => ?_⟩
    · unfold sh_X11_zone X11_zone_F X11_zone_J146
      rw [o_O hM, bs, c_needZone_y w o v1, bs, Sum.elim_inl, o_mem hM o, bs, mm_now hM mk, bs, if_neg (by decide), if_neg (by decide), if_neg (by decide), if_neg (by decide), if_pos (by decide)]
      simp (disch := omega) only [o_plan hM o, s_heat hS, sl1 hS, s_temp hS, sl4 hS, s_slope hS, sl5 hS, s_load hS, sl2 hS, s_leak hS, sl3 hS, s_why hS, sl6 hS, p_zones hP, p_zone hP, pz_I hP, (pv.2.1 z hz).1, (pv.2.1 z hz).2, (sv.2.1 z hz).1, (sv.2.1 z hz).2.1, (sv.2.1 z hz).2.2.1, (sv.2.1 z hz).2.2.2.1, (sv.2.1 z hz).2.2.2.2.1, (sv.2.1 z hz).2.2.2.2.2, c_shutE hT s hz, c_margin w s hz, c_cooling w s, Option.bind_some]
    · obtain ⟨hM1, -, -, -, eT, eN⟩ := id r
      have hM0 : Ky (sI M1 319 4 0) := hM1.sI _ _ _
      have f4 : (sI M1 319 4 0).1 325 = T := (i4 M1).trans eT
      have f5 : (sI M1 319 4 0).1 324 = N := (i5 M1).trans eN
      unfold sh_X12_zone X12_zone_F
      rw [m_O hM1, bs, m_P hM1, bs, m_isZone hM0 hT f4, bs, bI_t v1, if_neg (by decide), if_neg (by decide), if_neg (by decide), if_neg (by decide), if_neg (by decide), if_pos (by decide)]
      try simp (disch := omega) only [m_now hM0, m_told hM0, ld324 hM0, ld325 hM0, Nat.zero_add, f4, f5, ix0, ix5, ix10, ix15, ix20, ix25, m_margin hM0 hT hN f4 f5 hz, m_cooled hM0 (show (sI M1 319 4 0).1 325 165 = Int32.ofNat (td T) by rw [f4]; exact hT.d.1) h6, Option.bind_some]
  | 5, _ =>
    refine ⟨T (5 + z), ?_, fun M1 r => ?_⟩
    · unfold sh_X11_zone X11_zone_F X11_zone_J146
      rw [o_O hM, bs, c_needZone_y w o v1, bs, Sum.elim_inl, o_mem hM o, bs, mm_now hM mk, bs, if_neg (by decide), if_neg (by decide), if_neg (by decide), if_neg (by decide), if_neg (by decide), if_pos (by decide)]
      simp (disch := omega) only [o_plan hM o, s_heat hS, sl1 hS, s_temp hS, sl4 hS, s_slope hS, sl5 hS, s_load hS, sl2 hS, s_leak hS, sl3 hS, s_why hS, sl6 hS, p_zones hP, p_zone hP, pz_I hP, (pv.2.1 z hz).1, (pv.2.1 z hz).2, (sv.2.1 z hz).1, (sv.2.1 z hz).2.1, (sv.2.1 z hz).2.2.1, (sv.2.1 z hz).2.2.2.1, (sv.2.1 z hz).2.2.2.2.1, (sv.2.1 z hz).2.2.2.2.2, c_shutE hT s hz, c_margin w s hz, c_cooling w s, Option.bind_some]
    · obtain ⟨hM1, -, -, -, eT, eN⟩ := id r
      have hM0 : Ky (sI M1 319 4 0) := hM1.sI _ _ _
      have f4 : (sI M1 319 4 0).1 325 = T := (i4 M1).trans eT
      have f5 : (sI M1 319 4 0).1 324 = N := (i5 M1).trans eN
      unfold sh_X12_zone X12_zone_F
      rw [m_O hM1, bs, m_P hM1, bs, m_isZone hM0 hT f4, bs, bI_t v1, if_neg (by decide), if_neg (by decide), if_neg (by decide), if_neg (by decide), if_neg (by decide), if_neg (by decide), if_pos (by decide)]
      try simp (disch := omega) only [m_now hM0, m_told hM0, ld324 hM0, ld325 hM0, Nat.zero_add, f4, f5, ix0, ix5, ix10, ix15, ix20, ix25, m_margin hM0 hT hN f4 f5 hz, m_cooled hM0 (show (sI M1 319 4 0).1 325 165 = Int32.ofNat (td T) by rw [f4]; exact hT.d.1) h6, Option.bind_some]
  | 6, _ =>
    refine ⟨T (10 + z), ?_, fun M1 r => ?_⟩
    · unfold sh_X11_zone X11_zone_F X11_zone_J146
      rw [o_O hM, bs, c_needZone_y w o v1, bs, Sum.elim_inl, o_mem hM o, bs, mm_now hM mk, bs, if_neg (by decide), if_neg (by decide), if_neg (by decide), if_neg (by decide), if_neg (by decide), if_neg (by decide), if_pos (by decide)]
      simp (disch := omega) only [o_plan hM o, s_heat hS, sl1 hS, s_temp hS, sl4 hS, s_slope hS, sl5 hS, s_load hS, sl2 hS, s_leak hS, sl3 hS, s_why hS, sl6 hS, p_zones hP, p_zone hP, pz_I hP, (pv.2.1 z hz).1, (pv.2.1 z hz).2, (sv.2.1 z hz).1, (sv.2.1 z hz).2.1, (sv.2.1 z hz).2.2.1, (sv.2.1 z hz).2.2.2.1, (sv.2.1 z hz).2.2.2.2.1, (sv.2.1 z hz).2.2.2.2.2, c_shutE hT s hz, c_margin w s hz, c_cooling w s, Option.bind_some]
    · obtain ⟨hM1, -, -, -, eT, eN⟩ := id r
      have hM0 : Ky (sI M1 319 4 0) := hM1.sI _ _ _
      have f4 : (sI M1 319 4 0).1 325 = T := (i4 M1).trans eT
      have f5 : (sI M1 319 4 0).1 324 = N := (i5 M1).trans eN
      unfold sh_X12_zone X12_zone_F
      rw [m_O hM1, bs, m_P hM1, bs, m_isZone hM0 hT f4, bs, bI_t v1, if_neg (by decide), if_neg (by decide), if_neg (by decide), if_neg (by decide), if_neg (by decide), if_neg (by decide), if_neg (by decide), if_pos (by decide)]
      try simp (disch := omega) only [m_now hM0, m_told hM0, ld324 hM0, ld325 hM0, Nat.zero_add, f4, f5, ix0, ix5, ix10, ix15, ix20, ix25, m_margin hM0 hT hN f4 f5 hz, m_cooled hM0 (show (sI M1 319 4 0).1 325 165 = Int32.ofNat (td T) by rw [f4]; exact hT.d.1) h6, Option.bind_some]
  | 7, _ =>
    refine ⟨bI (sb N z = true), ?_, fun M1 r => ?_⟩
    · unfold sh_X11_zone X11_zone_F X11_zone_J146
      rw [o_O hM, bs, c_needZone_y w o v1, bs, Sum.elim_inl, o_mem hM o, bs, mm_now hM mk, bs, if_neg (by decide), if_neg (by decide), if_neg (by decide), if_neg (by decide), if_neg (by decide), if_neg (by decide), if_neg (by decide), if_pos (by decide)]
      simp (disch := omega) only [o_plan hM o, s_heat hS, sl1 hS, s_temp hS, sl4 hS, s_slope hS, sl5 hS, s_load hS, sl2 hS, s_leak hS, sl3 hS, s_why hS, sl6 hS, p_zones hP, p_zone hP, pz_I hP, (pv.2.1 z hz).1, (pv.2.1 z hz).2, (sv.2.1 z hz).1, (sv.2.1 z hz).2.1, (sv.2.1 z hz).2.2.1, (sv.2.1 z hz).2.2.2.1, (sv.2.1 z hz).2.2.2.2.1, (sv.2.1 z hz).2.2.2.2.2, c_shutE hT s hz, c_margin w s hz, c_cooling w s, Option.bind_some]
      by_cases c : sb N z = true
      · rw [bI_t c, if_neg (by decide)]
      · rw [bI_f c, if_pos rfl]
    · obtain ⟨hM1, -, -, -, eT, eN⟩ := id r
      have hM0 : Ky (sI M1 319 4 0) := hM1.sI _ _ _
      have f4 : (sI M1 319 4 0).1 325 = T := (i4 M1).trans eT
      have f5 : (sI M1 319 4 0).1 324 = N := (i5 M1).trans eN
      unfold sh_X12_zone X12_zone_F
      rw [m_O hM1, bs, m_P hM1, bs, m_isZone hM0 hT f4, bs, bI_t v1, if_neg (by decide), if_neg (by decide), if_neg (by decide), if_neg (by decide), if_neg (by decide), if_neg (by decide), if_neg (by decide), if_neg (by decide), if_pos (by decide)]
      try simp (disch := omega) only [m_now hM0, m_told hM0, ld324 hM0, ld325 hM0, Nat.zero_add, f4, f5, ix0, ix5, ix10, ix15, ix20, ix25, m_margin hM0 hT hN f4 f5 hz, m_cooled hM0 (show (sI M1 319 4 0).1 325 165 = Int32.ofNat (td T) by rw [f4]; exact hT.d.1) h6, Option.bind_some]
      rw [hN.sh hz]
      by_cases c : sb N z = true
      · rw [bI_t c, if_pos c]
      · rw [bI_f c, if_neg c]
  | 8, _ =>
    refine ⟨N (15 + z), ?_, fun M1 r => ?_⟩
    · unfold sh_X11_zone X11_zone_F X11_zone_J146
      rw [o_O hM, bs, c_needZone_y w o v1, bs, Sum.elim_inl, o_mem hM o, bs, mm_now hM mk, bs, if_neg (by decide), if_neg (by decide), if_neg (by decide), if_neg (by decide), if_neg (by decide), if_neg (by decide), if_neg (by decide), if_neg (by decide), if_pos (by decide)]
      simp (disch := omega) only [o_plan hM o, s_heat hS, sl1 hS, s_temp hS, sl4 hS, s_slope hS, sl5 hS, s_load hS, sl2 hS, s_leak hS, sl3 hS, s_why hS, sl6 hS, p_zones hP, p_zone hP, pz_I hP, (pv.2.1 z hz).1, (pv.2.1 z hz).2, (sv.2.1 z hz).1, (sv.2.1 z hz).2.1, (sv.2.1 z hz).2.2.1, (sv.2.1 z hz).2.2.2.1, (sv.2.1 z hz).2.2.2.2.1, (sv.2.1 z hz).2.2.2.2.2, c_shutE hT s hz, c_margin w s hz, c_cooling w s, Option.bind_some]
    · obtain ⟨hM1, -, -, -, eT, eN⟩ := id r
      have hM0 : Ky (sI M1 319 4 0) := hM1.sI _ _ _
      have f4 : (sI M1 319 4 0).1 325 = T := (i4 M1).trans eT
      have f5 : (sI M1 319 4 0).1 324 = N := (i5 M1).trans eN
      unfold sh_X12_zone X12_zone_F
      rw [m_O hM1, bs, m_P hM1, bs, m_isZone hM0 hT f4, bs, bI_t v1, if_neg (by decide), if_neg (by decide), if_neg (by decide), if_neg (by decide), if_neg (by decide), if_neg (by decide), if_neg (by decide), if_neg (by decide), if_neg (by decide), if_pos (by decide)]
      try simp (disch := omega) only [m_now hM0, m_told hM0, ld324 hM0, ld325 hM0, Nat.zero_add, f4, f5, ix0, ix5, ix10, ix15, ix20, ix25, m_margin hM0 hT hN f4 f5 hz, m_cooled hM0 (show (sI M1 319 4 0).1 325 165 = Int32.ofNat (td T) by rw [f4]; exact hT.d.1) h6, Option.bind_some]
  | 9, _ =>
    refine ⟨mgR T N z (tt T), ?_, fun M1 r => ?_⟩
    · unfold sh_X11_zone X11_zone_F X11_zone_J146
      rw [o_O hM, bs, c_needZone_y w o v1, bs, Sum.elim_inl, o_mem hM o, bs, mm_now hM mk, bs, if_neg (by decide), if_neg (by decide), if_neg (by decide), if_neg (by decide), if_neg (by decide), if_neg (by decide), if_neg (by decide), if_neg (by decide), if_neg (by decide), if_pos (by decide)]
      simp (disch := omega) only [o_plan hM o, s_heat hS, sl1 hS, s_temp hS, sl4 hS, s_slope hS, sl5 hS, s_load hS, sl2 hS, s_leak hS, sl3 hS, s_why hS, sl6 hS, p_zones hP, p_zone hP, pz_I hP, (pv.2.1 z hz).1, (pv.2.1 z hz).2, (sv.2.1 z hz).1, (sv.2.1 z hz).2.1, (sv.2.1 z hz).2.2.1, (sv.2.1 z hz).2.2.2.1, (sv.2.1 z hz).2.2.2.2.1, (sv.2.1 z hz).2.2.2.2.2, c_shutE hT s hz, c_margin w s hz, c_cooling w s, Option.bind_some]
    · obtain ⟨hM1, -, -, -, eT, eN⟩ := id r
      have hM0 : Ky (sI M1 319 4 0) := hM1.sI _ _ _
      have f4 : (sI M1 319 4 0).1 325 = T := (i4 M1).trans eT
      have f5 : (sI M1 319 4 0).1 324 = N := (i5 M1).trans eN
      unfold sh_X12_zone X12_zone_F
      rw [m_O hM1, bs, m_P hM1, bs, m_isZone hM0 hT f4, bs, bI_t v1, if_neg (by decide), if_neg (by decide), if_neg (by decide), if_neg (by decide), if_neg (by decide), if_neg (by decide), if_neg (by decide), if_neg (by decide), if_neg (by decide), if_neg (by decide), if_pos (by decide)]
      try simp (disch := omega) only [m_now hM0, m_told hM0, ld324 hM0, ld325 hM0, Nat.zero_add, f4, f5, ix0, ix5, ix10, ix15, ix20, ix25, m_margin hM0 hT hN f4 f5 hz, m_cooled hM0 (show (sI M1 319 4 0).1 325 165 = Int32.ofNat (td T) by rw [f4]; exact hT.d.1) h6, Option.bind_some]
  | 10, _ =>
    refine ⟨coolTo T N (Int32.ofNat z) (td T), ?_, fun M1 r => ?_⟩
    · unfold sh_X11_zone X11_zone_F X11_zone_J146
      rw [o_O hM, bs, c_needZone_y w o v1, bs, Sum.elim_inl, o_mem hM o, bs, mm_now hM mk, bs, if_neg (by decide), if_neg (by decide), if_neg (by decide), if_neg (by decide), if_neg (by decide), if_neg (by decide), if_neg (by decide), if_neg (by decide), if_neg (by decide), if_neg (by decide), if_pos (by decide)]
      simp (disch := omega) only [o_plan hM o, s_heat hS, sl1 hS, s_temp hS, sl4 hS, s_slope hS, sl5 hS, s_load hS, sl2 hS, s_leak hS, sl3 hS, s_why hS, sl6 hS, p_zones hP, p_zone hP, pz_I hP, (pv.2.1 z hz).1, (pv.2.1 z hz).2, (sv.2.1 z hz).1, (sv.2.1 z hz).2.1, (sv.2.1 z hz).2.2.1, (sv.2.1 z hz).2.2.2.1, (sv.2.1 z hz).2.2.2.2.1, (sv.2.1 z hz).2.2.2.2.2, c_shutE hT s hz, c_margin w s hz, c_cooling w s, Option.bind_some]
    · obtain ⟨hM1, -, -, -, eT, eN⟩ := id r
      have hM0 : Ky (sI M1 319 4 0) := hM1.sI _ _ _
      have f4 : (sI M1 319 4 0).1 325 = T := (i4 M1).trans eT
      have f5 : (sI M1 319 4 0).1 324 = N := (i5 M1).trans eN
      unfold sh_X12_zone X12_zone_F
      rw [m_O hM1, bs, m_P hM1, bs, m_isZone hM0 hT f4, bs, bI_t v1, if_neg (by decide), if_neg (by decide), if_neg (by decide), if_neg (by decide), if_neg (by decide), if_neg (by decide), if_neg (by decide), if_neg (by decide), if_neg (by decide), if_neg (by decide), if_neg (by decide), if_pos (by decide)]
      try simp (disch := omega) only [m_now hM0, m_told hM0, ld324 hM0, ld325 hM0, Nat.zero_add, f4, f5, ix0, ix5, ix10, ix15, ix20, ix25, m_margin hM0 hT hN f4 f5 hz, m_cooled hM0 (show (sI M1 319 4 0).1 325 165 = Int32.ofNat (td T) by rw [f4]; exact hT.d.1) h6, Option.bind_some]
  | m + 11, h => omega
theorem a_zone {j : Nat} (h : Inv M j) (x1 x2 : Int32) : Ans (sh_L_zone 64 x1 x2 345) (sh_X12_zone 319 x1 x2) M j := by
  obtain ⟨⟨P, D, cv⟩, rm⟩ := id h
  obtain ⟨⟨o, w, -, t6⟩, ⟨mk, -, -, -, -⟩, ⟨n, c, c1, c2, c3⟩, -⟩ := id cv
  have s := c3.1
  have hM := w.1
  have hT := w.2.2.2.2.2.1
  by_cases v1 : vl x1 (tz (M.1 325))
  · by_cases v2 : vl x2 11
    · obtain ⟨z, hz, e1⟩ := id v1
      obtain ⟨m, hm, e2⟩ := v2
      subst e1 e2
      obtain ⟨u, a, b⟩ := zone_v w s o mk hz hm
      refine q_pure h cv ?_ (fun M1 r _ _ => b M1 r)
      unfold sh_L_zone L_zone_F
      simp only [a, Option.bind_some, Sum.elim_inl, st345_0 hM]
    · have n0 : ¬ x2 = 0 := vl_ne v2 (m := 0) (by omega)
      have n1 : ¬ x2 = 1 := vl_ne v2 (m := 1) (by omega)
      have n2 : ¬ x2 = 2 := vl_ne v2 (m := 2) (by omega)
      have n3 : ¬ x2 = 3 := vl_ne v2 (m := 3) (by omega)
      have n4 : ¬ x2 = 4 := vl_ne v2 (m := 4) (by omega)
      have n5 : ¬ x2 = 5 := vl_ne v2 (m := 5) (by omega)
      have n6 : ¬ x2 = 6 := vl_ne v2 (m := 6) (by omega)
      have n7 : ¬ x2 = 7 := vl_ne v2 (m := 7) (by omega)
      have n8 : ¬ x2 = 8 := vl_ne v2 (m := 8) (by omega)
      have n9 : ¬ x2 = 9 := vl_ne v2 (m := 9) (by omega)
      have n10 : ¬ x2 = 10 := vl_ne v2 (m := 10) (by omega)
      refine q_ref (e := 1) (q := 13) h cv (by decide) (Or.inl rfl) ?_ (fun M1 r => ?_)
      · unfold sh_L_zone L_zone_F sh_X11_zone X11_zone_F
        obtain ⟨z, hz, e1⟩ := id v1
        subst e1
        have h5 := hT.z.2
        have h10 := hT.t.2
        have h6 := hT.d.2
        rw [o_O hM, bs, c_needZone_y w o v1, bs, Sum.elim_inl, o_mem hM o, bs, mm_now hM mk, bs, if_neg n0, if_neg n1, if_neg n2, if_neg n3, if_neg n4, if_neg n5, if_neg n6, if_neg n7, if_neg n8, if_neg n9, if_neg n10]
        rfl
      · obtain ⟨hM1, -, -, -, eT, eN⟩ := id r
        have hM0 : Ky (sI M1 319 4 0) := hM1.sI _ _ _
        unfold sh_X12_zone X12_zone_F
        rw [m_O hM1, bs, m_P hM1, bs, m_isZone hM0 hT ((sI_ne _ _ _ (by decide)).trans eT), bs, bI_t v1, if_neg (by decide), if_neg n0, if_neg n1, if_neg n2, if_neg n3, if_neg n4, if_neg n5, if_neg n6, if_neg n7, if_neg n8, if_neg n9, if_neg n10, m_fail hM0, bs]
  · refine q_ref (e := 1) (q := 13) h cv (by decide) (Or.inl rfl) ?_ (fun M1 r => ?_)
    · unfold sh_L_zone L_zone_F sh_X11_zone X11_zone_F
      rw [o_O hM, bs, c_needZone_n w o v1, bs, Sum.elim_inr]
      rfl
    · obtain ⟨hM1, -, -, -, eT, eN⟩ := id r
      have hM0 : Ky (sI M1 319 4 0) := hM1.sI _ _ _
      unfold sh_X12_zone X12_zone_F
      rw [m_O hM1, bs, m_P hM1, bs, m_isZone hM0 hT ((sI_ne _ _ _ (by decide)).trans eT), bs, bI_f v1, if_pos rfl, m_fail hM0, bs]
theorem trip_v (w : Wd M P T) (s : Sd M 263 P N T k) (o : ObK M P D) (mk : MmK M 257) {t m : Nat} (ht : t < tt T) (hm : m < 8) : ∃ v, sh_X11_trip 64 (Int32.ofNat t) (Int32.ofNat m) M = some (.inl v) ∧ ∀ M1, Rf M1 T N k → sh_X12_trip 319 (Int32.ofNat t) (Int32.ofNat m) M1 = some (v, sI M1 319 4 0) := by
  obtain ⟨hM, -, -, hP, -, hT, pv⟩ := id w
  obtain ⟨hS, -, sv, hN, hL⟩ := id s
  have h5 := hT.z.2
  have h10 := hT.t.2
  have h6 := hT.d.2
  have v1 : vl (Int32.ofNat t) (tt T) := ⟨t, ht, rfl⟩
  have i4 : ∀ M1 : Gm, (sI M1 319 4 0).1 325 = M1.1 325 := fun M1 => sI_ne _ _ _ (by decide)
  have i5 : ∀ M1 : Gm, (sI M1 319 4 0).1 324 = M1.1 324 := fun M1 => sI_ne _ _ _ (by decide)
  match m, hm with
  | 0, _ =>
    refine ⟨T (15 + t), ?_, fun M1 r => ?_⟩
    · unfold sh_X11_trip X11_trip_F
      rw [o_O hM, bs, c_needTrip_y w o v1, bs, Sum.elim_inl, o_mem hM o, bs, mm_now hM mk, bs, o_plan hM o, bs, p_trips hP, bs, p_trip hP (by omega), bs, if_pos (by decide)]
      simp (disch := omega) only [o_plan hM o, p_trips hP, p_trip hP, pt_I hP, (pv.2.2.1 t ht).1, (pv.2.2.1 t ht).2.1, (pv.2.2.1 t ht).2.2.1, (pv.2.2.1 t ht).2.2.2.1, (pv.2.2.1 t ht).2.2.2.2.1, (pv.2.2.1 t ht).2.2.2.2.2, s_on hS, sl8 hS, s_crossed hS, sl9 hS, (sv.2.2.2.1 t ht).1, (sv.2.2.2.1 t ht).2, c_asked hS hP hT pv sv hN ht, Option.bind_some]
    · obtain ⟨hM1, -, -, -, eT, eN⟩ := id r
      have hM0 : Ky (sI M1 319 4 0) := hM1.sI _ _ _
      have f4 : (sI M1 319 4 0).1 325 = T := (i4 M1).trans eT
      have f5 : (sI M1 319 4 0).1 324 = N := (i5 M1).trans eN
      unfold sh_X12_trip X12_trip_F
      rw [m_O hM1, bs, m_P hM1, bs, m_isTrip hM0 hT f4, bs, bI_t v1, if_neg (by decide), if_pos (by decide)]
      try simp (disch := omega) only [m_now hM0, m_told hM0, ld324 hM0, ld325 hM0, Nat.zero_add, f4, f5, m_zoneOf hM0, ix25, ix35, ix45, ix50, ix60, m_bound hM0 hT f4 ht, Option.bind_some]
  | 1, _ =>
    refine ⟨T (25 + t), ?_, fun M1 r => ?_⟩
    · unfold sh_X11_trip X11_trip_F
      rw [o_O hM, bs, c_needTrip_y w o v1, bs, Sum.elim_inl, o_mem hM o, bs, mm_now hM mk, bs, o_plan hM o, bs, p_trips hP, bs, p_trip hP (by omega), bs, if_neg (by decide), if_pos (by decide)]
      simp (disch := omega) only [o_plan hM o, p_trips hP, p_trip hP, pt_I hP, (pv.2.2.1 t ht).1, (pv.2.2.1 t ht).2.1, (pv.2.2.1 t ht).2.2.1, (pv.2.2.1 t ht).2.2.2.1, (pv.2.2.1 t ht).2.2.2.2.1, (pv.2.2.1 t ht).2.2.2.2.2, s_on hS, sl8 hS, s_crossed hS, sl9 hS, (sv.2.2.2.1 t ht).1, (sv.2.2.2.1 t ht).2, c_asked hS hP hT pv sv hN ht, Option.bind_some]
    · obtain ⟨hM1, -, -, -, eT, eN⟩ := id r
      have hM0 : Ky (sI M1 319 4 0) := hM1.sI _ _ _
      have f4 : (sI M1 319 4 0).1 325 = T := (i4 M1).trans eT
      have f5 : (sI M1 319 4 0).1 324 = N := (i5 M1).trans eN
      unfold sh_X12_trip X12_trip_F
      rw [m_O hM1, bs, m_P hM1, bs, m_isTrip hM0 hT f4, bs, bI_t v1, if_neg (by decide), if_neg (by decide), if_pos (by decide)]
      try simp (disch := omega) only [m_now hM0, m_told hM0, ld324 hM0, ld325 hM0, Nat.zero_add, f4, f5, m_zoneOf hM0, ix25, ix35, ix45, ix50, ix60, m_bound hM0 hT f4 ht, Option.bind_some]
  | 2, _ =>
    refine ⟨T (35 + t), ?_, fun M1 r => ?_⟩
    · unfold sh_X11_trip X11_trip_F
      rw [o_O hM, bs, c_needTrip_y w o v1, bs, Sum.elim_inl, o_mem hM o, bs, mm_now hM mk, bs, o_plan hM o, bs, p_trips hP, bs, p_trip hP (by omega), bs, if_neg (by decide), if_neg (by decide), if_pos (by decide)]
      simp (disch := omega) only [o_plan hM o, p_trips hP, p_trip hP, pt_I hP, (pv.2.2.1 t ht).1, (pv.2.2.1 t ht).2.1, (pv.2.2.1 t ht).2.2.1, (pv.2.2.1 t ht).2.2.2.1, (pv.2.2.1 t ht).2.2.2.2.1, (pv.2.2.1 t ht).2.2.2.2.2, s_on hS, sl8 hS, s_crossed hS, sl9 hS, (sv.2.2.2.1 t ht).1, (sv.2.2.2.1 t ht).2, c_asked hS hP hT pv sv hN ht, Option.bind_some]
    · obtain ⟨hM1, -, -, -, eT, eN⟩ := id r
      have hM0 : Ky (sI M1 319 4 0) := hM1.sI _ _ _
      have f4 : (sI M1 319 4 0).1 325 = T := (i4 M1).trans eT
      have f5 : (sI M1 319 4 0).1 324 = N := (i5 M1).trans eN
      unfold sh_X12_trip X12_trip_F
      rw [m_O hM1, bs, m_P hM1, bs, m_isTrip hM0 hT f4, bs, bI_t v1, if_neg (by decide), if_neg (by decide), if_neg (by decide), if_pos (by decide)]
      try simp (disch := omega) only [m_now hM0, m_told hM0, ld324 hM0, ld325 hM0, Nat.zero_add, f4, f5, m_zoneOf hM0, ix25, ix35, ix45, ix50, ix60, m_bound hM0 hT f4 ht, Option.bind_some]
  | 3, _ =>
    refine ⟨T (45 + t), ?_, fun M1 r => ?_⟩
    · unfold sh_X11_trip X11_trip_F
      rw [o_O hM, bs, c_needTrip_y w o v1, bs, Sum.elim_inl, o_mem hM o, bs, mm_now hM mk, bs, o_plan hM o, bs, p_trips hP, bs, p_trip hP (by omega), bs, if_neg (by decide), if_neg (by decide), if_neg (by decide), if_pos (by decide)]
      simp (disch := omega) only [o_plan hM o, p_trips hP, p_trip hP, pt_I hP, (pv.2.2.1 t ht).1, (pv.2.2.1 t ht).2.1, (pv.2.2.1 t ht).2.2.1, (pv.2.2.1 t ht).2.2.2.1, (pv.2.2.1 t ht).2.2.2.2.1, (pv.2.2.1 t ht).2.2.2.2.2, s_on hS, sl8 hS, s_crossed hS, sl9 hS, (sv.2.2.2.1 t ht).1, (sv.2.2.2.1 t ht).2, c_asked hS hP hT pv sv hN ht, Option.bind_some]
    · obtain ⟨hM1, -, -, -, eT, eN⟩ := id r
      have hM0 : Ky (sI M1 319 4 0) := hM1.sI _ _ _
      have f4 : (sI M1 319 4 0).1 325 = T := (i4 M1).trans eT
      have f5 : (sI M1 319 4 0).1 324 = N := (i5 M1).trans eN
      unfold sh_X12_trip X12_trip_F
      rw [m_O hM1, bs, m_P hM1, bs, m_isTrip hM0 hT f4, bs, bI_t v1, if_neg (by decide), if_neg (by decide), if_neg (by decide), if_neg (by decide), if_pos (by decide)]
      try simp (disch := omega) only [m_now hM0, m_told hM0, ld324 hM0, ld325 hM0, Nat.zero_add, f4, f5, m_zoneOf hM0, ix25, ix35, ix45, ix50, ix60, m_bound hM0 hT f4 ht, Option.bind_some]
  | 4, _ =>
    refine ⟨N (50 + t), ?_, fun M1 r => ?_⟩
    · unfold sh_X11_trip X11_trip_F
      rw [o_O hM, bs, c_needTrip_y w o v1, bs, Sum.elim_inl, o_mem hM o, bs, mm_now hM mk, bs, o_plan hM o, bs, p_trips hP, bs, p_trip hP (by omega), bs, if_neg (by decide), if_neg (by decide), if_neg (by decide), if_neg (by decide), if_pos (by decide)]
      simp (disch := omega) only [o_plan hM o, p_trips hP, p_trip hP, pt_I hP, (pv.2.2.1 t ht).1, (pv.2.2.1 t ht).2.1, (pv.2.2.1 t ht).2.2.1, (pv.2.2.1 t ht).2.2.2.1, (pv.2.2.1 t ht).2.2.2.2.1, (pv.2.2.1 t ht).2.2.2.2.2, s_on hS, sl8 hS, s_crossed hS, sl9 hS, (sv.2.2.2.1 t ht).1, (sv.2.2.2.1 t ht).2, c_asked hS hP hT pv sv hN ht, Option.bind_some]
    · obtain ⟨hM1, -, -, -, eT, eN⟩ := id r
      have hM0 : Ky (sI M1 319 4 0) := hM1.sI _ _ _
      have f4 : (sI M1 319 4 0).1 325 = T := (i4 M1).trans eT
      have f5 : (sI M1 319 4 0).1 324 = N := (i5 M1).trans eN
      unfold sh_X12_trip X12_trip_F
      rw [m_O hM1, bs, m_P hM1, bs, m_isTrip hM0 hT f4, bs, bI_t v1, if_neg (by decide), if_neg (by decide), if_neg (by decide), if_neg (by decide), if_neg (by decide), if_pos (by decide)]
      try simp (disch := omega) only [m_now hM0, m_told hM0, ld324 hM0, ld325 hM0, Nat.zero_add, f4, f5, m_zoneOf hM0, ix25, ix35, ix45, ix50, ix60, m_bound hM0 hT f4 ht, Option.bind_some]
  | 5, _ =>
    refine ⟨N (60 + t), ?_, fun M1 r => ?_⟩
    · unfold sh_X11_trip X11_trip_F
      rw [o_O hM, bs, c_needTrip_y w o v1, bs, Sum.elim_inl, o_mem hM o, bs, mm_now hM mk, bs, o_plan hM o, bs, p_trips hP, bs, p_trip hP (by omega), bs, if_neg (by decide), if_neg (by decide), if_neg (by decide), if_neg (by decide), if_neg (by decide), if_pos (by decide)]
      simp (disch := omega) only [o_plan hM o, p_trips hP, p_trip hP, pt_I hP, (pv.2.2.1 t ht).1, (pv.2.2.1 t ht).2.1, (pv.2.2.1 t ht).2.2.1, (pv.2.2.1 t ht).2.2.2.1, (pv.2.2.1 t ht).2.2.2.2.1, (pv.2.2.1 t ht).2.2.2.2.2, s_on hS, sl8 hS, s_crossed hS, sl9 hS, (sv.2.2.2.1 t ht).1, (sv.2.2.2.1 t ht).2, c_asked hS hP hT pv sv hN ht, Option.bind_some]
    · obtain ⟨hM1, -, -, -, eT, eN⟩ := id r
      have hM0 : Ky (sI M1 319 4 0) := hM1.sI _ _ _
      have f4 : (sI M1 319 4 0).1 325 = T := (i4 M1).trans eT
      have f5 : (sI M1 319 4 0).1 324 = N := (i5 M1).trans eN
      unfold sh_X12_trip X12_trip_F
      rw [m_O hM1, bs, m_P hM1, bs, m_isTrip hM0 hT f4, bs, bI_t v1, if_neg (by decide), if_neg (by decide), if_neg (by decide), if_neg (by decide), if_neg (by decide), if_neg (by decide), if_pos (by decide)]
      try simp (disch := omega) only [m_now hM0, m_told hM0, ld324 hM0, ld325 hM0, Nat.zero_add, f4, f5, m_zoneOf hM0, ix25, ix35, ix45, ix50, ix60, m_bound hM0 hT f4 ht, Option.bind_some]
  | 6, _ =>
    refine ⟨mAsked T N t, ?_, fun M1 r => ?_⟩
    · unfold sh_X11_trip X11_trip_F
      rw [o_O hM, bs, c_needTrip_y w o v1, bs, Sum.elim_inl, o_mem hM o, bs, mm_now hM mk, bs, o_plan hM o, bs, p_trips hP, bs, p_trip hP (by omega), bs, if_neg (by decide), if_neg (by decide), if_neg (by decide), if_neg (by decide), if_neg (by decide), if_neg (by decide), if_pos (by decide)]
      simp (disch := omega) only [o_plan hM o, p_trips hP, p_trip hP, pt_I hP, (pv.2.2.1 t ht).1, (pv.2.2.1 t ht).2.1, (pv.2.2.1 t ht).2.2.1, (pv.2.2.1 t ht).2.2.2.1, (pv.2.2.1 t ht).2.2.2.2.1, (pv.2.2.1 t ht).2.2.2.2.2, s_on hS, sl8 hS, s_crossed hS, sl9 hS, (sv.2.2.2.1 t ht).1, (sv.2.2.2.1 t ht).2, c_asked hS hP hT pv sv hN ht, Option.bind_some]
    · obtain ⟨hM1, -, -, -, eT, eN⟩ := id r
      have hM0 : Ky (sI M1 319 4 0) := hM1.sI _ _ _
      have f4 : (sI M1 319 4 0).1 325 = T := (i4 M1).trans eT
      have f5 : (sI M1 319 4 0).1 324 = N := (i5 M1).trans eN
      unfold sh_X12_trip X12_trip_F
      rw [m_O hM1, bs, m_P hM1, bs, m_isTrip hM0 hT f4, bs, bI_t v1, if_neg (by decide), if_neg (by decide), if_neg (by decide), if_neg (by decide), if_neg (by decide), if_neg (by decide), if_neg (by decide), if_pos (by decide)]
      try simp (disch := omega) only [m_now hM0, m_told hM0, ld324 hM0, ld325 hM0, Nat.zero_add, f4, f5, m_zoneOf hM0, ix25, ix35, ix45, ix50, ix60, m_bound hM0 hT f4 ht, Option.bind_some]
      have := m_asked hM0 (by rw [f4]; exact hT) (t := t) (by rw [f4]; exact ht)
      rw [f4, f5] at this
      rw [this, bs]
  | 7, _ =>
    refine ⟨Int32.ofNat (dl T t).length, ?_, fun M1 r => ?_⟩
    · unfold sh_X11_trip X11_trip_F
      rw [o_O hM, bs, c_needTrip_y w o v1, bs, Sum.elim_inl, o_mem hM o, bs, mm_now hM mk, bs, o_plan hM o, bs, p_trips hP, bs, p_trip hP (by omega), bs, if_neg (by decide), if_neg (by decide), if_neg (by decide), if_neg (by decide), if_neg (by decide), if_neg (by decide), if_neg (by decide), if_pos (by decide)]
      simp (disch := omega) only [o_plan hM o, p_trips hP, p_trip hP, pt_I hP, (pv.2.2.1 t ht).1, (pv.2.2.1 t ht).2.1, (pv.2.2.1 t ht).2.2.1, (pv.2.2.1 t ht).2.2.2.1, (pv.2.2.1 t ht).2.2.2.2.1, (pv.2.2.1 t ht).2.2.2.2.2, s_on hS, sl8 hS, s_crossed hS, sl9 hS, (sv.2.2.2.1 t ht).1, (sv.2.2.2.1 t ht).2, c_asked hS hP hT pv sv hN ht, Option.bind_some]
      have q1 := fb_60 hT
      have q2 := fb_mono T (i := t + 1) (j := tt T) (by omega)
      have q3 : fb T (t + 1) = fb T t + (dl T t).length := rfl
      congr 2
      apply tI_eq
      rw [q3, tI_sub (by rw [tn _ (by omega), tn _ (by omega)]; omega) (by rw [tn _ (by omega), tn _ (by omega)]; omega), tn _ (by omega), tn _ (by omega), tn _ (by omega)]
      omega
    · obtain ⟨hM1, -, -, -, eT, eN⟩ := id r
      have hM0 : Ky (sI M1 319 4 0) := hM1.sI _ _ _
      have f4 : (sI M1 319 4 0).1 325 = T := (i4 M1).trans eT
      have f5 : (sI M1 319 4 0).1 324 = N := (i5 M1).trans eN
      unfold sh_X12_trip X12_trip_F
      rw [m_O hM1, bs, m_P hM1, bs, m_isTrip hM0 hT f4, bs, bI_t v1, if_neg (by decide), if_neg (by decide), if_neg (by decide), if_neg (by decide), if_neg (by decide), if_neg (by decide), if_neg (by decide), if_neg (by decide), if_pos (by decide)]
      try simp (disch := omega) only [m_now hM0, m_told hM0, ld324 hM0, ld325 hM0, Nat.zero_add, f4, f5, m_zoneOf hM0, ix25, ix35, ix45, ix50, ix60, m_bound hM0 hT f4 ht, Option.bind_some]
  | m + 8, h => omega
theorem a_trip {j : Nat} (h : Inv M j) (x1 x2 : Int32) : Ans (sh_L_trip 64 x1 x2 345) (sh_X12_trip 319 x1 x2) M j := by
  obtain ⟨⟨P, D, cv⟩, rm⟩ := id h
  obtain ⟨⟨o, w, -, t6⟩, ⟨mk, -, -, -, -⟩, ⟨n, c, c1, c2, c3⟩, -⟩ := id cv
  have s := c3.1
  have hM := w.1
  have hT := w.2.2.2.2.2.1
  by_cases v1 : vl x1 (tt (M.1 325))
  · by_cases v2 : vl x2 8
    · obtain ⟨t, ht, e1⟩ := id v1
      obtain ⟨m, hm, e2⟩ := v2
      subst e1 e2
      obtain ⟨u, a, b⟩ := trip_v w s o mk ht hm
      refine q_pure h cv ?_ (fun M1 r _ _ => b M1 r)
      unfold sh_L_trip L_trip_F
      simp only [a, Option.bind_some, Sum.elim_inl, st345_0 hM]
    · have n0 : ¬ x2 = 0 := vl_ne v2 (m := 0) (by omega)
      have n1 : ¬ x2 = 1 := vl_ne v2 (m := 1) (by omega)
      have n2 : ¬ x2 = 2 := vl_ne v2 (m := 2) (by omega)
      have n3 : ¬ x2 = 3 := vl_ne v2 (m := 3) (by omega)
      have n4 : ¬ x2 = 4 := vl_ne v2 (m := 4) (by omega)
      have n5 : ¬ x2 = 5 := vl_ne v2 (m := 5) (by omega)
      have n6 : ¬ x2 = 6 := vl_ne v2 (m := 6) (by omega)
      have n7 : ¬ x2 = 7 := vl_ne v2 (m := 7) (by omega)
      refine q_ref (e := 1) (q := 13) h cv (by decide) (Or.inl rfl) ?_ (fun M1 r => ?_)
      · unfold sh_L_trip L_trip_F sh_X11_trip X11_trip_F
        obtain ⟨t, ht, e1⟩ := id v1
        subst e1
        have h5 := hT.z.2
        have h10 := hT.t.2
        have h6 := hT.d.2
        rw [o_O hM, bs, c_needTrip_y w o v1, bs, Sum.elim_inl, o_mem hM o, bs, mm_now hM mk, bs, o_plan hM o, bs, p_trips w.2.2.2.1, bs, p_trip w.2.2.2.1 (by omega), bs, if_neg n0, if_neg n1, if_neg n2, if_neg n3, if_neg n4, if_neg n5, if_neg n6, if_neg n7]
        rfl
      · obtain ⟨hM1, -, -, -, eT, eN⟩ := id r
        have hM0 : Ky (sI M1 319 4 0) := hM1.sI _ _ _
        unfold sh_X12_trip X12_trip_F
        rw [m_O hM1, bs, m_P hM1, bs, m_isTrip hM0 hT ((sI_ne _ _ _ (by decide)).trans eT), bs, bI_t v1, if_neg (by decide), if_neg n0, if_neg n1, if_neg n2, if_neg n3, if_neg n4, if_neg n5, if_neg n6, if_neg n7, m_fail hM0, bs]
  · refine q_ref (e := 1) (q := 13) h cv (by decide) (Or.inl rfl) ?_ (fun M1 r => ?_)
    · unfold sh_L_trip L_trip_F sh_X11_trip X11_trip_F
      rw [o_O hM, bs, c_needTrip_n w o v1, bs, Sum.elim_inr]
      rfl
    · obtain ⟨hM1, -, -, -, eT, eN⟩ := id r
      have hM0 : Ky (sI M1 319 4 0) := hM1.sI _ _ _
      unfold sh_X12_trip X12_trip_F
      rw [m_O hM1, bs, m_P hM1, bs, m_isTrip hM0 hT ((sI_ne _ _ _ (by decide)).trans eT), bs, bI_f v1, if_pos rfl, m_fail hM0, bs]
theorem device_v (w : Wd M P T) (s : Sd M 263 P N T k) (o : ObK M P D) (mk : MmK M 257) {d m : Nat} (hd : d < td T) (hm : m < 7) : ∃ v, sh_X11_device 64 (Int32.ofNat d) (Int32.ofNat m) M = some (.inl v) ∧ ∀ M1, Rf M1 T N k → sh_X12_device 319 (Int32.ofNat d) (Int32.ofNat m) M1 = some (v, sI M1 319 4 0) := by
  obtain ⟨hM, -, -, hP, -, hT, pv⟩ := id w
  obtain ⟨hS, -, sv, hN, hL⟩ := id s
  have h5 := hT.z.2
  have h10 := hT.t.2
  have h6 := hT.d.2
  have v1 : vl (Int32.ofNat d) (td T) := ⟨d, hd, rfl⟩
  have i4 : ∀ M1 : Gm, (sI M1 319 4 0).1 325 = M1.1 325 := fun M1 => sI_ne _ _ _ (by decide)
  have i5 : ∀ M1 : Gm, (sI M1 319 4 0).1 324 = M1.1 324 := fun M1 => sI_ne _ _ _ (by decide)
  match m, hm with
  | 0, _ =>
    refine ⟨T (55 + d), ?_, fun M1 r => ?_⟩
    · unfold sh_X11_device X11_device_F
      rw [o_O hM, bs, c_needDevice_y w o v1, bs, Sum.elim_inl, o_mem hM o, bs, mm_now hM mk, bs, o_plan hM o, bs, p_devices hP, bs, p_device hP (by omega), bs, if_pos (by decide)]
      simp (disch := omega) only [o_plan hM o, p_devices hP, p_device hP, pd_I hP, (pv.2.2.2.1 d hd).1, (pv.2.2.2.1 d hd).2.1, (pv.2.2.2.1 d hd).2.2, s_cool hS, sl12 hS, s_position hS, sl10 hS, s_held hS, sl11 hS, (sv.2.2.2.2.1 d hd).1, (sv.2.2.2.2.1 d hd).2.1, (sv.2.2.2.2.1 d hd).2.2, c_greatest hS hP hT pv sv (show d < 6 by omega), Option.bind_some]
    · obtain ⟨hM1, -, -, -, eT, eN⟩ := id r
      have hM0 : Ky (sI M1 319 4 0) := hM1.sI _ _ _
      have f4 : (sI M1 319 4 0).1 325 = T := (i4 M1).trans eT
      have f5 : (sI M1 319 4 0).1 324 = N := (i5 M1).trans eN
      unfold sh_X12_device X12_device_F
      rw [m_O hM1, bs, m_P hM1, bs, m_isDevice hM0 hT f4, bs, bI_t v1, if_neg (by decide), if_pos (by decide)]
      try simp (disch := omega) only [m_now hM0, m_told hM0, ld324 hM0, ld325 hM0, Nat.zero_add, f4, f5, ix55, ix61, ix67, ix70, ix73, ix76, Option.bind_some]
  | 1, _ =>
    refine ⟨T (61 + d), ?_, fun M1 r => ?_⟩
    · unfold sh_X11_device X11_device_F
      rw [o_O hM, bs, c_needDevice_y w o v1, bs, Sum.elim_inl, o_mem hM o, bs, mm_now hM mk, bs, o_plan hM o, bs, p_devices hP, bs, p_device hP (by omega), bs, if_neg (by decide), if_pos (by decide)]
      simp (disch := omega) only [o_plan hM o, p_devices hP, p_device hP, pd_I hP, (pv.2.2.2.1 d hd).1, (pv.2.2.2.1 d hd).2.1, (pv.2.2.2.1 d hd).2.2, s_cool hS, sl12 hS, s_position hS, sl10 hS, s_held hS, sl11 hS, (sv.2.2.2.2.1 d hd).1, (sv.2.2.2.2.1 d hd).2.1, (sv.2.2.2.2.1 d hd).2.2, c_greatest hS hP hT pv sv (show d < 6 by omega), Option.bind_some]
    · obtain ⟨hM1, -, -, -, eT, eN⟩ := id r
      have hM0 : Ky (sI M1 319 4 0) := hM1.sI _ _ _
      have f4 : (sI M1 319 4 0).1 325 = T := (i4 M1).trans eT
      have f5 : (sI M1 319 4 0).1 324 = N := (i5 M1).trans eN
      unfold sh_X12_device X12_device_F
      rw [m_O hM1, bs, m_P hM1, bs, m_isDevice hM0 hT f4, bs, bI_t v1, if_neg (by decide), if_neg (by decide), if_pos (by decide)]
      try simp (disch := omega) only [m_now hM0, m_told hM0, ld324 hM0, ld325 hM0, Nat.zero_add, f4, f5, ix55, ix61, ix67, ix70, ix73, ix76, Option.bind_some]
  | 2, _ =>
    refine ⟨T (67 + d), ?_, fun M1 r => ?_⟩
    · unfold sh_X11_device X11_device_F
      rw [o_O hM, bs, c_needDevice_y w o v1, bs, Sum.elim_inl, o_mem hM o, bs, mm_now hM mk, bs, o_plan hM o, bs, p_devices hP, bs, p_device hP (by omega), bs, if_neg (by decide), if_neg (by decide), if_pos (by decide)]
      simp (disch := omega) only [o_plan hM o, p_devices hP, p_device hP, pd_I hP, (pv.2.2.2.1 d hd).1, (pv.2.2.2.1 d hd).2.1, (pv.2.2.2.1 d hd).2.2, s_cool hS, sl12 hS, s_position hS, sl10 hS, s_held hS, sl11 hS, (sv.2.2.2.2.1 d hd).1, (sv.2.2.2.2.1 d hd).2.1, (sv.2.2.2.2.1 d hd).2.2, c_greatest hS hP hT pv sv (show d < 6 by omega), Option.bind_some]
    · obtain ⟨hM1, -, -, -, eT, eN⟩ := id r
      have hM0 : Ky (sI M1 319 4 0) := hM1.sI _ _ _
      have f4 : (sI M1 319 4 0).1 325 = T := (i4 M1).trans eT
      have f5 : (sI M1 319 4 0).1 324 = N := (i5 M1).trans eN
      unfold sh_X12_device X12_device_F
      rw [m_O hM1, bs, m_P hM1, bs, m_isDevice hM0 hT f4, bs, bI_t v1, if_neg (by decide), if_neg (by decide), if_neg (by decide), if_pos (by decide)]
      try simp (disch := omega) only [m_now hM0, m_told hM0, ld324 hM0, ld325 hM0, Nat.zero_add, f4, f5, ix55, ix61, ix67, ix70, ix73, ix76, Option.bind_some]
  | 3, _ =>
    refine ⟨T (73 + d), ?_, fun M1 r => ?_⟩
    · unfold sh_X11_device X11_device_F
      rw [o_O hM, bs, c_needDevice_y w o v1, bs, Sum.elim_inl, o_mem hM o, bs, mm_now hM mk, bs, o_plan hM o, bs, p_devices hP, bs, p_device hP (by omega), bs, if_neg (by decide), if_neg (by decide), if_neg (by decide), if_pos (by decide)]
      simp (disch := omega) only [o_plan hM o, p_devices hP, p_device hP, pd_I hP, (pv.2.2.2.1 d hd).1, (pv.2.2.2.1 d hd).2.1, (pv.2.2.2.1 d hd).2.2, s_cool hS, sl12 hS, s_position hS, sl10 hS, s_held hS, sl11 hS, (sv.2.2.2.2.1 d hd).1, (sv.2.2.2.2.1 d hd).2.1, (sv.2.2.2.2.1 d hd).2.2, c_greatest hS hP hT pv sv (show d < 6 by omega), Option.bind_some]
    · obtain ⟨hM1, -, -, -, eT, eN⟩ := id r
      have hM0 : Ky (sI M1 319 4 0) := hM1.sI _ _ _
      have f4 : (sI M1 319 4 0).1 325 = T := (i4 M1).trans eT
      have f5 : (sI M1 319 4 0).1 324 = N := (i5 M1).trans eN
      unfold sh_X12_device X12_device_F
      rw [m_O hM1, bs, m_P hM1, bs, m_isDevice hM0 hT f4, bs, bI_t v1, if_neg (by decide), if_neg (by decide), if_neg (by decide), if_neg (by decide), if_pos (by decide)]
      try simp (disch := omega) only [m_now hM0, m_told hM0, ld324 hM0, ld325 hM0, Nat.zero_add, f4, f5, ix55, ix61, ix67, ix70, ix73, ix76, Option.bind_some]
  | 4, _ =>
    refine ⟨N (70 + d), ?_, fun M1 r => ?_⟩
    · unfold sh_X11_device X11_device_F
      rw [o_O hM, bs, c_needDevice_y w o v1, bs, Sum.elim_inl, o_mem hM o, bs, mm_now hM mk, bs, o_plan hM o, bs, p_devices hP, bs, p_device hP (by omega), bs, if_neg (by decide), if_neg (by decide), if_neg (by decide), if_neg (by decide), if_pos (by decide)]
      simp (disch := omega) only [o_plan hM o, p_devices hP, p_device hP, pd_I hP, (pv.2.2.2.1 d hd).1, (pv.2.2.2.1 d hd).2.1, (pv.2.2.2.1 d hd).2.2, s_cool hS, sl12 hS, s_position hS, sl10 hS, s_held hS, sl11 hS, (sv.2.2.2.2.1 d hd).1, (sv.2.2.2.2.1 d hd).2.1, (sv.2.2.2.2.1 d hd).2.2, c_greatest hS hP hT pv sv (show d < 6 by omega), Option.bind_some]
    · obtain ⟨hM1, -, -, -, eT, eN⟩ := id r
      have hM0 : Ky (sI M1 319 4 0) := hM1.sI _ _ _
      have f4 : (sI M1 319 4 0).1 325 = T := (i4 M1).trans eT
      have f5 : (sI M1 319 4 0).1 324 = N := (i5 M1).trans eN
      unfold sh_X12_device X12_device_F
      rw [m_O hM1, bs, m_P hM1, bs, m_isDevice hM0 hT f4, bs, bI_t v1, if_neg (by decide), if_neg (by decide), if_neg (by decide), if_neg (by decide), if_neg (by decide), if_pos (by decide)]
      try simp (disch := omega) only [m_now hM0, m_told hM0, ld324 hM0, ld325 hM0, Nat.zero_add, f4, f5, ix55, ix61, ix67, ix70, ix73, ix76, Option.bind_some]
  | 5, _ =>
    refine ⟨N (76 + d), ?_, fun M1 r => ?_⟩
    · unfold sh_X11_device X11_device_F
      rw [o_O hM, bs, c_needDevice_y w o v1, bs, Sum.elim_inl, o_mem hM o, bs, mm_now hM mk, bs, o_plan hM o, bs, p_devices hP, bs, p_device hP (by omega), bs, if_neg (by decide), if_neg (by decide), if_neg (by decide), if_neg (by decide), if_neg (by decide), if_pos (by decide)]
      simp (disch := omega) only [o_plan hM o, p_devices hP, p_device hP, pd_I hP, (pv.2.2.2.1 d hd).1, (pv.2.2.2.1 d hd).2.1, (pv.2.2.2.1 d hd).2.2, s_cool hS, sl12 hS, s_position hS, sl10 hS, s_held hS, sl11 hS, (sv.2.2.2.2.1 d hd).1, (sv.2.2.2.2.1 d hd).2.1, (sv.2.2.2.2.1 d hd).2.2, c_greatest hS hP hT pv sv (show d < 6 by omega), Option.bind_some]
    · obtain ⟨hM1, -, -, -, eT, eN⟩ := id r
      have hM0 : Ky (sI M1 319 4 0) := hM1.sI _ _ _
      have f4 : (sI M1 319 4 0).1 325 = T := (i4 M1).trans eT
      have f5 : (sI M1 319 4 0).1 324 = N := (i5 M1).trans eN
      unfold sh_X12_device X12_device_F
      rw [m_O hM1, bs, m_P hM1, bs, m_isDevice hM0 hT f4, bs, bI_t v1, if_neg (by decide), if_neg (by decide), if_neg (by decide), if_neg (by decide), if_neg (by decide), if_neg (by decide), if_pos (by decide)]
      try simp (disch := omega) only [m_now hM0, m_told hM0, ld324 hM0, ld325 hM0, Nat.zero_add, f4, f5, ix55, ix61, ix67, ix70, ix73, ix76, Option.bind_some]
  | 6, _ =>
    refine ⟨mostW T N d (tt T), ?_, fun M1 r => ?_⟩
    · unfold sh_X11_device X11_device_F
      rw [o_O hM, bs, c_needDevice_y w o v1, bs, Sum.elim_inl, o_mem hM o, bs, mm_now hM mk, bs, o_plan hM o, bs, p_devices hP, bs, p_device hP (by omega), bs, if_neg (by decide), if_neg (by decide), if_neg (by decide), if_neg (by decide), if_neg (by decide), if_neg (by decide), if_pos (by decide)]
      simp (disch := omega) only [o_plan hM o, p_devices hP, p_device hP, pd_I hP, (pv.2.2.2.1 d hd).1, (pv.2.2.2.1 d hd).2.1, (pv.2.2.2.1 d hd).2.2, s_cool hS, sl12 hS, s_position hS, sl10 hS, s_held hS, sl11 hS, (sv.2.2.2.2.1 d hd).1, (sv.2.2.2.2.1 d hd).2.1, (sv.2.2.2.2.1 d hd).2.2, c_greatest hS hP hT pv sv (show d < 6 by omega), Option.bind_some]
    · obtain ⟨hM1, -, -, -, eT, eN⟩ := id r
      have hM0 : Ky (sI M1 319 4 0) := hM1.sI _ _ _
      have f4 : (sI M1 319 4 0).1 325 = T := (i4 M1).trans eT
      have f5 : (sI M1 319 4 0).1 324 = N := (i5 M1).trans eN
      unfold sh_X12_device X12_device_F
      rw [m_O hM1, bs, m_P hM1, bs, m_isDevice hM0 hT f4, bs, bI_t v1, if_neg (by decide), if_neg (by decide), if_neg (by decide), if_neg (by decide), if_neg (by decide), if_neg (by decide), if_neg (by decide), if_pos (by decide)]
      try simp (disch := omega) only [m_now hM0, m_told hM0, ld324 hM0, ld325 hM0, Nat.zero_add, f4, f5, ix55, ix61, ix67, ix70, ix73, ix76, Option.bind_some]
      have := m_mostWanted hM0 (by rw [f4]; exact hT) (d := d) (by omega)
      rw [f4, f5] at this
      rw [this, bs]
  | m + 7, h => omega
theorem a_device {j : Nat} (h : Inv M j) (x1 x2 : Int32) : Ans (sh_L_device 64 x1 x2 345) (sh_X12_device 319 x1 x2) M j := by
  obtain ⟨⟨P, D, cv⟩, rm⟩ := id h
  obtain ⟨⟨o, w, -, t6⟩, ⟨mk, -, -, -, -⟩, ⟨n, c, c1, c2, c3⟩, -⟩ := id cv
  have s := c3.1
  have hM := w.1
  have hT := w.2.2.2.2.2.1
  by_cases v1 : vl x1 (td (M.1 325))
  · by_cases v2 : vl x2 7
    · obtain ⟨d, hd, e1⟩ := id v1
      obtain ⟨m, hm, e2⟩ := v2
      subst e1 e2
      obtain ⟨u, a, b⟩ := device_v w s o mk hd hm
      refine q_pure h cv ?_ (fun M1 r _ _ => b M1 r)
      unfold sh_L_device L_device_F
      simp only [a, Option.bind_some, Sum.elim_inl, st345_0 hM]
    · have n0 : ¬ x2 = 0 := vl_ne v2 (m := 0) (by omega)
      have n1 : ¬ x2 = 1 := vl_ne v2 (m := 1) (by omega)
      have n2 : ¬ x2 = 2 := vl_ne v2 (m := 2) (by omega)
      have n3 : ¬ x2 = 3 := vl_ne v2 (m := 3) (by omega)
      have n4 : ¬ x2 = 4 := vl_ne v2 (m := 4) (by omega)
      have n5 : ¬ x2 = 5 := vl_ne v2 (m := 5) (by omega)
      have n6 : ¬ x2 = 6 := vl_ne v2 (m := 6) (by omega)
      refine q_ref (e := 1) (q := 13) h cv (by decide) (Or.inl rfl) ?_ (fun M1 r => ?_)
      · unfold sh_L_device L_device_F sh_X11_device X11_device_F
        obtain ⟨d, hd, e1⟩ := id v1
        subst e1
        have h5 := hT.z.2
        have h10 := hT.t.2
        have h6 := hT.d.2
        rw [o_O hM, bs, c_needDevice_y w o v1, bs, Sum.elim_inl, o_mem hM o, bs, mm_now hM mk, bs, o_plan hM o, bs, p_devices w.2.2.2.1, bs, p_device w.2.2.2.1 (by omega), bs, if_neg n0, if_neg n1, if_neg n2, if_neg n3, if_neg n4, if_neg n5, if_neg n6]
        rfl
      · obtain ⟨hM1, -, -, -, eT, eN⟩ := id r
        have hM0 : Ky (sI M1 319 4 0) := hM1.sI _ _ _
        unfold sh_X12_device X12_device_F
        rw [m_O hM1, bs, m_P hM1, bs, m_isDevice hM0 hT ((sI_ne _ _ _ (by decide)).trans eT), bs, bI_t v1, if_neg (by decide), if_neg n0, if_neg n1, if_neg n2, if_neg n3, if_neg n4, if_neg n5, if_neg n6, m_fail hM0, bs]
  · refine q_ref (e := 1) (q := 13) h cv (by decide) (Or.inl rfl) ?_ (fun M1 r => ?_)
    · unfold sh_L_device L_device_F sh_X11_device X11_device_F
      rw [o_O hM, bs, c_needDevice_n w o v1, bs, Sum.elim_inr]
      rfl
    · obtain ⟨hM1, -, -, -, eT, eN⟩ := id r
      have hM0 : Ky (sI M1 319 4 0) := hM1.sI _ _ _
      unfold sh_X12_device X12_device_F
      rw [m_O hM1, bs, m_P hM1, bs, m_isDevice hM0 hT ((sI_ne _ _ _ (by decide)).trans eT), bs, bI_f v1, if_pos rfl, m_fail hM0, bs]
end
