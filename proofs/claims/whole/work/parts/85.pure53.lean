/-! ===== PURE 53: start, minutes, undo, note, forget, fault ===== -/
section
variable {M M1 M2 : Gm} {S P D k k' n c j : Nat} {N N' T pa nz nm nh st : Nat → Int32}
theorem NOk.lt (hT : TOk T) (h : NOk N T) (e : ∀ k, k < 144 → N' k = N k) : NOk N' T := by
  have h10 := hT.t.2
  have h5 := hT.z.2
  have h6 := hT.d.2
  obtain ⟨a, b, c, d, f, g⟩ := h
  refine ⟨fun z hz => ?_, fun z i hz hi => ?_, fun t ht => ?_, fun d' hd => ?_, fun t d' ht hd => ?_, ?_⟩
  · rw [e z (by omega), e (5 + z) (by omega), e (20 + z) (by omega), e (25 + z) (by omega), e (15 + z) (by omega), e (10 + z) (by omega)]; exact a z hz
  · rw [e _ (by omega)]; exact b z i hz hi
  · rw [e _ (by omega)]; exact c t ht
  · rw [e _ (by omega), e _ (by omega)]; exact d d' hd
  · rw [e _ (by omega)]; exact f t d' ht hd
  · rw [e _ (by omega)]; exact g
theorem NOk.unshut {z : Nat} (hT : TOk T) (h : NOk N T) (hz : z < tz T) : NOk (ud (ud N (10 + z) 0) (15 + z) 0) T := by
  have h10 := hT.t.2
  have h5 := hT.z.2
  have h6 := hT.d.2
  obtain ⟨a, b, c, d, f, g⟩ := h
  refine ⟨fun y hy => ?_, fun y i hy hi => ?_, fun t ht => ?_, fun d' hd => ?_, fun t d' ht hd => ?_, ?_⟩
  · obtain ⟨a1, a2, a3, a4, a5, a6⟩ := a y hy
    rw [ud_ne _ _ (show y ≠ 15 + z by omega), ud_ne _ _ (show y ≠ 10 + z by omega), ud_ne _ _ (show 5 + y ≠ 15 + z by omega), ud_ne _ _ (show 5 + y ≠ 10 + z by omega), ud_ne _ _ (show 20 + y ≠ 15 + z by omega), ud_ne _ _ (show 20 + y ≠ 10 + z by omega), ud_ne _ _ (show 25 + y ≠ 15 + z by omega), ud_ne _ _ (show 25 + y ≠ 10 + z by omega)]
    refine ⟨a1, a2, a3, a4, ?_⟩
    by_cases e : y = z
    · subst e
      rw [ud_at, ud_ne _ _ (by omega), ud_at]
      exact ⟨⟨0, rfl, by omega, by omega⟩, rfl⟩
    · rw [ud_ne _ _ (show 15 + y ≠ 15 + z by omega), ud_ne _ _ (show 15 + y ≠ 10 + z by omega), ud_ne _ _ (show 10 + y ≠ 15 + z by omega), ud_ne _ _ (show 10 + y ≠ 10 + z by omega)]
      exact ⟨a5, a6⟩
  · rw [ud_ne _ _ (by omega), ud_ne _ _ (by omega)]; exact b y i hy hi
  · rw [ud_ne _ _ (by omega), ud_ne _ _ (by omega)]; exact c t ht
  · rw [ud_ne _ _ (by omega), ud_ne _ _ (by omega), ud_ne _ _ (by omega), ud_ne _ _ (by omega)]; exact d d' hd
  · rw [ud_ne _ _ (by omega), ud_ne _ _ (by omega)]; exact f t d' ht hd
  · rw [ud_ne _ _ (by omega), ud_ne _ _ (by omega)]; exact g
theorem a_start (h : Inv M j) (hj : j ≤ 512) (x1 : Int32) : An2 (sh_X11_start 64 x1) (sh_X12_start 319 x1) M j := by
  obtain ⟨⟨P, D, cv⟩, rm⟩ := id h
  obtain ⟨⟨o, w, -, t6⟩, ⟨mk, -, -, -, ak⟩, ⟨n, c, c1, c2, c3⟩, -⟩ := id cv
  obtain ⟨s, av, nv, no, st⟩ := id c3
  have hM := w.1
  have hT := w.2.2.2.2.2.1
  have h5 := hT.z
  have hP := w.2.2.2.1
  have pv := w.2.2.2.2.2.2
  have hN := s.2.2.2.1
  have hz' := c_hasZone hP (n := tz (M.1 325)) (by omega) (pv.1.1.trans h5.1) x1
  by_cases v1 : vl x1 (tz (M.1 325))
  · obtain ⟨z, hz, e1⟩ := id v1
    subst e1
    by_cases v2 : sb (M.1 324) z = true
    · have nz : ¬ M.1 324 (10 + z) = 0 := fun q => sb_0.mp q v2
      by_cases v3 : crO (M.1 325) (M.1 324) (Int32.ofNat z)
      · refine act_ref (i := 1) (b := -1) h cv (by omega) ?_ (fun M0 r _ => ?_)
        · unfold sh_X11_start X11_start_F X11_start_J39
          rw [o_O hM, bs, o_plan hM o, bs, hz', bs, bI_t v1, if_neg (by decide), o_mem hM o, bs, mm_now hM mk, bs, c_shutE hT s hz, bs, bI_t v2, if_neg (by decide), bs, bs, mm_now hM mk, bs, c_critOn w s, bs, bI_t v3, if_neg (by decide), c_refuse hM o mk, bs]
        · obtain ⟨hM0, -, -, -, eT, eN⟩ := r.z (x := 0)
          unfold sh_X12_start X12_start_F X12_start_J33
          rw [m_O r.1, bs, m_P r.1, bs, m_isZone hM0 hT eT, bs, bI_t v1, if_neg (by decide), m_now hM0, bs, ix10, ld324 hM0 (by omega), bs, eN, if_neg nz, m_critOn hM0 hT eT eN, bs, bI_t v3, if_neg (by decide), m_refuse1 hM0, bs]
      · obtain ⟨X, k1, k2, k3, k4, k5, k6, k7, k8⟩ := c_keepAct w rm.1 mk ak s av
        have wX := k2.wd rm.1 k3 (Or.inl rfl) w
        have oX := k2.obk rm.1 k3 (Or.inl rfl) o
        have mkX := k2.mk rm.1 k3 (Or.inl rfl) mk
        have stX : stA X 0 (263 + 6) (Int32.ofNat z) 0 = some (sI X 269 z 0) := ss6 k4.1 _ (by omega)
        have sv1 : StV (sI X 269 z 0) 263 (ud (ud (M.1 324) (10 + z) 0) (15 + z) 0) (M.1 325) := (k4.2.2.1.free hT (i := z) (by omega) 0).why hT hz 0
        have lg1 : LgOk (ud (ud (M.1 324) (10 + z) 0) (15 + z) 0) (1300 * j) := (k4.2.2.2.2.ud _ (by omega)).ud _ (by omega)
        obtain ⟨M1, g1, g2, g3⟩ := c_addLog (k4.1.sI 269 z 0) sv1 k4.2.1 hT lg1 (by omega) 5 (Int32.ofNat z) (-1)
        have gk : M1.2 = X.2 := g2.1
        have gr : ∀ b, (b < 263 ∨ (277 < b ∧ b < 300) ∨ 301 < b) → M1.1 b = X.1 b := fun b hb => by rw [g2.2 b (by simp; omega), sI_ne _ _ _ (by omega)]
        have kM1 : StK M1 263 P := k4.1.eq gk
        have wM1 : Ky M1 := wX.1.eq gk
        have oM1 : ObK M1 P D := by unfold ObK at *; rw [gk]; exact oX
        have mkM1 : MmK M1 257 := by unfold MmK at *; rw [gk]; exact mkX
        have tM1 : M1.1 267 z = M.1 324 (20 + z) := by
          have := (g3.2.1 z hz).2.2.2.1
          rw [mLogs_ne (by omega), ud_ne _ _ (by omega), ud_ne _ _ (by omega)] at this
          exact this
        have lM1 : ldA M1 0 (263 + 4) (Int32.ofNat z) = some (M.1 324 (20 + z)) := by rw [sl4 kM1 (by omega), tM1]
        have s1 : Sd M1 263 P (mLogs (ud (ud (M.1 324) (10 + z) 0) (15 + z) 0) 5 (Int32.ofNat z) (-1)) (M.1 325) (1300 * (j + 1)) := ⟨kM1, k4.2.1, g3, (NOk.unshut hT hN hz).lt hT (fun k hk => mLogs_ne hk), (lg1.logs (by omega) _ _ _).w (by omega)⟩
        obtain ⟨M3, d1, d2⟩ := kept_ref (M := M) (M1 := M1) (n := n) wM1 (fun a h1 h2 => by rw [gr a (by omega)]; exact k6 a (by omega) (by omega)) c1 (by obtain ⟨_, _, _, _, q, _⟩ := av; exact q)
        have hM3 := d2.1
        have e3 : M3.1 324 = M.1 324 := d2.2.2.2.2.2.2 324 (by decide) (by decide) (by omega) (by omega)
        have hA := (hM3.sI 324 (10 + z) 0).sI 324 (15 + z) 0
        have eA0 : (sI (sI M3 324 (10 + z) 0) 324 (15 + z) 0).1 324 = ud (ud (M.1 324) (10 + z) 0) (15 + z) 0 := by rw [sI_own, sI_own, e3]
        have ml := m_logs hA (by rw [eA0]; exact lg1) (by omega) 5 (Int32.ofNat z) (-1)
        rw [eA0] at ml
        have hB := hA.wR 324 (mLogs (ud (ud (M.1 324) (10 + z) 0) (15 + z) 0) 5 (Int32.ofNat z) (-1))
        refine ⟨M.1 324 (20 + z), M1, wR (sI (sI M3 324 (10 + z) 0) 324 (15 + z) 0) 324 (mLogs (ud (ud (M.1 324) (10 + z) 0) (15 + z) 0) 5 (Int32.ofNat z) (-1)), ?_, ?_, ?_⟩
        · unfold sh_X11_start X11_start_F
          rw [o_O hM, bs, o_plan hM o, bs, hz', bs, bI_t v1, if_neg (by decide), o_mem hM o, bs, mm_now hM mk, bs, c_shutE hT s hz, bs, bI_t v2, if_neg (by decide), bs, bs, mm_now hM mk, bs, c_critOn w s, bs, bI_f v3, if_pos rfl, k1, bs, o_mem wX.1 oX, bs, mm_now wX.1 mkX, bs, s_why k4.1, bs, stX, bs, o_mem (wX.1.sI _ _ _) oX, bs, mm_now (wX.1.sI _ _ _) mkX, bs, g1, bs, o_mem wM1 oM1, bs, mm_now wM1 mkM1, bs, s_temp kM1, bs, lM1, bs]
        · have r : Rf M1 (M.1 325) (M.1 324) (1300 * j) := ⟨wM1, hT, s.2.2.2.1, s.2.2.2.2, by rw [gr 325 (by omega)]; exact k6 325 (by omega) (by omega), by rw [gr 324 (by omega)]; exact k6 324 (by omega) (by omega)⟩
          obtain ⟨hM0, -, -, -, eT, eN⟩ := r.z (x := 0)
          have l20 : (wR (sI (sI M3 324 (10 + z) 0) 324 (15 + z) 0) 324 (mLogs (ud (ud (M.1 324) (10 + z) 0) (15 + z) 0) 5 (Int32.ofNat z) (-1))).1 324 (20 + z) = M.1 324 (20 + z) := by rw [wR_own, mLogs_ne (by omega), ud_ne _ _ (by omega), ud_ne _ _ (by omega)]
          unfold sh_X12_start X12_start_F
          rw [m_O r.1, bs, m_P r.1, bs, m_isZone hM0 hT eT, bs, bI_t v1, if_neg (by decide), m_now hM0, bs, ix10, ld324 hM0 (by omega), bs, eN, if_neg nz, m_critOn hM0 hT eT eN, bs, bI_f v3, if_pos rfl, d1, bs, m_now hM3, bs, st324 hM3 _ (by omega), bs, m_now (hM3.sI _ _ _), bs, ix15, st324 (hM3.sI _ _ _) _ (by omega), bs, ml, bs, m_now hB, bs, ix20, ld324 hB (by omega), bs, l20]
        · exact act_fin rm cv c1 c2 c3 k2 k3 k5 k6 k7 k8 gk gr s1 d2 ⟨rfl, fun b hb => by
            have : b ≠ 324 := fun e => hb (by rw [e]; decide)
            rw [wR_ne _ _ this, sI_ne _ _ _ this, sI_ne _ _ _ this]⟩ (wR_own _ _ _)
    · have ze : M.1 324 (10 + z) = 0 := sb_0.mpr v2
      refine act_ref (i := 1) (b := -1) h cv (by omega) ?_ (fun M0 r _ => ?_)
      · unfold sh_X11_start X11_start_F X11_start_J39
        rw [o_O hM, bs, o_plan hM o, bs, hz', bs, bI_t v1, if_neg (by decide), o_mem hM o, bs, mm_now hM mk, bs, c_shutE hT s hz, bs, bI_f v2, if_pos rfl, c_refuse hM o mk, bs]
      · obtain ⟨hM0, -, -, -, eT, eN⟩ := r.z (x := 0)
        unfold sh_X12_start X12_start_F X12_start_J33
        rw [m_O r.1, bs, m_P r.1, bs, m_isZone hM0 hT eT, bs, bI_t v1, if_neg (by decide), m_now hM0, bs, ix10, ld324 hM0 (by omega), bs, eN, if_pos ze, m_refuse1 hM0, bs]
  · refine act_ref (i := 1) (b := -1) h cv (by omega) ?_ (fun M0 r _ => ?_)
    · unfold sh_X11_start X11_start_F X11_start_J39
      rw [o_O hM, bs, o_plan hM o, bs, hz', bs, bI_f v1, if_pos rfl, c_refuse hM o mk, bs]
    · obtain ⟨hM0, -, -, -, eT, eN⟩ := r.z (x := 0)
      unfold sh_X12_start X12_start_F X12_start_J33
      rw [m_O r.1, bs, m_P r.1, bs, m_isZone hM0 hT eT, bs, bI_f v1, if_pos rfl, m_refuse1 hM0, bs]
theorem a_minutes (h : Inv M j) (hj : j ≤ 512) (x1 : Int32) : An2 (sh_X11_minutes 64 x1) (sh_X12_minutes 319 x1) M j := by
  obtain ⟨⟨P, D, cv⟩, rm⟩ := id h
  obtain ⟨⟨o, w, -, t6⟩, ⟨mk, -, -, -, ak⟩, ⟨n, c, c1, c2, c3⟩, -⟩ := id cv
  obtain ⟨s, av, nv, no, st⟩ := id c3
  have hM := w.1
  have hT := w.2.2.2.2.2.1
  have h1' : (1 : Int32).toInt = 1 := rfl
  have h60 : (60 : Int32).toInt = 60 := rfl
  by_cases v1 : (1 : Int32).toInt ≤ x1.toInt ∧ x1.toInt ≤ (60 : Int32).toInt
  · have n1 : ¬ x1 < 1 := by rw [tI_lt]; omega
    have n2 : x1 ≤ 60 := by rw [tI_le]; omega
    obtain ⟨m, e1, hm1, hm⟩ := in_n (a := 1) (b := 60) v1
    subst e1
    obtain ⟨X, k1, k2, k3, k4, k5, k6, k7, k8⟩ := c_keepAct w rm.1 mk ak s av
    have wX := k2.wd rm.1 k3 (Or.inl rfl) w
    have oX := k2.obk rm.1 k3 (Or.inl rfl) o
    have mkX := k2.mk rm.1 k3 (Or.inl rfl) mk
    have c257 : ∀ a, a ∈ cl 263 → 257 ≤ a := fun a ha => by have := cl_mem ha; omega
    have wf : ∀ Y, Fm (cl 263) X Y → Wd Y P (M.1 325) ∧ ObK Y P D ∧ MmK Y 257 := fun Y f => by
      obtain ⟨a, b, c, d, e, g, i⟩ := wX
      refine ⟨⟨a.fm f, b.fm f, ?_, d.fm f, e, g, i.fm' d g e f c257⟩, ?_, ?_⟩
      · unfold FsK at *; rw [f.1]; exact c
      · unfold ObK at *; rw [f.1]; exact oX
      · unfold MmK at *; rw [f.1]; exact mkX
    have key : ∃ M1, lp (X11_minutes_B26 64 (Int32.ofNat m)) FU (0, X) = some M1 ∧ (Fm (cl 263) X M1 ∧ Sd M1 263 P (mRun (M.1 325) (M.1 324) m) (M.1 325) (1300 * j + 20 * m)) := by
      refine lp_inv (fun i q => q.1 = Int32.ofNat i ∧ Fm (cl 263) X q.2 ∧ Sd q.2 263 P (mRun (M.1 325) (M.1 324) i) (M.1 325) (1300 * j + 20 * i)) _ m ?_ ?_ ⟨rfl, Fm.rfl' _ _, k4⟩ (by omega)
      · rintro i ⟨q, Y⟩ hi ⟨g1, g2, g3⟩
        replace g1 : q = Int32.ofNat i := g1
        subst g1
        replace g2 : Fm (cl 263) X Y := g2
        obtain ⟨wY, oY, mY⟩ := wf Y g2
        obtain ⟨Z, b1, b2, b3⟩ := c_pass wY g3 (by omega)
        refine Or.inl ⟨(Int32.ofNat (i + 1), Z), ?_, rfl, g2.trans b2 (fun _ q => q) (fun _ q => q), b3⟩
        unfold X11_minutes_B26
        simp (disch := omega) only [le_n, o_clock wY.1 oY, o_mem wY.1 oY, mm_now wY.1 mY, bs, b1, suc_n]
        rw [if_neg (by omega)]
      · rintro ⟨q, Y⟩ ⟨g1, g2, g3⟩
        replace g1 : q = Int32.ofNat m := g1
        subst g1
        refine ⟨Y, ?_, g2, g3⟩
        unfold X11_minutes_B26
        simp (disch := omega) only [le_n]
        rw [if_pos (Nat.le_refl _)]
    obtain ⟨M1, r1, r2, r3⟩ := key
    obtain ⟨w1, o1, mk1⟩ := wf M1 r2
    have gr : ∀ b, (b < 263 ∨ (277 < b ∧ b < 300) ∨ 301 < b) → M1.1 b = X.1 b := fun b hb => r2.2 b (fun q => by have := cl_mem q; omega)
    have s1 : Sd M1 263 P (mRun (M.1 325) (M.1 324) m) (M.1 325) (1300 * (j + 1)) := r3.sd (by omega)
    obtain ⟨M3, d1, d2⟩ := kept_ref (M := M) (M1 := M1) (n := n) w1.1 (fun a h1 h2 => by rw [gr a (by omega)]; exact k6 a (by omega) (by omega)) c1 (by obtain ⟨_, _, _, _, q, _⟩ := av; exact q)
    have hM3 := d2.1
    have e3 : M3.1 324 = M.1 324 := d2.2.2.2.2.2.2 324 (by decide) (by decide) (by omega) (by omega)
    have e5 : M3.1 325 = M.1 325 := d2.2.2.2.2.2.2 325 (by decide) (by decide) (by omega) (by omega)
    have keyR : ∃ M2, lp (X12_minutes_B27 319 (Int32.ofNat m)) FU (0, M3) = some M2 ∧ (Fm [324, 330, 331] M3 M2 ∧ M2.1 324 = mRun (M.1 325) (M.1 324) m) := by
      refine lp_inv (fun i q => q.1 = Int32.ofNat i ∧ Fm [324, 330, 331] M3 q.2 ∧ q.2.1 324 = mRun (M.1 325) (M.1 324) i) _ m ?_ ?_ ⟨rfl, Fm.rfl' _ _, e3⟩ (by omega)
      · rintro i ⟨q, Y⟩ hi ⟨g1, g2, g3⟩
        replace g1 : q = Int32.ofNat i := g1
        subst g1
        replace g2 : Fm [324, 330, 331] M3 Y := g2
        obtain ⟨Z, b1, b2, b3⟩ := m_min1 (hM3.fm g2) ((g2.2 325 (by decide)).trans e5) g3 hT (Lg_run hT s.2.2.2.2 i (by omega)) (by omega)
        refine Or.inl ⟨(Int32.ofNat (i + 1), Z), ?_, rfl, g2.trans b2 (fun _ q => q) (fun _ q => q), b3⟩
        unfold X12_minutes_B27
        simp (disch := omega) only [le_n, bs, b1, suc_n]
        rw [if_neg (by omega)]
      · rintro ⟨q, Y⟩ ⟨g1, g2, g3⟩
        replace g1 : q = Int32.ofNat m := g1
        subst g1
        refine ⟨Y, ?_, g2, g3⟩
        unfold X12_minutes_B27
        simp (disch := omega) only [le_n]
        rw [if_pos (Nat.le_refl _)]
    obtain ⟨M2, t1, t2, t3⟩ := keyR
    have e142 : M1.1 263 1 = mRun (M.1 325) (M.1 324) m 142 := r3.2.2.1.1.1
    refine ⟨mRun (M.1 325) (M.1 324) m 142, M1, M2, ?_, ?_, ?_⟩
    · unfold sh_X11_minutes X11_minutes_F
      rw [o_O hM, bs, if_neg n1, if_pos n2, o_mem hM o, bs, k1, bs, r1, bs, o_mem w1.1 o1, bs, mm_now w1.1 mk1, bs, s_I r3.1, bs, e142]
    · have r : Rf M1 (M.1 325) (M.1 324) (1300 * j) := ⟨w1.1, hT, s.2.2.2.1, s.2.2.2.2, by rw [gr 325 (by omega)]; exact k6 325 (by omega) (by omega), by rw [gr 324 (by omega)]; exact k6 324 (by omega) (by omega)⟩
      have hM2 := hM3.fm t2
      unfold sh_X12_minutes X12_minutes_F
      rw [m_O r.1, bs, m_P r.1, bs, m_isIn, bs, bI_t v1, if_neg (by decide), d1, bs, t1, bs, m_now hM2, bs, ld324_142 hM2, bs, t3]
    · exact act_fin rm cv c1 c2 c3 k2 k3 k5 k6 k7 k8 r2.1 gr s1 d2 t2 t3
  · refine act_ref (i := 1) (b := -1) h cv (by omega) ?_ (fun M0 r _ => ?_)
    · unfold sh_X11_minutes X11_minutes_F X11_minutes_J11
      rw [o_O hM, bs]
      by_cases q1 : x1 < 1
      · rw [if_pos q1, c_refuse hM o mk, bs]
      · have q2 : ¬ x1 ≤ 60 := by
          rw [tI_lt] at q1
          rw [tI_le]
          omega
        rw [if_neg q1, if_neg q2, c_refuse hM o mk, bs]
    · obtain ⟨hM0, -, -, -, eT, eN⟩ := r.z (x := 0)
      unfold sh_X12_minutes X12_minutes_F
      rw [m_O r.1, bs, m_P r.1, bs, m_isIn, bs, bI_f v1, if_pos rfl, m_refuse1 hM0, bs]
theorem a_fault (h : Inv M j) : ∃ b M2, sh_X11_fault 64 M = some b ∧ sh_X12_fault 319 M = some (b, M2) ∧ Inv M2 (j + 1) ∧ Ky M2 := by
  obtain ⟨⟨P, D, cv⟩, rm⟩ := id h
  have hM := cv.1.2.1.1
  have e20 := cv.2.2.2.2.2
  refine ⟨M.1 64 2, sI M 319 4 0, ?_, ?_, ?_⟩
  · unfold sh_X11_fault X11_fault_F
    rw [o_O hM, bs, o_I hM, bs]
  · unfold sh_X12_fault X12_fault_F
    rw [m_O hM, bs, m_P hM, bs, m_I (hM.sI _ _ _), bs, sI_own, ud_ne _ _ (by decide), e20]
  · have q := Rq.z M 0
    exact ⟨⟨⟨P, D, (q.rs.cv (q.sc.cv rm.1 cv)).le (by omega)⟩, rm.ft rfl (by omega)⟩, hM.sI _ _ _⟩
end
