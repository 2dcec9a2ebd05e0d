/-! ===== PURE 52: load, hold, start, foresee, minutes ===== -/
section
variable {M M1 M2 : Gm} {S P D k k' n c j : Nat} {N N' T pa nz nm nh st : Nat → Int32}
theorem m_refuse1 (hM : Ky M) : sh_X12_refuse 319 1 M = some (-1, sI M 328 1 (M.1 328 1 + 1)) := m_refuse (i := 1) hM (by omega)
/-- the reference has kept the act -/
def KR (M M1 M3 : Gm) (n : Nat) : Prop := Ky M3 ∧ M3.2 = M1.2 ∧ (∀ a, a < 319 ∨ 345 < a → M3.1 a = M1.1 a) ∧ M3.1 333 = keepR (M.1 333) (M.1 324) n ∧ M3.1 319 26 = Int32.ofNat (min (n + 1) 40) ∧ (∀ i, i ≠ 4 → i ≠ 26 → M3.1 319 i = M.1 319 i) ∧ ∀ a, a ≠ 319 → a ≠ 333 → 319 ≤ a → a < 345 → M3.1 a = M.1 a
theorem kept_ref (hM1 : Ky M1) (row : ∀ a, 319 ≤ a → a < 345 → M1.1 a = M.1 a) (c1 : M.1 319 26 = Int32.ofNat n) (hn : n ≤ 40) : ∃ M3, sh_X12_keep 319 (sI M1 319 4 0) = some M3 ∧ KR M M1 M3 n := by
  obtain ⟨M3, a1, a2, a3, a4⟩ := m_keep (hM1.sI 319 4 0) (by rw [sI_own, ud_ne _ _ (by decide), row 319 (by omega) (by omega)]; exact c1) hn
  have o : ∀ a, a ≠ 319 → a ≠ 333 → M3.1 a = M1.1 a := fun a h1 h2 => by rw [a2.2 a (by simp [h1, h2]), sI_ne _ _ _ h1]
  refine ⟨M3, a1, (hM1.sI _ _ _).fm a2, a2.1, fun a ha => o a (by omega) (by omega), ?_, ?_, fun i h1 h2 => ?_, fun a h1 h2 h3 h4 => (o a h1 h2).trans (row a h3 h4)⟩
  · rw [a4, sI_ne _ _ _ (by decide), sI_ne _ _ _ (by decide), row 333 (by omega) (by omega), row 324 (by omega) (by omega)]
  · rw [a3, ud_at]
  · rw [a3, ud_ne _ _ h2, sI_own, ud_ne _ _ h1, row 319 (by omega) (by omega)]
/-- what an act has at hand when it begins, and when it is kept -/
theorem act_fin {X M3 : Gm} (rm : Rm M j) (cv : CV M M.1 P D (1300 * j)) (c1 : M.1 319 26 = Int32.ofNat n) (c2 : M.1 319 28 = Int32.ofNat c) (c3 : MmV M 257 P (M.1 325) (1300 * j) (M.1 324) (M.1 333) (M.1 334) (M.1 335) (M.1 336) (M.1 328) n c)
    (f : Fg 257 M X) (akX : AcK X) (avX : ActV X 257 P (M.1 325) (1300 * j) (keepR (M.1 333) (M.1 324) n) (min (n + 1) 40)) (xr : ∀ b, b < 346 → b ≠ 257 → X.1 b = M.1 b) (x7 : X.1 257 7 = M.1 257 7) (nr : Nr M X 1)
    (e1 : M1.2 = X.2) (r1 : ∀ b, (b < 263 ∨ (277 < b ∧ b < 300) ∨ 301 < b) → M1.1 b = X.1 b) (s1 : Sd M1 263 P N' (M.1 325) (1300 * (j + 1)))
    (kr : KR M M1 M3 n) (g : Fm [324, 330, 331] M3 M2) (h24 : M2.1 324 = N') : Inv M2 (j + 1) ∧ Ky M2 := by
  obtain ⟨k1, k2, k3, k4, k5, k6, k7⟩ := kr
  have gi : ∀ a, a ≠ 324 → a ≠ 330 → a ≠ 331 → M2.1 a = M3.1 a := fun a h1 h2 h3 => g.2 a (by simp [h1, h2, h3])
  refine act_kept rm cv c3 c2 ⟨rfl, rfl, rfl, rfl⟩ f akX avX xr x7 nr e1 r1 s1 (g.1.trans k2) (fun a ha => (gi a (by omega) (by omega) (by omega)).trans (k3 a ha)) h24 (by rw [gi 333 (by decide) (by decide) (by decide)]; exact k4) (by rw [gi 319 (by decide) (by decide) (by decide)]; exact k5) (fun i hi => ?_) (fun a ha => ?_)
  · rw [gi 319 (by decide) (by decide) (by decide)]
    simp only [List.mem_cons, List.not_mem_nil, or_false] at hi
    exact k6 i (by omega) (by omega)
  · simp only [List.mem_cons, List.not_mem_nil, or_false] at ha
    rw [gi a (by omega) (by omega) (by omega)]
    exact k7 a (by omega) (by omega) (by omega) (by omega)
theorem a_load (h : Inv M j) (x1 x2 : Int32) : An2 (sh_X11_load 64 x1 x2) (sh_X12_load 319 x1 x2) M j := by
  obtain ⟨⟨P, D, cv⟩, rm⟩ := id h
  obtain ⟨⟨o, w, -, t6⟩, ⟨mk, -, -, -, ak⟩, ⟨n, c, c1, c2, c3⟩, -⟩ := id cv
  obtain ⟨s, av, nv, no, st⟩ := id c3
  have hM := w.1
  have hT := w.2.2.2.2.2.1
  have h5 := hT.z
  have hP := w.2.2.2.1
  have pv := w.2.2.2.2.2.2
  have h0 : (0 : Int32).toInt = 0 := rfl
  have h99 : (99 : Int32).toInt = 99 := rfl
  have hz' := c_hasZone hP (n := tz (M.1 325)) (by omega) (pv.1.1.trans h5.1) x1
  have iw : ∀ M0 : Gm, sh_X12_isIn x2 0 99 M0 = some (bI (vl x2 100)) := fun M0 => m_isW (m := 99) (by omega)
  by_cases v1 : vl x1 (tz (M.1 325))
  · obtain ⟨z, hz, e1⟩ := id v1
    subst e1
    by_cases v2 : vl x2 100
    · have v2' := (vl_iff (by omega)).mp v2
      have n1 : ¬ x2 < 0 := by rw [tI_lt]; omega
      have n2 : ¬ 99 < x2 := by rw [tI_lt]; omega
      have eL : M.1 265 z = M.1 324 (5 + z) := (s.2.2.1.2.1 z hz).2.1
      by_cases v3 : M.1 324 (5 + z) = x2
      · refine act_ref (i := 1) (b := -1) h cv (by omega) ?_ (fun M0 r _ => ?_)
        · unfold sh_X11_load X11_load_F X11_load_J37
          rw [o_O hM, bs, o_plan hM o, bs, hz', bs, bI_t v1, if_neg (by decide), if_neg n1, if_neg n2, o_mem hM o, bs, mm_now hM mk, bs, s_load s.1, bs, sl2 s.1 (by omega), bs, eL, if_pos v3, c_refuse hM o mk, bs]
        · obtain ⟨hM0, -, -, -, eT, eN⟩ := r.z (x := 0)
          unfold sh_X12_load X12_load_F X12_load_J35
          rw [m_O r.1, bs, m_P r.1, bs, m_isZone hM0 hT eT, bs, bI_t v1, if_neg (by decide), iw, bs, bI_t v2, if_neg (by decide), m_now hM0, bs, ix5, ld324 hM0 (by omega), bs, eN, if_pos v3, m_refuse1 hM0, bs]
      · obtain ⟨X, k1, k2, k3, k4, k5, k6, k7, k8⟩ := c_keepAct w rm.1 mk ak s av
        have wX := k2.wd rm.1 k3 (Or.inl rfl) w
        have oX := k2.obk rm.1 k3 (Or.inl rfl) o
        have mkX := k2.mk rm.1 k3 (Or.inl rfl) mk
        have eLX : X.1 265 z = M.1 324 (5 + z) := (k4.2.2.1.2.1 z hz).2.1
        have stX : stA X 0 (263 + 2) (Int32.ofNat z) x2 = some (sI X 265 z x2) := ss2 k4.1 _ (by omega)
        have lX : ldA X 0 (263 + 2) (Int32.ofNat z) = some (M.1 324 (5 + z)) := by rw [sl2 k4.1 (by omega), eLX]
        have i2 : isN x2 0 99 := by obtain ⟨m, q1, q2⟩ := v2; exact ⟨m, q2, by omega, by omega⟩
        have s1 : Sd (sI X 265 z x2) 263 P (ud (M.1 324) (5 + z) x2) (M.1 325) (1300 * (j + 1)) := ⟨k4.1.sI _ _ _, k4.2.1, k4.2.2.1.load hT hz _, k4.2.2.2.1.load hT hz i2, (k4.2.2.2.2.ud _ (by omega)).w (by omega)⟩
        obtain ⟨M3, d1, d2⟩ := kept_ref (M := M) (M1 := sI X 265 z x2) (n := n) (wX.1.sI _ _ _) (fun a h1 h2 => by rw [sI_ne _ _ _ (by omega)]; exact k6 a (by omega) (by omega)) c1 (by obtain ⟨_, _, _, _, q, _⟩ := av; exact q)
        have hM3 := d2.1
        have e3 : M3.1 324 = M.1 324 := d2.2.2.2.2.2.2 324 (by decide) (by decide) (by omega) (by omega)
        refine ⟨M.1 324 (5 + z), sI X 265 z x2, sI M3 324 (5 + z) x2, ?_, ?_, ?_⟩
        · unfold sh_X11_load X11_load_F
          rw [o_O hM, bs, o_plan hM o, bs, hz', bs, bI_t v1, if_neg (by decide), if_neg n1, if_neg n2, o_mem hM o, bs, mm_now hM mk, bs, s_load s.1, bs, sl2 s.1 (by omega), bs, eL, if_neg v3, bs, k1, bs]
          simp only [bs, o_mem wX.1 oX, mm_now wX.1 mkX, s_load k4.1, lX, stX]
        · have r : Rf (sI X 265 z x2) (M.1 325) (M.1 324) (1300 * j) := ⟨wX.1.sI _ _ _, hT, s.2.2.2.1, s.2.2.2.2, by rw [sI_ne _ _ _ (by decide)]; exact k6 325 (by omega) (by omega), by rw [sI_ne _ _ _ (by decide)]; exact k6 324 (by omega) (by omega)⟩
          obtain ⟨hM0, -, -, -, eT, eN⟩ := r.z (x := 0)
          unfold sh_X12_load X12_load_F
          rw [m_O r.1, bs, m_P r.1, bs, m_isZone hM0 hT eT, bs, bI_t v1, if_neg (by decide), iw, bs, bI_t v2, if_neg (by decide), m_now hM0, bs, ix5, ld324 hM0 (by omega), bs, eN, if_neg v3, d1, bs]
          simp (disch := omega) only [bs, m_now hM3, ld324 hM3, st324 hM3, e3]
        · exact act_fin (M1 := sI X 265 z x2) (M2 := sI M3 324 (5 + z) x2) rm cv c1 c2 c3 k2 k3 k5 k6 k7 k8 rfl (fun b hb => sI_ne _ _ _ (by omega)) s1 d2 ⟨rfl, fun b hb => sI_ne _ _ _ (fun e => hb (by rw [e]; decide))⟩ (by rw [sI_own, e3])
    · refine act_ref (i := 1) (b := -1) h cv (by omega) ?_ (fun M0 r _ => ?_)
      · unfold sh_X11_load X11_load_F X11_load_J37
        rw [o_O hM, bs, o_plan hM o, bs, hz', bs, bI_t v1, if_neg (by decide)]
        by_cases q1 : x2 < 0
        · rw [if_pos q1, c_refuse hM o mk, bs]
        · have q2 : 99 < x2 := by
            rw [tI_lt] at q1 ⊢
            have := v2
            rw [vl_iff (by omega)] at this
            omega
          rw [if_neg q1, if_pos q2, c_refuse hM o mk, bs]
      · obtain ⟨hM0, -, -, -, eT, eN⟩ := r.z (x := 0)
        unfold sh_X12_load X12_load_F X12_load_J35
        rw [m_O r.1, bs, m_P r.1, bs, m_isZone hM0 hT eT, bs, bI_t v1, if_neg (by decide), iw, bs, bI_f v2, if_pos rfl, m_refuse1 hM0, bs]
  · refine act_ref (i := 1) (b := -1) h cv (by omega) ?_ (fun M0 r _ => ?_)
    · unfold sh_X11_load X11_load_F X11_load_J37
      rw [o_O hM, bs, o_plan hM o, bs, hz', bs, bI_f v1, if_pos rfl, c_refuse hM o mk, bs]
    · obtain ⟨hM0, -, -, -, eT, eN⟩ := r.z (x := 0)
      unfold sh_X12_load X12_load_F X12_load_J35
      rw [m_O r.1, bs, m_P r.1, bs, m_isZone hM0 hT eT, bs, bI_f v1, if_pos rfl, m_refuse1 hM0, bs]
theorem NOk.hold {d : Nat} (hT : TOk T) (h : NOk N T) (hd : d < td T) {x : Int32} (h1 : -1 ≤ x.toInt) (h2 : x.toInt ≤ mn T d) : NOk (ud N (76 + d) x) T := by
  have h10 := hT.t.2
  have h5 := hT.z.2
  have h6 := hT.d.2
  obtain ⟨a, b, c, e, f, g⟩ := h
  refine ⟨fun y hy => ?_, fun y i hy hi => ?_, fun u hu => ?_, fun d' hd' => ?_, fun u d' hu hd' => ?_, ?_⟩
  · rw [ud_ne _ _ (by omega), ud_ne _ _ (by omega), ud_ne _ _ (by omega), ud_ne _ _ (by omega), ud_ne _ _ (by omega), ud_ne _ _ (by omega)]; exact a y hy
  · rw [ud_ne _ _ (by omega)]; exact b y i hy hi
  · rw [ud_ne _ _ (by omega)]; exact c u hu
  · rw [ud_ne _ _ (show 70 + d' ≠ 76 + d by omega)]
    refine ⟨(e d' hd').1, ?_⟩
    by_cases ed : d' = d
    · rw [ed, ud_at]; exact ⟨h1, h2⟩
    · rw [ud_ne _ _ (by omega)]; exact (e d' hd').2
  · rw [ud_ne _ _ (by omega)]; exact f u d' hu hd'
  · rw [ud_ne _ _ (by omega)]; exact g
theorem a_hold (h : Inv M j) (x1 x2 : Int32) : An2 (sh_X11_hold 64 x1 x2) (sh_X12_hold 319 x1 x2) M j := by
  obtain ⟨⟨P, D, cv⟩, rm⟩ := id h
  obtain ⟨⟨o, w, -, t6⟩, ⟨mk, -, -, -, ak⟩, ⟨n, c, c1, c2, c3⟩, -⟩ := id cv
  obtain ⟨s, av, nv, no, st⟩ := id c3
  have hM := w.1
  have hT := w.2.2.2.2.2.1
  have h6 := hT.d
  have hP := w.2.2.2.1
  have pv := w.2.2.2.2.2.2
  have hm1 : (-1 : Int32).toInt = -1 := rfl
  have hz' := c_hasDevice hP (n := td (M.1 325)) (by omega) (pv.1.2.2.1.trans h6.1) x1
  have r2 : ∀ M0 : Gm, Ky M0 → X12_hold_J43 319 M0 = some (-2, sI M0 328 1 (M0.1 328 1 + 1)) := fun M0 hM0 => by
    unfold X12_hold_J43
    rw [m_refuse1 hM0, bs]
    show some ((-1 : Int32) - 1, _) = _
    rw [show (-1 : Int32) - 1 = -2 by decide]
  by_cases v1 : vl x1 (td (M.1 325))
  · obtain ⟨d, hd, e1⟩ := id v1
    subst e1
    have mb := isN_nn (hT.2.2.2.1 d hd).2.2.1 (by omega)
    have mbt := isN_tI (hT.2.2.2.1 d hd).2.2.1 (by omega)
    have emn : (M.1 325 (67 + d)).toInt = mn (M.1 325) d := by
      show _ = ((M.1 325 (67 + d)).toNatClampNeg : Int)
      rw [mb.1, tn _ (by omega), ← mb.1]
    have eD : M.1 (P + 21 + d) 2 = M.1 325 (67 + d) := (pv.2.2.2.1 d hd).2.2
    have eL : M.1 274 d = M.1 324 (76 + d) := (s.2.2.1.2.2.2.2.1 d hd).2.1
    by_cases v2 : (-1 : Int32).toInt ≤ x2.toInt ∧ x2.toInt ≤ (M.1 325 (67 + d)).toInt
    · have n1 : ¬ x2 < -1 := by rw [tI_lt]; omega
      have n2 : ¬ M.1 325 (67 + d) < x2 := by rw [tI_lt]; omega
      by_cases v3 : M.1 324 (76 + d) = x2
      · refine act_ref (i := 1) (b := -2) h cv (by omega) ?_ (fun M0 r _ => ?_)
        · unfold sh_X11_hold X11_hold_F X11_hold_J48
          rw [o_O hM, bs, o_plan hM o, bs, hz', bs, bI_t v1, if_neg (by decide), if_neg n1]
          simp (disch := omega) only [bs, p_devices hP, p_device hP, pd_I hP, eD, o_mem hM o, mm_now hM mk, s_held s.1, sl11 s.1, eL]
          rw [if_neg n2, if_pos v3, c_refuse hM o mk, bs]
        · obtain ⟨hM0, -, -, -, eT, eN⟩ := r.z (x := 0)
          unfold sh_X12_hold X12_hold_F
          rw [m_O r.1, bs, m_P r.1, bs, m_isDevice hM0 hT eT, bs, bI_t v1, if_neg (by decide), m_told hM0, bs, ix67, ld325 hM0 (by omega), bs, eT, m_isIn, bs, bI_t v2, if_neg (by decide), m_now hM0, bs, ix76, ld324 hM0 (by omega), bs, eN, if_pos v3, r2 _ hM0]
      · obtain ⟨X, k1, k2, k3, k4, k5, k6, k7, k8⟩ := c_keepAct w rm.1 mk ak s av
        have wX := k2.wd rm.1 k3 (Or.inl rfl) w
        have oX := k2.obk rm.1 k3 (Or.inl rfl) o
        have mkX := k2.mk rm.1 k3 (Or.inl rfl) mk
        have eLX : X.1 274 d = M.1 324 (76 + d) := (k4.2.2.1.2.2.2.2.1 d hd).2.1
        have stX : stA X 0 (263 + 11) (Int32.ofNat d) x2 = some (sI X 274 d x2) := ss11 k4.1 _ (by omega)
        have lX : ldA X 0 (263 + 11) (Int32.ofNat d) = some (M.1 324 (76 + d)) := by rw [sl11 k4.1 (by omega), eLX]
        have s1 : Sd (sI X 274 d x2) 263 P (ud (M.1 324) (76 + d) x2) (M.1 325) (1300 * (j + 1)) := ⟨k4.1.sI _ _ _, k4.2.1, k4.2.2.1.held hT hd _, k4.2.2.2.1.hold hT hd (by omega) (by omega), (k4.2.2.2.2.ud _ (by omega)).w (by omega)⟩
        obtain ⟨M3, d1, d2⟩ := kept_ref (M := M) (M1 := sI X 274 d x2) (n := n) (wX.1.sI _ _ _) (fun a h1 h2 => by rw [sI_ne _ _ _ (by omega)]; exact k6 a (by omega) (by omega)) c1 (by obtain ⟨_, _, _, _, q, _⟩ := av; exact q)
        have hM3 := d2.1
        have e3 : M3.1 324 = M.1 324 := d2.2.2.2.2.2.2 324 (by decide) (by decide) (by omega) (by omega)
        refine ⟨M.1 324 (76 + d), sI X 274 d x2, sI M3 324 (76 + d) x2, ?_, ?_, ?_⟩
        · unfold sh_X11_hold X11_hold_F
          rw [o_O hM, bs, o_plan hM o, bs, hz', bs, bI_t v1, if_neg (by decide), if_neg n1]
          simp (disch := omega) only [bs, p_devices hP, p_device hP, pd_I hP, eD, o_mem hM o, mm_now hM mk, s_held s.1, sl11 s.1, eL]
          rw [if_neg n2, if_neg v3, k1, bs]
          simp only [bs, o_mem wX.1 oX, mm_now wX.1 mkX, s_held k4.1, lX, stX]
        · have r : Rf (sI X 274 d x2) (M.1 325) (M.1 324) (1300 * j) := ⟨wX.1.sI _ _ _, hT, s.2.2.2.1, s.2.2.2.2, by rw [sI_ne _ _ _ (by decide)]; exact k6 325 (by omega) (by omega), by rw [sI_ne _ _ _ (by decide)]; exact k6 324 (by omega) (by omega)⟩
          obtain ⟨hM0, -, -, -, eT, eN⟩ := r.z (x := 0)
          unfold sh_X12_hold X12_hold_F
          rw [m_O r.1, bs, m_P r.1, bs, m_isDevice hM0 hT eT, bs, bI_t v1, if_neg (by decide), m_told hM0, bs, ix67, ld325 hM0 (by omega), bs, eT, m_isIn, bs, bI_t v2, if_neg (by decide), m_now hM0, bs, ix76, ld324 hM0 (by omega), bs, eN, if_neg v3, d1, bs]
          simp (disch := omega) only [bs, m_now hM3, ld324 hM3, st324 hM3, e3]
        · exact act_fin (M1 := sI X 274 d x2) (M2 := sI M3 324 (76 + d) x2) rm cv c1 c2 c3 k2 k3 k5 k6 k7 k8 rfl (fun b hb => sI_ne _ _ _ (by omega)) s1 d2 ⟨rfl, fun b hb => sI_ne _ _ _ (fun e => hb (by rw [e]; decide))⟩ (by rw [sI_own, e3])
    · refine act_ref (i := 1) (b := -2) h cv (by omega) ?_ (fun M0 r _ => ?_)
      · unfold sh_X11_hold X11_hold_F X11_hold_J48
        rw [o_O hM, bs, o_plan hM o, bs, hz', bs, bI_t v1, if_neg (by decide)]
        by_cases q1 : x2 < -1
        · rw [if_pos q1, c_refuse hM o mk, bs]
        · have q2 : M.1 325 (67 + d) < x2 := by
            rw [tI_lt] at q1 ⊢
            omega
          rw [if_neg q1]
          simp (disch := omega) only [bs, p_devices hP, p_device hP, pd_I hP, eD]
          rw [if_pos q2, c_refuse hM o mk, bs]
      · obtain ⟨hM0, -, -, -, eT, eN⟩ := r.z (x := 0)
        unfold sh_X12_hold X12_hold_F
        rw [m_O r.1, bs, m_P r.1, bs, m_isDevice hM0 hT eT, bs, bI_t v1, if_neg (by decide), m_told hM0, bs, ix67, ld325 hM0 (by omega), bs, eT, m_isIn, bs, bI_f v2, if_pos rfl, r2 _ hM0]
  · refine act_ref (i := 1) (b := -2) h cv (by omega) ?_ (fun M0 r _ => ?_)
    · unfold sh_X11_hold X11_hold_F X11_hold_J48
      rw [o_O hM, bs, o_plan hM o, bs, hz', bs, bI_f v1, if_pos rfl, c_refuse hM o mk, bs]
    · obtain ⟨hM0, -, -, -, eT, eN⟩ := r.z (x := 0)
      unfold sh_X12_hold X12_hold_F
      rw [m_O r.1, bs, m_P r.1, bs, m_isDevice hM0 hT eT, bs, bI_f v1, if_pos rfl, r2 _ hM0]
theorem StV.fore (sv : StV M S N T) (hT : TOk T) (x : Int32) : StV (sI M S 2 x) S (ud N 143 x) T := by
  have h10 := hT.t.2
  have h5 := hT.z.2
  have h6 := hT.d.2
  have eL : lg (ud N 143 x) = lg N := by unfold lg; rw [ud_ne _ _ (by decide)]
  have f : ∀ b, b ≠ S → (sI M S 2 x).1 b = M.1 b := fun b hb => sI_ne M 2 x hb
  obtain ⟨⟨a1, a2, a3, a4, a5⟩, b, c, d, e, g, i⟩ := sv
  refine ⟨⟨?_, ?_, ?_, ?_, ?_⟩, fun z hz => ?_, fun z i hz hi => ?_, fun t ht => ?_, fun d' hd => ?_, fun t i' ht hi => ?_, fun j hj => ?_⟩
  · rw [sI_own, ud_ne _ _ (by decide), ud_ne _ _ (by decide)]; exact a1
  · rw [sI_own, ud_at, ud_at]
  · rw [sI_own, ud_ne _ _ (by decide), eL]; exact a3
  · rw [sI_own, ud_ne _ _ (by decide), eL]; exact a4
  · rw [sI_own, ud_ne _ _ (by decide), ud_ne _ _ (by decide)]; exact a5
  · rw [f _ (by omega), f _ (by omega), f _ (by omega), f _ (by omega), f _ (by omega), f _ (by omega), ud_ne _ _ (by omega), ud_ne _ _ (by omega), ud_ne _ _ (by omega), ud_ne _ _ (by omega), ud_ne _ _ (by omega)]
    exact b z hz
  · rw [f _ (by omega), ud_ne _ _ (by omega)]; exact c z i hz hi
  · rw [f _ (by omega), f _ (by omega), ud_ne _ _ (by omega), ud_ne _ _ (by omega)]; exact d t ht
  · rw [f _ (by omega), f _ (by omega), f _ (by omega), ud_ne _ _ (by omega), ud_ne _ _ (by omega)]; exact e d' hd
  · have := (di_ok hT (by omega) hi).2.2
    rw [f _ (by omega), ud_ne _ _ (by omega)]; exact g t i' ht hi
  · rw [eL] at hj
    rw [f _ (by omega), ud_ne _ _ (by omega)]; exact i j hj
theorem NOk.fore (hT : TOk T) (h : NOk N T) {x : Int32} (hx : isN x 0 9) : NOk (ud N 143 x) T := by
  have h10 := hT.t.2
  have h5 := hT.z.2
  have h6 := hT.d.2
  obtain ⟨a, b, c, e, f, g⟩ := h
  refine ⟨fun y hy => ?_, fun y i hy hi => ?_, fun u hu => ?_, fun d' hd' => ?_, fun u d' hu hd' => ?_, ?_⟩
  · rw [ud_ne _ _ (by omega), ud_ne _ _ (by omega), ud_ne _ _ (by omega), ud_ne _ _ (by omega), ud_ne _ _ (by omega), ud_ne _ _ (by omega)]; exact a y hy
  · rw [ud_ne _ _ (by omega)]; exact b y i hy hi
  · rw [ud_ne _ _ (by omega)]; exact c u hu
  · rw [ud_ne _ _ (by omega), ud_ne _ _ (by omega)]; exact e d' hd'
  · rw [ud_ne _ _ (by omega)]; exact f u d' hu hd'
  · rw [ud_at]; exact hx
theorem a_foresee (h : Inv M j) (x1 : Int32) : An2 (sh_X11_foresee 64 x1) (sh_X12_foresee 319 x1) M j := by
  obtain ⟨⟨P, D, cv⟩, rm⟩ := id h
  obtain ⟨⟨o, w, -, t6⟩, ⟨mk, -, -, -, ak⟩, ⟨n, c, c1, c2, c3⟩, -⟩ := id cv
  obtain ⟨s, av, nv, no, st⟩ := id c3
  have hM := w.1
  have hT := w.2.2.2.2.2.1
  have h0 : (0 : Int32).toInt = 0 := rfl
  have h9 : (9 : Int32).toInt = 9 := rfl
  have iw : ∀ M0 : Gm, sh_X12_isIn x1 0 9 M0 = some (bI (vl x1 10)) := fun M0 => m_isW (m := 9) (by omega)
  have eL : M.1 263 2 = M.1 324 143 := s.2.2.1.1.2.1
  by_cases v1 : vl x1 10
  · have v1' := (vl_iff (by omega)).mp v1
    have n1 : ¬ x1 < 0 := by rw [tI_lt]; omega
    have n2 : ¬ 9 < x1 := by rw [tI_lt]; omega
    by_cases v3 : M.1 324 143 = x1
    · refine act_ref (i := 1) (b := -1) h cv (by omega) ?_ (fun M0 r _ => ?_)
      · unfold sh_X11_foresee X11_foresee_F X11_foresee_J24
        rw [o_O hM, bs, if_neg n1, if_neg n2, o_mem hM o, bs, mm_now hM mk, bs, s_I s.1, bs, eL, if_pos v3, c_refuse hM o mk, bs]
      · obtain ⟨hM0, -, -, -, eT, eN⟩ := r.z (x := 0)
        unfold sh_X12_foresee X12_foresee_F X12_foresee_J27
        rw [m_O r.1, bs, m_P r.1, bs, iw, bs, bI_t v1, if_neg (by decide), m_now hM0, bs, ld324_143 hM0, bs, eN, if_pos v3, m_refuse1 hM0, bs]
    · obtain ⟨X, k1, k2, k3, k4, k5, k6, k7, k8⟩ := c_keepAct w rm.1 mk ak s av
      have wX := k2.wd rm.1 k3 (Or.inl rfl) w
      have oX := k2.obk rm.1 k3 (Or.inl rfl) o
      have mkX := k2.mk rm.1 k3 (Or.inl rfl) mk
      have eLX : X.1 263 2 = M.1 324 143 := k4.2.2.1.1.2.1
      have i2 : isN x1 0 9 := by obtain ⟨m, q1, q2⟩ := v1; exact ⟨m, q2, by omega, by omega⟩
      have s1 : Sd (sI X 263 2 x1) 263 P (ud (M.1 324) 143 x1) (M.1 325) (1300 * (j + 1)) := ⟨k4.1.sI _ _ _, k4.2.1, k4.2.2.1.fore hT _, k4.2.2.2.1.fore hT i2, (k4.2.2.2.2.ud _ (by omega)).w (by omega)⟩
      obtain ⟨M3, d1, d2⟩ := kept_ref (M := M) (M1 := sI X 263 2 x1) (n := n) (wX.1.sI _ _ _) (fun a h1 h2 => by rw [sI_ne _ _ _ (by omega)]; exact k6 a (by omega) (by omega)) c1 (by obtain ⟨_, _, _, _, q, _⟩ := av; exact q)
      have hM3 := d2.1
      have e3 : M3.1 324 = M.1 324 := d2.2.2.2.2.2.2 324 (by decide) (by decide) (by omega) (by omega)
      refine ⟨M.1 324 143, sI X 263 2 x1, sI M3 324 143 x1, ?_, ?_, ?_⟩
      · unfold sh_X11_foresee X11_foresee_F
        rw [o_O hM, bs, if_neg n1, if_neg n2, o_mem hM o, bs, mm_now hM mk, bs, s_I s.1, bs, eL, if_neg v3, bs, k1, bs]
        simp only [bs, o_mem wX.1 oX, mm_now wX.1 mkX, s_I k4.1, eLX, s_P k4.1]
      · have r : Rf (sI X 263 2 x1) (M.1 325) (M.1 324) (1300 * j) := ⟨wX.1.sI _ _ _, hT, s.2.2.2.1, s.2.2.2.2, by rw [sI_ne _ _ _ (by decide)]; exact k6 325 (by omega) (by omega), by rw [sI_ne _ _ _ (by decide)]; exact k6 324 (by omega) (by omega)⟩
        obtain ⟨hM0, -, -, -, eT, eN⟩ := r.z (x := 0)
        unfold sh_X12_foresee X12_foresee_F
        rw [m_O r.1, bs, m_P r.1, bs, iw, bs, bI_t v1, if_neg (by decide), m_now hM0, bs, ld324_143 hM0, bs, eN, if_neg v3, d1, bs]
        simp only [bs, m_now hM3, ld324_143 hM3, st324_143 hM3, e3]
      · exact act_fin (M1 := sI X 263 2 x1) (M2 := sI M3 324 143 x1) rm cv c1 c2 c3 k2 k3 k5 k6 k7 k8 rfl (fun b hb => sI_ne _ _ _ (by omega)) s1 d2 ⟨rfl, fun b hb => sI_ne _ _ _ (fun e => hb (by rw [e]; decide))⟩ (by rw [sI_own, e3])
  · refine act_ref (i := 1) (b := -1) h cv (by omega) ?_ (fun M0 r _ => ?_)
    · unfold sh_X11_foresee X11_foresee_F X11_foresee_J24
      rw [o_O hM, bs]
      by_cases q1 : x1 < 0
      · rw [if_pos q1, c_refuse hM o mk, bs]
      · have q2 : 9 < x1 := by
          rw [tI_lt] at q1 ⊢
          have := v1
          rw [vl_iff (by omega)] at this
          omega
        rw [if_neg q1, if_pos q2, c_refuse hM o mk, bs]
    · obtain ⟨hM0, -, -, -, eT, eN⟩ := r.z (x := 0)
      unfold sh_X12_foresee X12_foresee_F X12_foresee_J27
      rw [m_O r.1, bs, m_P r.1, bs, iw, bs, bI_f v1, if_pos rfl, m_refuse1 hM0, bs]
end
