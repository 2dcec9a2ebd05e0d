/-! ===== PURE 55: note ===== -/
section
variable {M M1 M2 : Gm} {S P D k k' n c j : Nat} {N N' T pa nz nm nh st : Nat → Int32}
theorem c_refuse2 (hM : Ky M) (o : ObK M P D) (mk : MmK M 257) : X11_note_J57 64 M = some (-1, sI M 262 2 (M.1 262 2 + 1)) := by
  have l1 : ldA M 0 (257 + 5) 2 = some (M.1 262 2) := l_A (j := 2) (mm_kd hM mk).2.2.2.2.2 (by decide) (by decide)
  have s1 : ∀ y, stA M 0 (257 + 5) 2 y = some (sI M 262 2 y) := fun y => s_A (j := 2) y (mm_kd hM mk).2.2.2.2.2 (by decide) (by decide)
  unfold X11_note_J57
  rw [o_mem hM o, bs, mm_st hM mk, bs, l1, bs, s1, bs]
theorem m_refuse2 (hM : Ky M) : sh_X12_refuse 319 2 M = some (-1, sI M 328 2 (M.1 328 2 + 1)) := m_refuse (i := 2) hM (by omega)
theorem a_note (h : Inv M j) (x1 x2 x3 : Int32) : An2 (sh_X11_note 64 x1 x2 x3) (sh_X12_note 319 x1 x2 x3) M j := by
  obtain ⟨⟨P, D, cv⟩, rm⟩ := id h
  obtain ⟨⟨o, w, -, t6⟩, ⟨mk, -, -, -, ak⟩, ⟨n, c, c1, c2, c3⟩, -⟩ := id cv
  obtain ⟨s, av, nv, no, st⟩ := id c3
  have hM := w.1
  have hT := w.2.2.2.2.2.1
  have h5 := hT.z
  have hP := w.2.2.2.1
  have pv := w.2.2.2.2.2.2
  have h0 : (0 : Int32).toInt = 0 := rfl
  have h60 : (60 : Int32).toInt = 60 := rfl
  have h15 : (1500 : Int32).toInt = 1500 := rfl
  have hz' := c_hasZone hP (n := tz (M.1 325)) (by omega) (pv.1.1.trans h5.1) x1
  have iw2 : ∀ M0 : Gm, sh_X12_isIn x2 0 60 M0 = some (bI (vl x2 61)) := fun M0 => m_isW (m := 60) (by omega)
  have iw3 : ∀ M0 : Gm, sh_X12_isIn x3 0 1500 M0 = some (bI (vl x3 1501)) := fun M0 => m_isW (m := 1500) (by omega)
  have n7 := nv.1
  have n8 := nv.2.1
  by_cases v : (vl x1 (tz (M.1 325)) ∧ vl x2 61 ∧ vl x3 1501) ∧ c < 8
  · obtain ⟨⟨v1, v2, v3⟩, v4⟩ := v
    have v2' := (vl_iff (by omega)).mp v2
    have v3' := (vl_iff (by omega)).mp v3
    have a1 : ¬ x2 < 0 := by rw [tI_lt]; omega
    have a2 : ¬ 60 < x2 := by rw [tI_lt]; omega
    have a3 : ¬ x3 < 0 := by rw [tI_lt]; omega
    have a4 : ¬ 1500 < x3 := by rw [tI_lt]; omega
    have c8 : Int32.ofNat c < 8 := by rw [show (8 : Int32) = Int32.ofNat 8 from rfl, lt_n (by omega) (by omega)]; omega
    have c8' : ¬ Int32.ofNat c = 8 := by rw [show (8 : Int32) = Int32.ofNat 8 from rfl, eq_n (by omega) (by omega)]; omega
    -- the class
    have hA : Ky (sI (sI (sI (sI M 259 c x1) 260 c x2) 261 c x3) 257 7 (Int32.ofNat (c + 1))) := ((((hM.sI _ _ _).sI _ _ _).sI _ _ _).sI _ _ _)
    have r0 : ∀ b, b ≠ 257 → b ≠ 259 → b ≠ 260 → b ≠ 261 → (sI (sI (sI (sI M 259 c x1) 260 c x2) 261 c x3) 257 7 (Int32.ofNat (c + 1))).1 b = M.1 b := fun b q1 q2 q3 q4 => by rw [sI_ne _ _ _ q1, sI_ne _ _ _ q4, sI_ne _ _ _ q3, sI_ne _ _ _ q2]
    have r7 : ∀ q, q ≠ 7 → (sI (sI (sI (sI M 259 c x1) 260 c x2) 261 c x3) 257 7 (Int32.ofNat (c + 1))).1 257 q = M.1 257 q := fun q hq => by rw [sI_own, ud_ne _ _ hq, sI_ne _ _ _ (by decide), sI_ne _ _ _ (by decide), sI_ne _ _ _ (by decide)]
    have f7 : (sI (sI (sI (sI M 259 c x1) 260 c x2) 261 c x3) 257 7 (Int32.ofNat (c + 1))).1 257 7 = Int32.ofNat (c + 1) := by rw [sI_own, ud_at]
    have f59 : (sI (sI (sI (sI M 259 c x1) 260 c x2) 261 c x3) 257 7 (Int32.ofNat (c + 1))).1 259 = ud (M.1 259) c x1 := by rw [sI_ne _ _ _ (by decide), sI_ne _ _ _ (by decide), sI_ne _ _ _ (by decide), sI_own]
    have f60 : (sI (sI (sI (sI M 259 c x1) 260 c x2) 261 c x3) 257 7 (Int32.ofNat (c + 1))).1 260 = ud (M.1 260) c x2 := by rw [sI_ne _ _ _ (by decide), sI_ne _ _ _ (by decide), sI_own, sI_ne _ _ _ (by decide)]
    have f61 : (sI (sI (sI (sI M 259 c x1) 260 c x2) 261 c x3) 257 7 (Int32.ofNat (c + 1))).1 261 = ud (M.1 261) c x3 := by rw [sI_ne _ _ _ (by decide), sI_own, sI_ne _ _ _ (by decide), sI_ne _ _ _ (by decide)]
    have run1 : sh_X11_note 64 x1 x2 x3 M = some (Int32.ofNat (c + 1), sI (sI (sI (sI M 259 c x1) 260 c x2) 261 c x3) 257 7 (Int32.ofNat (c + 1))) := by
      have i1 : (sI M 259 c x1).1 257 7 = Int32.ofNat c := by rw [sI_ne _ _ _ (by decide)]; exact n7
      have i2 : (sI (sI M 259 c x1) 260 c x2).1 257 7 = Int32.ofNat c := by rw [sI_ne _ _ _ (by decide)]; exact i1
      have i3 : (sI (sI (sI M 259 c x1) 260 c x2) 261 c x3).1 257 7 = Int32.ofNat c := by rw [sI_ne _ _ _ (by decide)]; exact i2
      have z1 : stA M 0 (257 + 2) (Int32.ofNat c) x1 = some (sI M 259 c x1) := ms_z hM mk _ v4
      have z2 : stA (sI M 259 c x1) 0 (257 + 3) (Int32.ofNat c) x2 = some (sI (sI M 259 c x1) 260 c x2) := ms_m (hM.sI _ _ _) mk _ v4
      have z3 : stA (sI (sI M 259 c x1) 260 c x2) 0 (257 + 4) (Int32.ofNat c) x3 = some (sI (sI (sI M 259 c x1) 260 c x2) 261 c x3) := ms_h ((hM.sI _ _ _).sI _ _ _) mk _ v4
      have zz : zck 1 = some 1 := rfl
      unfold sh_X11_note X11_note_F X11_note_J37 sh_X4_addNote X4_addNote_F
      rw [o_O hM, bs, o_plan hM o, bs, hz', bs, bI_t v1, if_neg (by decide), if_neg a1, if_neg a2, if_neg a3, if_neg a4, if_neg (by decide), o_mem hM o, bs, mm_O hM mk, bs, mm_I hM mk, bs, n7, if_pos c8, mm_nz hM mk, bs, bs, z1, bs, mm_nm (hM.sI _ _ _) mk, bs, mm_I (hM.sI _ _ _) mk, bs, i1, z2, bs, mm_nh ((hM.sI _ _ _).sI _ _ _) mk, bs, mm_I ((hM.sI _ _ _).sI _ _ _) mk, bs, i2, z3, bs, mm_I (((hM.sI _ _ _).sI _ _ _).sI _ _ _) mk, bs, i3, pl1, mm_P (((hM.sI _ _ _).sI _ _ _).sI _ _ _) mk, bs]
      simp only [zz, bs]
      rw [if_neg (by decide), o_mem hA o, bs, mm_I hA mk, bs, f7]
    have kA : (sI (sI (sI (sI M 259 c x1) 260 c x2) 261 c x3) 257 7 (Int32.ofNat (c + 1))).2 = M.2 := rfl
    generalize sI (sI (sI (sI M 259 c x1) 260 c x2) 261 c x3) 257 7 (Int32.ofNat (c + 1)) = M1 at hA r0 r7 f7 f59 f60 f61 run1 kA
    -- the reference
    have hB := hA.sI 319 4 0
    have m9 : M1.1 319 = M.1 319 := r0 319 (by decide) (by decide) (by decide) (by decide)
    have i28 : (sI M1 319 4 0).1 319 28 = Int32.ofNat c := by rw [sI_own, ud_ne _ _ (by decide), m9]; exact c2
    have eT : (sI M1 319 4 0).1 325 = M.1 325 := by rw [sI_ne _ _ _ (by decide)]; exact r0 325 (by decide) (by decide) (by decide) (by decide)
    have kB : (sI M1 319 4 0).2 = M1.2 := rfl
    have rB : ∀ b, b ≠ 319 → (sI M1 319 4 0).1 b = M1.1 b := fun b hb => sI_ne _ _ _ hb
    have r9 : ∀ q, q ≠ 4 → (sI M1 319 4 0).1 319 q = M.1 319 q := fun q hq => by rw [sI_own, ud_ne _ _ hq, m9]
    have pB := m_P hA 4 0
    generalize sI M1 319 4 0 = B at hB i28 eT kB rB r9 pB
    have run2 : sh_X12_note 319 x1 x2 x3 M1 = some (Int32.ofNat (c + 1), sI (sI (sI (sI B 334 c x1) 335 c x2) 336 c x3) 319 28 (Int32.ofNat (c + 1))) := by
      have i1 : (sI B 334 c x1).1 319 28 = Int32.ofNat c := by rw [sI_ne _ _ _ (by decide)]; exact i28
      have i2 : (sI (sI B 334 c x1) 335 c x2).1 319 28 = Int32.ofNat c := by rw [sI_ne _ _ _ (by decide)]; exact i1
      have i3 : (sI (sI (sI B 334 c x1) 335 c x2) 336 c x3).1 319 28 = Int32.ofNat c := by rw [sI_ne _ _ _ (by decide)]; exact i2
      have i4 : (sI (sI (sI (sI B 334 c x1) 335 c x2) 336 c x3) 319 28 (Int32.ofNat (c + 1))).1 319 28 = Int32.ofNat (c + 1) := by rw [sI_own, ud_at]
      unfold sh_X12_note X12_note_F
      rw [m_O hA, bs, pB, bs, m_I hB, bs, i28, if_neg c8', m_isZone hB hT eT, bs, bI_t v1, if_neg (by decide), iw2, bs, bI_t v2, if_neg (by decide), iw3, bs, bI_t v3, if_neg (by decide), m_notedZone hB, bs, bs, st334 hB _ v4, bs, m_notedMinutes (hB.sI _ _ _), bs, m_I (hB.sI _ _ _), bs, i1, st335 (hB.sI _ _ _) _ v4, bs, m_notedHeat ((hB.sI _ _ _).sI _ _ _), bs, m_I ((hB.sI _ _ _).sI _ _ _), bs, i2, st336 ((hB.sI _ _ _).sI _ _ _) _ v4, bs, m_I (((hB.sI _ _ _).sI _ _ _).sI _ _ _), bs, i3, pl1, m_P (((hB.sI _ _ _).sI _ _ _).sI _ _ _), bs, m_I ((((hB.sI _ _ _).sI _ _ _).sI _ _ _).sI _ _ _), bs, i4]
    have g0 : ∀ b, b ≠ 319 → b ≠ 334 → b ≠ 335 → b ≠ 336 → (sI (sI (sI (sI B 334 c x1) 335 c x2) 336 c x3) 319 28 (Int32.ofNat (c + 1))).1 b = M1.1 b := fun b q1 q2 q3 q4 => by rw [sI_ne _ _ _ q1, sI_ne _ _ _ q4, sI_ne _ _ _ q3, sI_ne _ _ _ q2, rB b q1]
    have g9 : ∀ q, q ≠ 4 → q ≠ 28 → (sI (sI (sI (sI B 334 c x1) 335 c x2) 336 c x3) 319 28 (Int32.ofNat (c + 1))).1 319 q = M.1 319 q := fun q h1 h2 => by rw [sI_own, ud_ne _ _ h2, sI_ne _ _ _ (by decide), sI_ne _ _ _ (by decide), sI_ne _ _ _ (by decide), r9 q h1]
    have g28 : (sI (sI (sI (sI B 334 c x1) 335 c x2) 336 c x3) 319 28 (Int32.ofNat (c + 1))).1 319 28 = Int32.ofNat (c + 1) := by rw [sI_own, ud_at]
    have m4 : ∀ b, 319 < b → b < 346 → B.1 b = M.1 b := fun b q1 q2 => by rw [rB b (by omega), r0 b (by omega) (by omega) (by omega) (by omega)]
    have g34 : (sI (sI (sI (sI B 334 c x1) 335 c x2) 336 c x3) 319 28 (Int32.ofNat (c + 1))).1 334 = ud (M.1 334) c x1 := by rw [sI_ne _ _ _ (by decide), sI_ne _ _ _ (by decide), sI_ne _ _ _ (by decide), sI_own, m4 334 (by omega) (by omega)]
    have g35 : (sI (sI (sI (sI B 334 c x1) 335 c x2) 336 c x3) 319 28 (Int32.ofNat (c + 1))).1 335 = ud (M.1 335) c x2 := by rw [sI_ne _ _ _ (by decide), sI_ne _ _ _ (by decide), sI_own, sI_ne _ _ _ (by decide), m4 335 (by omega) (by omega)]
    have g36 : (sI (sI (sI (sI B 334 c x1) 335 c x2) 336 c x3) 319 28 (Int32.ofNat (c + 1))).1 336 = ud (M.1 336) c x3 := by rw [sI_ne _ _ _ (by decide), sI_own, sI_ne _ _ _ (by decide), sI_ne _ _ _ (by decide), m4 336 (by omega) (by omega)]
    have gk : (sI (sI (sI (sI B 334 c x1) 335 c x2) 336 c x3) 319 28 (Int32.ofNat (c + 1))).2 = M1.2 := kB
    generalize sI (sI (sI (sI B 334 c x1) 335 c x2) 336 c x3) 319 28 (Int32.ofNat (c + 1)) = M2 at run2 g0 g9 g28 g34 g35 g36 gk
    refine ⟨Int32.ofNat (c + 1), M1, M2, run1, run2, ?_⟩
    have rM : ∀ b, 262 ≤ b → M1.1 b = M.1 b := fun b hb => r0 b (by omega) (by omega) (by omega) (by omega)
    refine act_inv rm cv (Fg.same kA (fun a h1 h2 => r0 a (by omega) (by omega) (by omega) (by omega))) (ak.ext kA) (Nr.same (by rw [kA]) 40) gk (fun a ha => g0 a (by omega) (by omega) (by omega) (by omega)) (fun a ha => ?_) (fun q hq => ?_) ⟨n, c + 1, (g9 26 (by decide) (by decide)).trans c1, g28, ?_, ?_, ⟨f7, by omega, fun i hi => ?_⟩, fun i hi => ?_, fun i hi => ?_⟩
    · simp only [List.mem_cons, List.not_mem_nil, or_false] at ha
      rw [g0 a (by omega) (by omega) (by omega) (by omega), rM a (by omega)]
    · simp only [List.mem_cons, List.not_mem_nil, or_false] at hq
      exact g9 q (by omega) (by omega)
    · rw [g0 324 (by decide) (by decide) (by decide) (by decide), rM 324 (by omega)]
      exact ⟨s.1.eq kA, s.2.1, s.2.2.1.ext (fun a _ _ => rM a (by omega)), s.2.2.2.1, s.2.2.2.2.w (by omega)⟩
    · rw [g0 333 (by decide) (by decide) (by decide) (by decide), rM 333 (by omega)]
      obtain ⟨x, b1, b2, b3, b4, b5⟩ := av.ext (Y := M1) ak (Or.inl rfl) kA ⟨r7 2 (by decide), r7 3 (by decide)⟩ (fun a ha => rM a (by omega))
      exact ⟨x, b1, b2, b3, b4, fun i hi => ⟨(b5 i hi).1, (b5 i hi).2.sd (by omega)⟩⟩
    · rw [g34, g35, g36]
      show M1.1 259 i = _ ∧ M1.1 260 i = _ ∧ M1.1 261 i = _
      rw [f59, f60, f61]
      by_cases ei : i = c
      · rw [ei, ud_at, ud_at, ud_at, ud_at, ud_at, ud_at]; exact ⟨rfl, rfl, rfl⟩
      · rw [ud_ne _ _ ei, ud_ne _ _ ei, ud_ne _ _ ei, ud_ne _ _ ei, ud_ne _ _ ei, ud_ne _ _ ei]
        exact nv.2.2 i (by omega)
    · rw [g34, g35]
      by_cases ei : i = c
      · rw [ei, ud_at, ud_at]
        obtain ⟨y, hy, ey⟩ := v1
        obtain ⟨q, hq, eq⟩ := v2
        exact ⟨⟨y, hy, ey⟩, q, eq, by omega, by omega⟩
      · rw [ud_ne _ _ ei, ud_ne _ _ ei]; exact no i (by omega)
    · rw [g0 328 (by decide) (by decide) (by decide) (by decide), rM 328 (by omega), rM (257 + 5) (by omega)]
      exact st i hi
  · refine act_ref (i := 2) (b := -1) h cv (by omega) ?_ (fun M0 r rs => ?_)
    · unfold sh_X11_note X11_note_F X11_note_J36
      rw [o_O hM, bs, o_plan hM o, bs, hz', bs]
      have j0 : ∀ y, X11_note_J37 64 x1 x2 x3 0 y = X11_note_J57 64 y := fun y => by unfold X11_note_J37; exact if_pos rfl
      by_cases v1 : vl x1 (tz (M.1 325))
      · rw [bI_t v1, if_neg (by decide)]
        by_cases a1 : x2 < 0
        · rw [if_pos a1, j0, c_refuse2 hM o mk]
        · rw [if_neg a1]
          by_cases a2 : 60 < x2
          · rw [if_pos a2, j0, c_refuse2 hM o mk]
          · rw [if_neg a2]
            by_cases a3 : x3 < 0
            · rw [if_pos a3, j0, c_refuse2 hM o mk]
            · rw [if_neg a3]
              by_cases a4 : 1500 < x3
              · rw [if_pos a4, j0, c_refuse2 hM o mk]
              · rw [if_neg a4]
                have c8 : ¬ Int32.ofNat c < 8 := by
                  rw [show (8 : Int32) = Int32.ofNat 8 from rfl, lt_n (by omega) (by omega)]
                  intro q
                  apply v
                  refine ⟨⟨v1, ?_, ?_⟩, q⟩
                  · rw [vl_iff (by omega)]; rw [tI_lt] at a1 a2; omega
                  · rw [vl_iff (by omega)]; rw [tI_lt] at a3 a4; omega
                have zz : zck 0 = some 0 := rfl
                unfold X11_note_J37 sh_X4_addNote X4_addNote_F
                rw [if_neg (by decide), o_mem hM o, bs, mm_O hM mk, bs, mm_I hM mk, bs, n7, if_neg c8]
                simp only [zz, bs]
                rw [if_pos trivial, c_refuse2 hM o mk]
      · rw [bI_f v1, if_pos rfl, j0, c_refuse2 hM o mk]
    · obtain ⟨hM0, -, -, -, eT, eN⟩ := r.z (x := 0)
      have i28 : (sI M0 319 4 0).1 319 28 = Int32.ofNat c := by rw [sI_own, ud_ne _ _ (by decide), rs.2 28 (by decide)]; exact c2
      unfold sh_X12_note X12_note_F X12_note_J43
      rw [m_O r.1, bs, m_P r.1, bs, m_I hM0, bs, i28]
      by_cases q8 : Int32.ofNat c = 8
      · rw [if_pos q8, m_refuse2 hM0, bs]
      · rw [if_neg q8, m_isZone hM0 hT eT, bs]
        by_cases v1 : vl x1 (tz (M.1 325))
        · rw [bI_t v1, if_neg (by decide), iw2, bs]
          by_cases v2 : vl x2 61
          · rw [bI_t v2, if_neg (by decide), iw3, bs]
            by_cases v3 : vl x3 1501
            · exfalso
              apply v
              refine ⟨⟨v1, v2, v3⟩, ?_⟩
              rw [show (8 : Int32) = Int32.ofNat 8 from rfl, eq_n (by omega) (by omega)] at q8
              omega
            · rw [bI_f v3, if_pos rfl, m_refuse2 hM0, bs]
          · rw [bI_f v2, if_pos rfl, m_refuse2 hM0, bs]
        · rw [bI_f v1, if_pos rfl, m_refuse2 hM0, bs]
end
