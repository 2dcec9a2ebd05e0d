/-! ===== PURE 57: image, restore ===== -/
section
variable {M M1 M2 : Gm} {Q R P P' D k k' n c j : Nat} {N N' T pa pa' nz nz' nm nm' nh nh' st st' : Nat → Int32} {A A' : Nat → Nat → Int32}
theorem MmV.cg (h : MmV M Q P T k N pa nz nm nh st n c) (hT : TOk T) (e1 : ∀ i, i < 305 → N' i = N i) (e2 : ∀ i, i < 12200 → pa' i = pa i) (e3 : ∀ i, i < 8 → nz' i = nz i) (e4 : ∀ i, i < 8 → nm' i = nm i) (e5 : ∀ i, i < 8 → nh' i = nh i) (e6 : ∀ i, i < 3 → st' i = st i) : MmV M Q P T k N' pa' nz' nm' nh' st' n c := by
  obtain ⟨a, ⟨x, b1, b2, b3, b4, b5⟩, ⟨d1, d2, d3⟩, e, f⟩ := h
  refine ⟨a.cg hT e1, ⟨x, b1, b2, b3, b4, fun i hi => ⟨(b5 i hi).1, (b5 i hi).2.cg hT (fun q hq => e2 _ (by omega))⟩⟩, ⟨d1, d2, fun i hi => ?_⟩, fun i hi => ?_, fun i hi => ?_⟩
  · rw [e3 i (by omega), e4 i (by omega), e5 i (by omega)]; exact d3 i hi
  · rw [e3 i (by omega), e4 i (by omega)]; exact e i hi
  · rw [e6 i hi]; exact f i hi
theorem m_cp1 {X : Gm} {a b m : Nat} (hX : Ky X) (ha : a < 346) (hb : b < 346) (ka : kz.getD a (31, 0) = (32, m)) (kb : kz.getD b (31, 0) = (32, m)) (hab : a ≠ b) (hm : m < 20000) : ∃ Y, sh_X12_copyTo a b X = some Y ∧ Ky Y ∧ Y.2 = X.2 ∧ (∀ i, i < m → Y.1 a i = X.1 b i) ∧ ∀ q, q ≠ a → Y.1 q = X.1 q :=
  ⟨_, m_copyTo (n := m) ((hX.1 a ha).trans ka) ((hX.1 b hb).trans kb) hab hm, hX.wR _ _, rfl, fun i hi => by rw [wR_own, mixR_lt hi], fun q hq => wR_ne _ _ hq⟩
theorem a_image (h : Inv M j) : An3 (sh_X11_image 64) (sh_X12_image 319) M j := by
  obtain ⟨⟨P, D, cv⟩, rm⟩ := id h
  obtain ⟨⟨o, w, pd, t6⟩, ⟨mk, mk2, ⟨P1, s284⟩, s304, ak⟩, ⟨n, c, c1, c2, c3⟩, ⟨i1, i2⟩, tp, ft⟩ := id cv
  have hM := w.1
  have hT := w.2.2.2.2.2.1
  have hl := rm.1
  have hQ : isQ 278 := Or.inr rfl
  have hD : D = 67 ∨ D = 162 := by rcases o.2 with q | q <;> omega
  obtain ⟨A, a1, a2, a3, a4, a5, a6⟩ := c_memCopy (Q := 278) (R := 257) (by decide) hQ (Or.inl rfl) w hl mk2 mk ak s284 c3
  have hlA : 346 ≤ A.2.2.length := Nat.le_trans hl a2.len
  have wA := a2.wd hl a3 hQ w
  have oA := a2.obk hl a3 hQ o
  have mvA := a2.mmv hl ak a3 hQ (Or.inl rfl) (by decide) c3
  have I := fun a h1 h2 => a2.int (a := a) hl a3 hQ h1 h2
  -- the reference
  have hB := ((wA.1.sI 64 8 1).sI 319 4 0)
  obtain ⟨X, x1, x2, x3, x4, x5⟩ : ∃ X, X = sI (sI (sI (sI (sI A 64 8 1) 319 4 0) 319 35 1) 319 36 (Int32.ofNat n)) 319 37 (Int32.ofNat c) ∧ X.2 = A.2 ∧ (∀ b, b ≠ 64 → b ≠ 319 → X.1 b = A.1 b) ∧ X.1 64 = ud (A.1 64) 8 1 ∧ X.1 319 = ud (ud (ud (ud (A.1 319) 4 0) 35 1) 36 (Int32.ofNat n)) 37 (Int32.ofNat c) := ⟨_, rfl, rfl, fun b h1 h2 => by rw [sI_ne _ _ _ h2, sI_ne _ _ _ h2, sI_ne _ _ _ h2, sI_ne _ _ _ h2, sI_ne _ _ _ h1], by rw [sI_ne _ _ _ (by decide), sI_ne _ _ _ (by decide), sI_ne _ _ _ (by decide), sI_ne _ _ _ (by decide), sI_own], by rw [sI_own, sI_own, sI_own, sI_own, sI_ne _ _ _ (by decide)]⟩
  have hX : Ky X := wA.1.eq x2
  have A9 : A.1 319 = M.1 319 := a5 319 (by omega) (by omega)
  have rX : ∀ b, 319 < b → b < 346 → X.1 b = M.1 b := fun b h1 h2 => by rw [x3 b (by omega) (by omega)]; exact a5 b (by omega) h2
  obtain ⟨Y1, y1, z1, k1, m1, r1⟩ := m_cp1 (a := 339) (b := 324) (m := 305) hX (by decide) (by decide) rfl rfl (by decide) (by decide)
  obtain ⟨Y2, y2, z2, k2, m2, r2⟩ := m_cp1 (a := 340) (b := 333) (m := 12200) z1 (by decide) (by decide) rfl rfl (by decide) (by decide)
  obtain ⟨Y3, y3, z3, k3, m3, r3⟩ := m_cp1 (a := 341) (b := 334) (m := 8) z2 (by decide) (by decide) rfl rfl (by decide) (by decide)
  obtain ⟨Y4, y4, z4, k4, m4, r4⟩ := m_cp1 (a := 342) (b := 335) (m := 8) z3 (by decide) (by decide) rfl rfl (by decide) (by decide)
  obtain ⟨Y5, y5, z5, k5, m5, r5⟩ := m_cp1 (a := 343) (b := 336) (m := 8) z4 (by decide) (by decide) rfl rfl (by decide) (by decide)
  obtain ⟨Y6, y6, z6, k6, m6, r6⟩ := m_cp1 (a := 344) (b := 328) (m := 3) z5 (by decide) (by decide) rfl rfl (by decide) (by decide)
  have kY : Y6.2 = A.2 := by rw [k6, k5, k4, k3, k2, k1, x2]
  have rY : ∀ b, b ≠ 339 → b ≠ 340 → b ≠ 341 → b ≠ 342 → b ≠ 343 → b ≠ 344 → Y6.1 b = X.1 b := fun b q1 q2 q3 q4 q5 q6 => by rw [r6 b q6, r5 b q5, r4 b q4, r3 b q3, r2 b q2, r1 b q1]
  have v339 : ∀ i, i < 305 → Y6.1 339 i = M.1 324 i := fun i hi => by rw [r6 _ (by decide), r5 _ (by decide), r4 _ (by decide), r3 _ (by decide), r2 _ (by decide), m1 i hi, rX 324 (by omega) (by omega)]
  have v340 : ∀ i, i < 12200 → Y6.1 340 i = M.1 333 i := fun i hi => by rw [r6 _ (by decide), r5 _ (by decide), r4 _ (by decide), r3 _ (by decide), m2 i hi, r1 _ (by decide), rX 333 (by omega) (by omega)]
  have v341 : ∀ i, i < 8 → Y6.1 341 i = M.1 334 i := fun i hi => by rw [r6 _ (by decide), r5 _ (by decide), r4 _ (by decide), m3 i hi, r2 _ (by decide), r1 _ (by decide), rX 334 (by omega) (by omega)]
  have v342 : ∀ i, i < 8 → Y6.1 342 i = M.1 335 i := fun i hi => by rw [r6 _ (by decide), r5 _ (by decide), m4 i hi, r3 _ (by decide), r2 _ (by decide), r1 _ (by decide), rX 335 (by omega) (by omega)]
  have v343 : ∀ i, i < 8 → Y6.1 343 i = M.1 336 i := fun i hi => by rw [r6 _ (by decide), m5 i hi, r4 _ (by decide), r3 _ (by decide), r2 _ (by decide), r1 _ (by decide), rX 336 (by omega) (by omega)]
  have v344 : ∀ i, i < 3 → Y6.1 344 i = M.1 328 i := fun i hi => by rw [m6 i hi, r5 _ (by decide), r4 _ (by decide), r3 _ (by decide), r2 _ (by decide), r1 _ (by decide), rX 328 (by omega) (by omega)]
  have v319 : Y6.1 319 = ud (ud (ud (ud (M.1 319) 4 0) 35 1) 36 (Int32.ofNat n)) 37 (Int32.ofNat c) := by rw [rY 319 (by decide) (by decide) (by decide) (by decide) (by decide) (by decide), x5, A9]
  have e9 : ∀ q, q ≠ 4 → q ≠ 35 → q ≠ 36 → q ≠ 37 → Y6.1 319 q = M.1 319 q := fun q h1 h2 h3 h4 => by rw [v319, ud_ne _ _ h4, ud_ne _ _ h3, ud_ne _ _ h2, ud_ne _ _ h1]
  refine ⟨sI A 64 8 1, Y6, ?_, ?_, ?_⟩
  · unfold sh_X11_image X11_image_F
    have pz : pfZ A 64 11 8 1 = some (sI A 64 8 1) := p_Z 8 1 ((wA.1.1 64 (by decide)).trans rfl) (Or.inr rfl)
    rw [o_O hM, bs, o_img hM o, bs, o_mem hM o, bs, a1, bs, pz, bs]
  · have hA' := wA.1.sI 64 8 1
    have hC := (hB.sI 319 35 1)
    have hC2 := (hC.sI 319 36 (Int32.ofNat n))
    have pz : pfZ (sI (sI A 64 8 1) 319 4 0) 319 12 35 1 = some (sI (sI (sI A 64 8 1) 319 4 0) 319 35 1) := m_Z hB 35 1 (Or.inr rfl)
    have i26 : (sI (sI (sI A 64 8 1) 319 4 0) 319 35 1).1 319 26 = Int32.ofNat n := by rw [sI_own, ud_ne _ _ (by decide), sI_own, ud_ne _ _ (by decide), sI_ne _ _ _ (by decide), A9]; exact c1
    have i28 : (sI (sI (sI (sI A 64 8 1) 319 4 0) 319 35 1) 319 36 (Int32.ofNat n)).1 319 28 = Int32.ofNat c := by rw [sI_own, ud_ne _ _ (by decide), sI_own, ud_ne _ _ (by decide), sI_own, ud_ne _ _ (by decide), sI_ne _ _ _ (by decide), A9]; exact c2
    unfold sh_X12_image X12_image_F
    rw [m_O hA', bs, m_P hA', bs, pz, bs, m_I hC, bs, i26, m_P hC, bs, m_I hC2, bs, i28, m_P hC2, bs, ← x1, m_imageRow hX, bs, m_now hX, bs, y1, bs, m_pastThen z1, bs, m_past z1, bs, y2, bs, m_notedZoneThen z2, bs, m_notedZone z2, bs, y3, bs, m_notedMinutesThen z3, bs, m_notedMinutes z3, bs, y4, bs, m_notedHeatThen z4, bs, m_notedHeat z4, bs, y5, bs, m_statusThen z5, bs, m_status z5, bs, y6, bs]
  · have g : ∀ b, b < 319 ∨ 345 < b → b ≠ 64 → Y6.1 b = A.1 b := fun b hb h64 => by rw [rY b (by omega) (by omega) (by omega) (by omega) (by omega) (by omega), x3 b h64 (by omega)]
    have g64 : Y6.1 64 = ud (A.1 64) 8 1 := by rw [rY 64 (by decide) (by decide) (by decide) (by decide) (by decide) (by decide), x4]
    have A64 : A.1 64 = M.1 64 := I 64 (by omega) (by omega)
    have gr : ∀ b, 319 < b → b < 339 → Y6.1 b = M.1 b := fun b h1 h2 => by rw [rY b (by omega) (by omega) (by omega) (by omega) (by omega) (by omega), rX b h1 (by omega)]
    have kdY : ∀ a, kd Y6 a = kd A a := fun a => by unfold kd; rw [kY]
    have akY : AcK Y6 := a3.ext kY
    have wY : Wd Y6 P (M.1 325) := by
      obtain ⟨u1, u2, u3, u4, u5, u6, u7⟩ := wA
      have u5' := u5
      unfold POk at u5'
      refine ⟨u1.eq kY, ?_, ?_, u4.eq kY, u5, u6, u7.ext u4 u6 (fun k => by rw [kY]) (fun a h1 h2 => g a (by omega) (by omega))⟩
      · unfold CkK at *; rw [kY]; exact u2
      · unfold FsK at *; rw [kY]; exact u3
    have sdY : ∀ S R, Sd A S P R (M.1 325) (1300 * j) → (S + 14 < 319 ∨ 346 ≤ S) → 64 < S → Sd Y6 S P R (M.1 325) (1300 * (j + 1)) := fun S R q1 q2 q3 => ⟨q1.1.eq kY, q1.2.1, q1.2.2.1.ext (fun a _ _ => g a (by omega) (by omega)), q1.2.2.2.1, q1.2.2.2.2.w (by omega)⟩
    have mvY : ∀ {Q N pa nz nm nh st n c}, isQ Q → MmV A Q P (M.1 325) (1300 * j) N pa nz nm nh st n c → MmV Y6 Q P (M.1 325) (1300 * (j + 1)) N pa nz nm nh st n c := fun {Q N pa nz nm nh st n c} h0 q => by
      have h0' := h0
      unfold isQ at h0'
      obtain ⟨b1, ⟨x, d1, d2, d3, d4, d5⟩, e1, e2, e3⟩ := q
      refine ⟨sdY _ _ b1 (by omega) (by omega), ⟨x, d1, by rw [g Q (by omega) (by omega)]; exact d2, by rw [g Q (by omega) (by omega)]; exact d3, d4, fun i hi => ?_⟩, ?_, e2, fun i hi => by rw [g (Q + 5) (by omega) (by omega)]; exact e3 i hi⟩
      · have ee : ∀ p, eA Y6 Q p = eA A Q p := fun p => by unfold eA; rw [kY]
        rw [ee]
        have bg := a3.1 Q _ h0 (Nat.mod_lt _ (by omega)) (d5 i hi).1
        exact ⟨(d5 i hi).1, sdY _ _ (d5 i hi).2 (by omega) (by omega)⟩
      · unfold NtV at *
        rw [g Q (by omega) (by omega), g (Q + 2) (by omega) (by omega), g (Q + 3) (by omega) (by omega), g (Q + 4) (by omega) (by omega)]
        exact e1
    have eT : Y6.1 325 = M.1 325 := gr 325 (by omega) (by omega)
    refine ⟨⟨⟨P, D, ⟨?_, by rw [eT]; exact wY, ?_, by rw [eT]; exact t6⟩, ⟨?_, ?_, ⟨P, ?_⟩, ?_, akY⟩, ⟨n, c, (e9 26 (by decide) (by decide) (by decide) (by decide)).trans c1, (e9 28 (by decide) (by decide) (by decide) (by decide)).trans c2, ?_⟩, ⟨?_, Or.inr ⟨?_, n, c, ?_, ?_, ?_⟩⟩, ?_, ?_⟩, ?_⟩, z6⟩
    · unfold ObK at *; rw [kY]; exact oA
    · exact (a2.plk hl a3 hQ hD pd).eq kY
    · have := a2.mk hl a3 hQ mk
      unfold MmK at *; rw [kY]; exact this
    · have := a2.mk hl a3 hQ mk2
      unfold MmK at *; rw [kY]; exact this
    · exact a4.1.1.eq kY
    · obtain ⟨P2, q⟩ := a2.t304 hl a3 hQ s304
      exact ⟨P2, q.eq kY⟩
    · rw [eT, gr 324 (by omega) (by omega), gr 333 (by omega) (by omega), gr 334 (by omega) (by omega), gr 335 (by omega) (by omega), gr 336 (by omega) (by omega), gr 328 (by omega) (by omega)]
      exact mvY (Or.inl rfl) mvA
    · rw [v319, g64, ud_at, ud_ne _ _ (by decide), ud_ne _ _ (by decide), ud_at]
    · rw [v319, ud_ne _ _ (by decide), ud_ne _ _ (by decide), ud_at]
    · rw [v319, ud_ne _ _ (by decide), ud_at]
    · rw [v319, ud_at]
    · rw [eT]
      exact (mvY hQ a4).cg hT v339 v340 v341 v342 v343 v344
    · obtain ⟨tl, t1, t2, t3, t4⟩ := tp
      refine ⟨tl, ?_, (e9 11 (by decide) (by decide) (by decide) (by decide)).trans t2, t3, fun i hi => ?_⟩
      · rw [g64, ud_ne _ _ (by decide), A64]; exact t1
      · rw [gr 329 (by omega) (by omega), g 65 (by omega) (by omega), I 65 (by omega) (by omega)]; exact t4 i hi
    · rw [e9 20 (by decide) (by decide) (by decide) (by decide), g64, ud_ne _ _ (by decide), A64]; exact ft
    · have e22 : Y6.2.2 = A.2.2 := by rw [kY]
      unfold Nr at a6
      unfold Rm at *
      rw [e22]
      omega
theorem a_restore (h : Inv M j) : An2 (sh_X11_restore 64) (sh_X12_restore 319) M j := by
  obtain ⟨⟨P, D, cv⟩, rm⟩ := id h
  obtain ⟨⟨o, w, pd, t6⟩, ⟨mk, mk2, -, s304, ak⟩, ⟨n, c, c1, c2, c3⟩, ⟨i1, i2⟩, tp, ft⟩ := id cv
  have hM := w.1
  have hT := w.2.2.2.2.2.1
  have hl := rm.1
  have hQ : isQ 257 := Or.inl rfl
  rcases i2 with q0 | ⟨q0, n', c', d1, d2, d3⟩
  · have z0 : zck 0 = some 0 := rfl
    refine ⟨0, M, sI M 319 4 0, ?_, ?_, ?_⟩
    · unfold sh_X11_restore X11_restore_F
      rw [o_O hM, bs, o_I hM, bs, ← i1, q0, if_pos rfl, z0, bs]
    · unfold sh_X12_restore X12_restore_F
      rw [m_O hM, bs, m_P hM, bs, m_I (hM.sI _ _ _), bs, sI_own, ud_ne _ _ (by decide), q0, if_pos rfl, z0, bs]
    · have q := Rq.z M 0
      exact ⟨⟨⟨P, D, (q.rs.cv (q.sc.cv rm.1 cv)).le (by omega)⟩, rm.ft rfl (by omega)⟩, hM.sI _ _ _⟩
  · have n1 : ¬ M.1 64 8 = 0 := by rw [← i1, q0]; decide
    have n2 : ¬ (1 : Int32) = 0 := by decide
    obtain ⟨A, a1, a2, a3, a4, a5, a6⟩ := c_memCopy (Q := 257) (R := 278) (by decide) hQ (Or.inr rfl) w hl mk mk2 ak c3.1.1 d3
    have wA := a2.wd hl a3 hQ w
    have hA := wA.1
    have A9 : A.1 319 = M.1 319 := a5 319 (by omega) (by omega)
    have hB := hA.sI 319 4 0
    have hC := hB.sI 319 26 (Int32.ofNat n')
    obtain ⟨X, x1, x2, x3, x5⟩ : ∃ X, X = sI (sI (sI A 319 4 0) 319 26 (Int32.ofNat n')) 319 28 (Int32.ofNat c') ∧ X.2 = A.2 ∧ (∀ b, b ≠ 319 → X.1 b = A.1 b) ∧ X.1 319 = ud (ud (ud (A.1 319) 4 0) 26 (Int32.ofNat n')) 28 (Int32.ofNat c') := ⟨_, rfl, rfl, fun b h2 => by rw [sI_ne _ _ _ h2, sI_ne _ _ _ h2, sI_ne _ _ _ h2], by rw [sI_own, sI_own, sI_own]⟩
    have hX : Ky X := hA.eq x2
    have rX : ∀ b, 319 < b → b < 346 → X.1 b = M.1 b := fun b h1 h2 => by rw [x3 b (by omega)]; exact a5 b (by omega) h2
    obtain ⟨Y1, y1, z1, k1, m1, r1⟩ := m_cp1 (a := 324) (b := 339) (m := 305) hX (by decide) (by decide) rfl rfl (by decide) (by decide)
    obtain ⟨Y2, y2, z2, k2, m2, r2⟩ := m_cp1 (a := 333) (b := 340) (m := 12200) z1 (by decide) (by decide) rfl rfl (by decide) (by decide)
    obtain ⟨Y3, y3, z3, k3, m3, r3⟩ := m_cp1 (a := 334) (b := 341) (m := 8) z2 (by decide) (by decide) rfl rfl (by decide) (by decide)
    obtain ⟨Y4, y4, z4, k4, m4, r4⟩ := m_cp1 (a := 335) (b := 342) (m := 8) z3 (by decide) (by decide) rfl rfl (by decide) (by decide)
    obtain ⟨Y5, y5, z5, k5, m5, r5⟩ := m_cp1 (a := 336) (b := 343) (m := 8) z4 (by decide) (by decide) rfl rfl (by decide) (by decide)
    obtain ⟨Y6, y6, z6, k6, m6, r6⟩ := m_cp1 (a := 328) (b := 344) (m := 3) z5 (by decide) (by decide) rfl rfl (by decide) (by decide)
    have kY : Y6.2 = A.2 := by rw [k6, k5, k4, k3, k2, k1, x2]
    have rY : ∀ b, b ≠ 324 → b ≠ 333 → b ≠ 334 → b ≠ 335 → b ≠ 336 → b ≠ 328 → Y6.1 b = X.1 b := fun b q1 q2 q3 q4 q5 q6 => by rw [r6 b q6, r5 b q5, r4 b q4, r3 b q3, r2 b q2, r1 b q1]
    have v339 : ∀ i, i < 305 → Y6.1 324 i = M.1 339 i := fun i hi => by rw [r6 _ (by decide), r5 _ (by decide), r4 _ (by decide), r3 _ (by decide), r2 _ (by decide), m1 i hi, rX 339 (by omega) (by omega)]
    have v340 : ∀ i, i < 12200 → Y6.1 333 i = M.1 340 i := fun i hi => by rw [r6 _ (by decide), r5 _ (by decide), r4 _ (by decide), r3 _ (by decide), m2 i hi, r1 _ (by decide), rX 340 (by omega) (by omega)]
    have v341 : ∀ i, i < 8 → Y6.1 334 i = M.1 341 i := fun i hi => by rw [r6 _ (by decide), r5 _ (by decide), r4 _ (by decide), m3 i hi, r2 _ (by decide), r1 _ (by decide), rX 341 (by omega) (by omega)]
    have v342 : ∀ i, i < 8 → Y6.1 335 i = M.1 342 i := fun i hi => by rw [r6 _ (by decide), r5 _ (by decide), m4 i hi, r3 _ (by decide), r2 _ (by decide), r1 _ (by decide), rX 342 (by omega) (by omega)]
    have v343 : ∀ i, i < 8 → Y6.1 336 i = M.1 343 i := fun i hi => by rw [r6 _ (by decide), m5 i hi, r4 _ (by decide), r3 _ (by decide), r2 _ (by decide), r1 _ (by decide), rX 343 (by omega) (by omega)]
    have v344 : ∀ i, i < 3 → Y6.1 328 i = M.1 344 i := fun i hi => by rw [m6 i hi, r5 _ (by decide), r4 _ (by decide), r3 _ (by decide), r2 _ (by decide), r1 _ (by decide), rX 344 (by omega) (by omega)]
    have v319 : Y6.1 319 = ud (ud (ud (M.1 319) 4 0) 26 (Int32.ofNat n')) 28 (Int32.ofNat c') := by rw [rY 319 (by decide) (by decide) (by decide) (by decide) (by decide) (by decide), x5, A9]
    have zz : zck 1 = some 1 := rfl
    refine ⟨1, A, Y6, ?_, ?_, ?_⟩
    · unfold sh_X11_restore X11_restore_F
      rw [o_O hM, bs, o_I hM, bs, if_neg n1, o_mem hM o, bs, o_img hM o, bs, a1, bs, zz, bs]
    · have i35 : (sI A 319 4 0).1 319 35 = 1 := by rw [sI_own, ud_ne _ _ (by decide), A9]; exact q0
      have i36 : (sI A 319 4 0).1 319 36 = Int32.ofNat n' := by rw [sI_own, ud_ne _ _ (by decide), A9]; exact d1
      have i37 : (sI (sI A 319 4 0) 319 26 (Int32.ofNat n')).1 319 37 = Int32.ofNat c' := by rw [sI_own, ud_ne _ _ (by decide), sI_own, ud_ne _ _ (by decide), A9]; exact d2
      unfold sh_X12_restore X12_restore_F
      rw [m_O hA, bs, m_P hA, bs, m_I hB, bs, i35, if_neg n2, m_I hB, bs, i36, m_P hB, bs, m_I hC, bs, i37, m_P hC, bs, ← x1, m_now hX, bs, m_imageRow hX, bs, y1, bs, m_past z1, bs, m_pastThen z1, bs, y2, bs, m_notedZone z2, bs, m_notedZoneThen z2, bs, y3, bs, m_notedMinutes z3, bs, m_notedMinutesThen z3, bs, y4, bs, m_notedHeat z4, bs, m_notedHeatThen z4, bs, y5, bs, m_status z5, bs, m_statusThen z5, bs, y6, bs, zz, bs]
    · refine act_inv rm cv a2 a3 a6 kY (fun a ha => ?_) (fun a ha => ?_) (fun i hi => ?_) ⟨n', c', ?_, ?_, ?_⟩
      · rw [rY a (by omega) (by omega) (by omega) (by omega) (by omega) (by omega), x3 a (by omega)]
      · simp only [List.mem_cons, List.not_mem_nil, or_false] at ha
        rw [rY a (by omega) (by omega) (by omega) (by omega) (by omega) (by omega), rX a (by omega) (by omega)]
      · simp only [List.mem_cons, List.not_mem_nil, or_false] at hi
        rw [v319, ud_ne _ _ (by omega), ud_ne _ _ (by omega), ud_ne _ _ (by omega)]
      · rw [v319, ud_ne _ _ (by decide), ud_at]
      · rw [v319, ud_at]
      · exact (a4.cg hT v339 v340 v341 v342 v343 v344).le (by omega)
end
