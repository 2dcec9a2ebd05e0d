/-! ===== PLAN 2: the call ===== -/
section
variable {M : Gm} {j : Nat}
/-- the reading of a text, for whatever memory of the reference -/
theorem plan_lock {P D n tl : Nat} (hM : Ky M) (o : ObK M P D) (pd : PlK M D) (hD : POk D) (hn : n ≤ tl) (t3 : tl ≤ 700) (t4 : ∀ i, i < tl → BtV (M.1 65 i) (M.1 329 i)) :
    ∃ C0 C', sh_X6_readText 66 (Int32.ofNat n) D (sI M 64 1 0) = X6_readText_J71 66 D C' ∧ (C0.2 = M.2 ∧ ∀ a, a ≠ 66 → a ≠ D → C0.1 a = (sI M 64 1 0).1 a) ∧ Kc C0 C' D ∧
      ∀ R, Ky R → WkK R.2.1 → R.1 329 = M.1 329 → R.1 319 11 = Int32.ofNat tl → ∃ R' e', sh_X12_plan 319 (Int32.ofNat n) R = X12_plan_J89 319 R' ∧ Lk C' R' (M.1 329) n D e' ∧ R'.2 = R.2 ∧ (∀ a, a ∉ [319, 326, 327] → R'.1 a = R.1 a) ∧ (∀ k, (k < 11 ∧ k ≠ 4) ∨ 21 < k → R'.1 319 k = R.1 319 k) ∧ R'.1 319 4 = 0 ∧ R'.1 319 11 = 0 ∧ R'.1 319 20 = -1 := by
  have k3 := hM.sI 64 1 0
  have bt : BtN (M.1 329) n := ⟨by omega, fun i hi => (t4 i (by omega)).1⟩
  have tx : Tx (sI M 64 1 0) (M.1 329) n := ⟨by omega, fun i hi => by rw [sI_ne _ _ _ (by decide)]; exact t4 i (by omega)⟩
  have r3 : RdK (sI M 64 1 0) := o.rd
  obtain ⟨C0, z1, z2, z3, z4, z5, z6, z7⟩ := c_text0 (b := M.1 329) (n := n) k3 r3 (pd.sI 64 1 0) hD tx
  have lock : ∀ R, Ky R → WkK R.2.1 → R.1 329 = M.1 329 → R.1 319 11 = Int32.ofNat tl → ∃ C' R' e', lp (X6_readText_B34 66 D) FU (0, C0) = some C' ∧ sh_X12_plan 319 (Int32.ofNat n) R = X12_plan_J89 319 R' ∧ Lk C' R' (M.1 329) n D e' ∧ Kc C0 C' D ∧ R'.2 = R.2 ∧ (∀ a, a ∉ [319, 326, 327] → R'.1 a = R.1 a) ∧ (∀ k, (k < 11 ∧ k ≠ 4) ∨ 21 < k → R'.1 319 k = R.1 319 k) ∧ R'.1 319 4 = 0 ∧ R'.1 319 11 = 0 ∧ R'.1 319 20 = -1 := by
    intro R kR wk eb e11
    obtain ⟨R7, y1, y2, y3, y4, y5, y6, ⟨q4, q11, q13, q18, q20, q21⟩, y7⟩ := m_plan0 (n := n) kR e11 hn t3 (by rw [eb]; exact bt)
    rw [eb] at y7
    have lk := Lk.start (M := sI M 64 1 0) (R := R) k3 r3 tx (pd.sI 64 1 0) o.ds hD kR wk eb z2 z3 z4 z5 z6 z7 y2 y3 y4 y5 q18 q21 y7
    obtain ⟨C', R', e', u1, u2, u3, u4, u5⟩ := j_loop hD (show n ≤ 700 by omega) n 0 0 C0 R7 (fun _ => ⟨by omega, by omega⟩) (by omega) lk
    refine ⟨C', R', e', lp_more _ _ _ _ _ (show n + 1 ≤ 20000 by omega) u1, ?_, u3, u4, u5.1.trans y2, fun a ha => (u5.2.1 a ha).trans (y3 a ha), fun k hk => (u5.2.2 k (by omega)).trans (y6 k hk), ?_, ?_, ?_⟩
    · rw [y1, show lp (X12_plan_B68 319) FU R7 = some R' from lp_more _ _ _ _ _ (show n + 1 ≤ 20000 by omega) u2, bs]
    · rw [u5.2.2 4 (by omega)]; exact q4
    · rw [u5.2.2 11 (by omega)]; exact q11
    · rw [u5.2.2 20 (by omega)]; exact q20
  have R0 : ∃ R : Gm, Ky R ∧ WkK R.2.1 ∧ R.1 329 = M.1 329 ∧ R.1 319 11 = Int32.ofNat tl := ⟨sI M 319 11 (Int32.ofNat tl), hM.sI _ _ _, o.wk, sI_ne _ _ _ (by decide), by rw [sI_own, ud_at]⟩
  obtain ⟨R0, r1, r2, r3', r4⟩ := R0
  obtain ⟨C', -, -, v1, -, -, v4, -⟩ := lock R0 r1 r2 r3' r4
  refine ⟨C0, C', by rw [z1, v1, bs], ⟨z2, z3⟩, v4, fun R h1 h2 h3 h4 => ?_⟩
  obtain ⟨C2, R', e', w1, w2, w3, -, w5⟩ := lock R h1 h2 h3 h4
  have e : C2 = C' := Option.some.inj (w1.symm.trans v1)
  subst e
  exact ⟨R', e', w2, w3, w5⟩
theorem a_plan (h : Inv M j) (x : Int32) : Ans (sh_L_plan 64 x 345) (sh_X12_plan 319 x) M j := by
  obtain ⟨⟨P, D, cv⟩, rm⟩ := id h
  obtain ⟨⟨o, w, pd, t6⟩, ⟨m1, m2, ⟨P1, s1⟩, ⟨P2, s2⟩, ak⟩, ⟨n1, c1, a1, a2, a3⟩, ⟨i1, i2⟩, ⟨tl, t1, t2, t3, t4⟩, ft⟩ := id cv
  have hM := w.1
  have hPD := o.2
  have hD : POk D := by unfold POk; omega
  by_cases ok : vl x (tl + 1)
  · obtain ⟨n, hn, ex⟩ := ok
    subst ex
    have ltx : ¬ Int32.ofNat n < 0 := fun q => by have := (lt_n (b := 0) (by omega) (by omega)).mp q; omega
    have lex : Int32.ofNat n ≤ Int32.ofNat tl := (le_n (by omega) (by omega)).mpr (by omega)
    have k3 := hM.sI 64 1 0
    have o3 : ObK (sI M 64 1 0) P D := o
    obtain ⟨C0, C', z1, ⟨z2, z3⟩, v4, lock⟩ := plan_lock hM o pd hD (show n ≤ tl by omega) t3 t4
    obtain ⟨R0, e0, -, v3, -⟩ := lock M hM o.wk rfl t2
    obtain ⟨-, -, ⟨pk', ds'⟩, -, -, t, m, t10, m60, e6, e8⟩ := id v3
    obtain ⟨C2, fn, f1, f2, f3, f4, f5⟩ := c_find pk' t10 m60 e6 e8
    have c66 : C2.1 66 = C'.1 66 := f3 66 (by omega)
    -- what the class's reading has changed
    have e22 : C2.2.2 = M.2.2 := by rw [f2, v4.1, z2]
    have er : ∀ a i, a ≠ D + 4 → C2.2.1 a i = M.2.1 a i := fun a i ha => by rw [f2, v4.2.1 a i ha, z2]
    have ei : ∀ a, a ≠ 64 → a ≠ 66 → (a < D ∨ D + 94 < a) → C2.1 a = M.1 a := fun a h1 h2 h3 => by
      rw [f3 a (by omega), v4.2.2.1 a h2 h3, z3 a h2 (by omega), sI_ne _ _ _ h1]
    have e64 : C2.1 64 = ud (M.1 64) 1 0 := by
      rw [f3 64 (by omega), v4.2.2.1 64 (by omega) (by omega), z3 64 (by omega) (by omega), sI_own]
    have pk2 : PlK C2 D := pk'.eq f2
    have ds2 : DsK C2.2.1 := by rw [f2]; exact ds'
    have pf2 : Pf M C2 := ⟨e22, fun a i h1 h2 _ _ => er a i (by omega)⟩
    have kC2 := pf2.ky hM
    have wk2 : WkK C2.2.1 := o.wk.ext (fun a k h1 h2 _ => er a k (by omega))
    have o2 : ObK C2 P D := by
      unfold ObK
      rw [er 64 0 (by omega), er 64 3 (by omega), er 64 4 (by omega), er 64 5 (by omega), er 64 6 (by omega), er 64 7 (by omega), er 64 9 (by omega), er 64 10 (by omega), er 66 0 (by omega)]
      obtain ⟨⟨q0, q1, q2, q3, q4, q5, q6, q7, q8, -, -⟩, q⟩ := o
      exact ⟨⟨q0, q1, q2, q3, q4, q5, q6, q7, q8, wk2, ds2⟩, q⟩
    have mk2 := pf2.mm m1
    have rt : sh_X6_readText 66 (Int32.ofNat n) D (sI M 64 1 0) = some (C'.1 66 5, C2) := by
      rw [z1]
      unfold X6_readText_J71
      rw [f1, bs, rd_I kC2, bs, c66]
    by_cases c : C'.1 66 5 = 0
    · -- in force
      have M11 : Ky (sI C2 64 2 (-1)) := kC2.sI _ _ _
      have o11 : ObK (sI C2 64 2 (-1)) P D := o2
      have kd64 : kd C2 64 = (11, 0) := (kC2.1 64 (by decide)).trans rfl
      have kd257 : kd C2 257 = (4, 0) := (mm_kd kC2 mk2).1
      generalize h19 : sR (sR (sI C2 64 2 (-1)) 64 4 D) 64 5 P = M19
      have r19 : M19.1 = (sI C2 64 2 (-1)).1 := by rw [← h19]; rfl
      have k19 : M19.2.2 = C2.2.2 := by rw [← h19]; rfl
      have q19 : ∀ a i, (a ≠ 64 ∨ (i ≠ 4 ∧ i ≠ 5)) → M19.2.1 a i = C2.2.1 a i := fun a i ha => by
        rw [← h19]
        show up2 (up2 C2.2.1 64 4 D) 64 5 P a i = _
        rw [upN _ (by omega), upN _ (by omega)]
      have q4 : M19.2.1 64 4 = D := by
        rw [← h19]
        show up2 (up2 C2.2.1 64 4 D) 64 5 P 64 4 = _
        rw [upN _ (by omega), upA]
      have q5 : M19.2.1 64 5 = P := by
        rw [← h19]
        show up2 (up2 C2.2.1 64 4 D) 64 5 P 64 5 = _
        rw [upA]
      have kdA : ∀ a, kd M19 a = kd C2 a := fun a => by unfold kd; rw [k19]
      have pf19 : Pf M M19 := ⟨k19.trans e22, fun a i h1 h2 h3 h4 => (q19 a i (by omega)).trans (er a i (by omega))⟩
      have ky19 := pf19.ky hM
      have mk19 := pf19.mm m1
      have pk19 : PlK M19 D := pk2.ext (fun a _ _ => kdA a) (fun a k _ _ => q19 a k (by omega))
      have st19 : StK M19 263 P := a3.1.1.ext (fun a _ _ => pf19.kdE a) (fun k => (q19 263 k (by omega)).trans (er 263 k (by omega)))
      have i19 : ∀ a, a ≠ 64 → M19.1 a = C2.1 a := fun a ha => by rw [r19, sI_ne _ _ _ ha]
      -- the draft
      obtain ⟨Rx, ex, -, vx, -⟩ := lock M hM o.wk rfl t2
      have dx := (vx.2.2.2.1 c).1
      have hTx := dx.1
      have u5 : M19.1 D 5 = Int32.ofNat (tz (Rx.1 327)) := by rw [i19 D (by omega), f3 D (by omega), dx.2.1.1]; exact hTx.z.1
      have u7 : M19.1 D 7 = Int32.ofNat (td (Rx.1 327)) := by rw [i19 D (by omega), f3 D (by omega), dx.2.1.2.2.1]; exact hTx.d.1
      obtain ⟨B, b1, b2, b3, b4, b5, b6, b7, b8, b9, b10⟩ := c_begin (M := M19) (S := 263) (P := D) st19 pk19 (by omega) hTx.z.2 u5 hTx.d.2 u7
      have pfB : Pf M B := ⟨by rw [b2]; exact pf19.1, fun a i h1 h2 h3 h4 => by
        rw [b2]
        show up2 M19.2.1 263 0 D a i = _
        rw [upN _ (by omega)]
        exact pf19.2 a i h1 h2 h3 h4⟩
      have kyB := pfB.ky hM
      have mkB := pfB.mm m1
      generalize hM1 : sI (sI (sI (sI (sI B 257 2 0) 257 3 0) 257 7 0) 64 8 0) 345 0 0 = M1
      have e1 : M1.2 = B.2 := by rw [← hM1]; rfl
      have i1' : ∀ a, a ≠ 64 → a ≠ 257 → a ≠ 345 → M1.1 a = B.1 a := fun a h1 h2 h3 => by rw [← hM1, sI_ne _ _ _ h3, sI_ne _ _ _ h1, sI_ne _ _ _ h2, sI_ne _ _ _ h2, sI_ne _ _ _ h2]
      have r64 : M1.1 64 = ud (ud (C2.1 64) 2 (-1)) 8 0 := by rw [← hM1, sI_ne _ _ _ (by decide), sI_own, sI_ne _ _ _ (by decide), sI_ne _ _ _ (by decide), sI_ne _ _ _ (by decide), b4 64 (by omega), r19, sI_own]
      have r257 : M1.1 257 = ud (ud (ud (B.1 257) 2 0) 3 0) 7 0 := by rw [← hM1, sI_ne _ _ _ (by decide), sI_ne _ _ _ (by decide), sI_own, sI_own, sI_own]
      have r345 : M1.1 345 0 = 0 := by rw [← hM1, sI_own, ud_at]
      have iB : ∀ a, a ≠ 64 → (a < 263 ∨ 277 < a) → B.1 a = C2.1 a := fun a h1 h2 => by rw [b4 a (by omega), i19 a h1]
      have pf1 : Pf M M1 := ⟨by rw [e1]; exact pfB.1, fun a i h1 h2 h3 h4 => by rw [e1]; exact pfB.2 a i h1 h2 h3 h4⟩
      have ky1 := pf1.ky hM
      have ref1 : ∀ a i, (a ≠ 263 ∨ i ≠ 0) → M1.2.1 a i = M19.2.1 a i := fun a i ha => by
        rw [e1, b2]
        show up2 M19.2.1 263 0 D a i = _
        rw [upN _ (by omega)]
      have wk1 : WkK M1.2.1 := wk2.ext (fun a k h1 h2 _ => by rw [ref1 a k (by omega), q19 a k (by omega)])
      have low : ∀ a, a ≠ 64 → a ≠ 66 → a ≠ 257 → a ≠ 345 → (a < D ∨ D + 94 < a) → (a < 263 ∨ 277 < a) → M1.1 a = M.1 a := fun a h1 h2 h3 h4 h5 h6 => by rw [i1' a h1 h3 h4, iB a h1 h6, ei a h1 h2 h5]
      -- the reference
      obtain ⟨R', e', y1, y2, y3, y4, y5, y6, y7, y8⟩ := lock M1 ky1 wk1 (low 329 (by omega) (by omega) (by omega) (by omega) (by omega) (by omega)) (by rw [low 319 (by omega) (by omega) (by omega) (by omega) (by omega) (by omega)]; exact t2)
      have kyR : Ky R' := ky1.eq y3
      have r18 : R'.1 319 18 = 0 := y2.2.1.2.2.1.trans c
      have dR := (y2.2.2.2.1 c).1
      generalize hN : mixR 305 (R'.1 326) (R'.1 324) = N'
      generalize hT : mixR 168 (R'.1 327) (R'.1 325) = T'
      have dN : DrV C' D N' T' := dR.mix pk' (fun k hk => by rw [← hN, mixR_lt hk]) (fun k hk => by rw [← hT, mixR_lt hk])
      have kyW : Ky (wR (wR R' 324 N') 325 T') := (kyR.wR _ _).wR _ _
      generalize hM2 : sI (sI (sI (wR (wR R' 324 N') 325 T') 319 26 0) 319 28 0) 319 35 0 = M2
      have e2 : M2.2 = M1.2 := by rw [← hM2]; exact y3
      have w324 : M2.1 324 = N' := by rw [← hM2, sI_ne _ _ _ (by decide), sI_ne _ _ _ (by decide), sI_ne _ _ _ (by decide), wR_ne _ _ (by decide), wR_own]
      have w325 : M2.1 325 = T' := by rw [← hM2, sI_ne _ _ _ (by decide), sI_ne _ _ _ (by decide), sI_ne _ _ _ (by decide), wR_own]
      have w319 : M2.1 319 = ud (ud (ud (R'.1 319) 26 0) 28 0) 35 0 := by rw [← hM2, sI_own, sI_own, sI_own, wR_ne _ _ (by decide), wR_ne _ _ (by decide)]
      have wo : ∀ a, a ∉ [319, 324, 325, 326, 327] → M2.1 a = M1.1 a := fun a ha => by
        simp only [List.mem_cons, List.not_mem_nil, or_false] at ha
        rw [← hM2, sI_ne _ _ _ (by omega), sI_ne _ _ _ (by omega), sI_ne _ _ _ (by omega), wR_ne _ _ (by omega), wR_ne _ _ (by omega)]
        exact y4 a (by simp only [List.mem_cons, List.not_mem_nil, or_false]; omega)
      have wl : ∀ a, (a < 319 ∨ 327 < a) → M2.1 a = M1.1 a := fun a ha => wo a (by simp only [List.mem_cons, List.not_mem_nil, or_false]; omega)
      obtain ⟨C3, g1, g2, g3, g4, g5⟩ := dN.find pk'
      have e3 : C3 = C2 := Option.some.inj (g1.symm.trans f1)
      subst e3
      have pf : Pf M M2 := ⟨by rw [e2]; exact pf1.1, fun a i h1 h2 h3 h4 => by rw [e2]; exact pf1.2 a i h1 h2 h3 h4⟩
      have ref2 : ∀ a i, (a ≠ 263 ∨ i ≠ 0) → M2.2.1 a i = M19.2.1 a i := fun a i ha => by rw [e2]; exact ref1 a i ha
      have pk2' : PlK M2 D := pk19.ext (fun a _ _ => by rw [pf.kdE, pf19.kdE]) (fun a k _ _ => ref2 a k (by omega))
      have wk2' : WkK M2.2.1 := by rw [e2]; exact wk1
      have ds2' : DsK M2.2.1 := ds2.ext (fun a k ha => by rw [ref2 a k (by omega), q19 a k (by omega)])
      have rowD : ∀ a, D ≤ a → a < D + 95 → M2.1 a = C3.1 a := fun a h1 h2 => by rw [wl a (by omega), i1' a (by omega) (by omega) (by omega), iB a (by omega) (by omega)]
      have rowS : ∀ a, 263 ≤ a → a ≤ 277 → M2.1 a = B.1 a := fun a h1 h2 => by rw [wl a (by omega), i1' a (by omega) (by omega) (by omega)]
      have eTz : tz T' = tz (Rx.1 327) := by
        have q1 : C'.1 D 5 = Int32.ofNat (tz T') := dN.2.1.1.trans dN.1.z.1
        have q2 : C'.1 D 5 = Int32.ofNat (tz (Rx.1 327)) := dx.2.1.1.trans hTx.z.1
        have := dN.1.z.2
        have := hTx.z.2
        exact (eq_n (by omega) (by omega)).mp (q1.symm.trans q2)
      have eTd : td T' = td (Rx.1 327) := by
        have q1 : C'.1 D 7 = Int32.ofNat (td T') := dN.2.1.2.2.1.trans dN.1.d.1
        have q2 : C'.1 D 7 = Int32.ofNat (td (Rx.1 327)) := dx.2.1.2.2.1.trans hTx.d.1
        have := dN.1.d.2
        have := hTx.d.2
        exact (eq_n (by omega) (by omega)).mp (q1.symm.trans q2)
      have sk : StK M2 263 D := b3.eq (by rw [e2, e1])
      have oD : ∀ a, (D ≤ a ∧ a < D + 11) ∨ (D + 21 ≤ a ∧ a < D + 95) → M19.1 a = C'.1 a := fun a ha => by rw [i19 a (by omega), f3 a (by omega)]
      have sd : Sd M2 263 D N' T' 0 := by
        refine dN.sd sk ?_ (fun i hi => ?_) (fun i hi => ?_) (fun i hi => ?_) (fun i hi => ?_) (fun i hi => ?_)
        · rw [rowS 263 (by omega) (by omega)]
          rw [oD D (by omega)] at b5
          exact b5
        · rw [eTz] at hi
          have z5' := hTx.z.2
          have q := b6 i hi
          rw [oD (D + 6 + i) (by omega)] at q
          rw [rowS (263 + 1) (by omega) (by omega), rowS (263 + 2) (by omega) (by omega), rowS (263 + 3) (by omega) (by omega), rowS (263 + 4) (by omega) (by omega), rowS (263 + 5) (by omega) (by omega), rowS (263 + 6) (by omega) (by omega)]
          exact q
        · rw [rowS (263 + 7) (by omega) (by omega)]; exact b7 i hi
        · rw [rowS (263 + 8) (by omega) (by omega), rowS (263 + 9) (by omega) (by omega)]; exact b8 i hi
        · rw [eTd] at hi
          have d6' := hTx.d.2
          have q := b9 i hi
          rw [oD (D + 21 + i) (by omega)] at q
          rw [rowS (263 + 10) (by omega) (by omega), rowS (263 + 11) (by omega) (by omega), rowS (263 + 12) (by omega) (by omega)]
          exact q
        · rw [rowS (263 + 13) (by omega) (by omega)]; exact b10 i hi
      have ob : ObK M2 D P := by
        unfold ObK
        rw [ref2 64 0 (by omega), ref2 64 3 (by omega), ref2 64 4 (by omega), ref2 64 5 (by omega), ref2 64 6 (by omega), ref2 64 7 (by omega), ref2 64 9 (by omega), ref2 64 10 (by omega), ref2 66 0 (by omega), q19 64 0 (by omega), q19 64 3 (by omega), q19 64 6 (by omega), q19 64 7 (by omega), q19 64 9 (by omega), q19 64 10 (by omega), q19 66 0 (by omega)]
        obtain ⟨⟨p0, p1, p2, p3, p4, p5, p6, p7, p8, -, -⟩, p⟩ := o2
        exact ⟨⟨p0, p1, q4, q5, p4, p5, p6, p7, p8, wk2', ds2'⟩, by omega⟩
      have m64 : M2.1 64 = ud (ud (ud (M.1 64) 1 0) 2 (-1)) 8 0 := by rw [wl 64 (by omega), r64, e64]
      have m257 : M2.1 257 = ud (ud (ud (B.1 257) 2 0) 3 0) 7 0 := by rw [wl 257 (by omega), r257]
      have cv2 : CV M2 M2.1 D P (1300 * j) := by
        refine cv.good pf ob pk2' (fun i => by rw [ref2 (P + 4) i (by omega), q19 (P + 4) i (by omega), er (P + 4) i (by omega)]) (by rw [w325]; exact dN.1) ?_ (by rw [w325]; exact g5) (by rw [w324, w325]; exact sd) ?_ ?_ ?_ (fun i hi => ?_) ?_ ?_ ?_ ?_ ⟨0, ?_, ?_, by omega, fun i hi => absurd hi (Nat.not_lt_zero _)⟩ ?_
        · rw [w325]
          exact g4.ext (pk'.eq g2) dN.1 (fun k => by rw [ref2 (D + 4) k (by omega), q19 (D + 4) k (by omega)]) rowD
        · rw [m257, ud_ne _ _ (by decide), ud_ne _ _ (by decide), ud_at]
        · rw [m257, ud_ne _ _ (by decide), ud_at]
        · rw [m257, ud_at]
        · rw [wl 262 (by omega), wl 328 (by omega), low 262 (by omega) (by omega) (by omega) (by omega) (by omega) (by omega), low 328 (by omega) (by omega) (by omega) (by omega) (by omega) (by omega)]
          exact a3.2.2.2.2 i hi
        · rw [w319, ud_ne _ _ (by decide), ud_ne _ _ (by decide), ud_at]
        · rw [w319, ud_ne _ _ (by decide), ud_at]
        · rw [w319, ud_at]
        · rw [m64, ud_at]
        · rw [m64, ud_ne _ _ (by decide), ud_ne _ _ (by decide), ud_at]; rfl
        · rw [w319, ud_ne _ _ (by decide), ud_ne _ _ (by decide), ud_ne _ _ (by decide), y7]; rfl
        · rw [w319, ud_ne _ _ (by decide), ud_ne _ _ (by decide), ud_ne _ _ (by decide), y8, m64, ud_ne _ _ (by decide), ud_at]
      refine ⟨0, M1, 0, M2, ?_, ?_, ?_, fun _ => ?_, ⟨⟨D, P, cv2.le (by omega)⟩, rm.ft pf.1 (by omega)⟩, pf.ky hM⟩
      · unfold sh_L_plan L_plan_F sh_X11_plan X11_plan_F
        rw [o_O hM, bs, if_neg ltx, o_I hM, bs, t1, if_pos lex, o_P hM, bs, o_reader k3 o3, bs, o_draft k3 o3, bs, rt, bs]
        rw [if_pos (show (C'.1 66 5, C3).1 = 0 from c)]
        dsimp only
        rw [o_P kC2, bs, o_plan M11 o11, bs, o_draft M11 o11, bs, p_R 4 D (show kd (sI C3 64 2 (-1)) 64 = (11, 0) from kd64), bs, p_R 5 P (show kd (sR (sI C3 64 2 (-1)) 64 4 D) 64 = (11, 0) from kd64), bs, h19]
        rw [g_R 6 (show kd M19 64 = (11, 0) by rw [kdA]; exact kd64), bs, g_R 4 (show kd M19 64 = (11, 0) by rw [kdA]; exact kd64), bs, q4, q19 64 6 (by omega), o2.1.2.2.2.2.1]
        unfold sh_X4_begin X4_begin_F
        rw [mm_O ky19 mk19, bs, mm_now ky19 mk19, bs, b1, bs, mm_P kyB mkB, bs, mm_P (kyB.sI _ _ _) (show MmK (sI B 257 2 0) 257 from mkB), bs, mm_P ((kyB.sI _ _ _).sI _ _ _) (show MmK (sI (sI B 257 2 0) 257 3 0) 257 from mkB), bs, bs, p_Z 8 0 (show kd (sI (sI (sI B 257 2 0) 257 3 0) 257 7 0) 64 = (11, 0) from (kyB.1 64 (by decide)).trans rfl) (Or.inl rfl), bs, bs]
        show ((stA (sI (sI (sI (sI B 257 2 0) 257 3 0) 257 7 0) 64 8 0) 3 345 0 0).bind _) = _
        rw [st345_0 ((((kyB.sI _ _ _).sI _ _ _).sI _ _ _).sI _ _ _), bs, hM1]
      · rw [y1]
        unfold X12_plan_J89
        rw [m_I kyR, bs, if_pos r18, m_now kyR, bs, m_reading kyR, bs, m_copyTo (n := 305) ((kyR.1 324 (by decide)).trans rfl) ((kyR.1 326 (by decide)).trans rfl) (by decide) (by decide), bs, hN, m_told (kyR.wR _ _), bs, m_readTold (kyR.wR _ _), bs, m_copyTo (n := 168) (((kyR.wR 324 N').1 325 (by decide)).trans rfl) (((kyR.wR 324 N').1 327 (by decide)).trans rfl) (by decide) (by decide), bs, wR_ne _ _ (show 327 ≠ 324 by decide), wR_ne _ _ (show 325 ≠ 324 by decide), hT, m_P kyW, bs, m_P (kyW.sI _ _ _), bs, m_Z ((kyW.sI _ _ _).sI _ _ _) _ _ (Or.inl rfl), bs, hM2]
      · rw [w319, ud_ne _ _ (by decide), ud_ne _ _ (by decide), ud_ne _ _ (by decide), y6]
      · rw [wl 345 (by omega), r345]
    · -- a FAULT
      have k33 := kC2.sI 64 2 (C'.1 66 4)
      have mk33 : MmK (sI C2 64 2 (C'.1 66 4)) 257 := mk2
      have o33 : ObK (sI C2 64 2 (C'.1 66 4)) P D := o2
      have kd262 : kd (sI C2 64 2 (C'.1 66 4)) 262 = (32, 3) := (mm_kd k33 mk33).2.2.2.2.2
      have r262 : C2.1 262 = M.1 262 := ei 262 (by omega) (by omega) (by omega)
      generalize hM1 : sI (sI (sI C2 64 2 (C'.1 66 4)) 262 0 (M.1 262 0 + 1)) 345 0 (C'.1 66 5) = M1
      have e1 : M1.2 = C2.2 := by rw [← hM1]; rfl
      have ky1 : Ky M1 := kC2.eq e1
      have low : ∀ a, a ≠ 64 → a ≠ 66 → a ≠ 262 → a ≠ 345 → (a < D ∨ D + 94 < a) → M1.1 a = M.1 a := fun a h1 h2 h3 h4 h5 => by rw [← hM1, sI_ne _ _ _ h4, sI_ne _ _ _ h3, sI_ne _ _ _ h1, ei a h1 h2 h5]
      obtain ⟨R', e', y1, y2, y3, y4, y5, y6, y7, y8⟩ := lock M1 ky1 (by rw [e1]; exact wk2) (low 329 (by omega) (by omega) (by omega) (by omega) (by omega)) (by rw [low 319 (by omega) (by omega) (by omega) (by omega) (by omega)]; exact t2)
      have kyR : Ky R' := ky1.eq y3
      have r18 : R'.1 319 18 = C'.1 66 5 := y2.2.1.2.2.1
      have r19 : R'.1 319 19 = C'.1 66 4 := y2.2.1.2.2.2 c
      have r328 : R'.1 328 = M.1 328 := (y4 328 (by decide)).trans (low 328 (by omega) (by omega) (by omega) (by omega) (by omega))
      generalize hM2 : sI (sI R' 319 20 (C'.1 66 4)) 328 0 (M.1 328 0 + 1) = M2
      have e2 : M2.2 = C2.2 := by rw [← hM2]; exact y3.trans e1
      have wl : ∀ a, (a < 319 ∨ 328 < a) → M2.1 a = M1.1 a := fun a ha => by
        rw [← hM2, sI_ne _ _ _ (by omega), sI_ne _ _ _ (by omega)]
        exact y4 a (by simp only [List.mem_cons, List.not_mem_nil, or_false]; omega)
      have m319 : M2.1 319 = ud (R'.1 319) 20 (C'.1 66 4) := by rw [← hM2, sI_ne _ _ _ (by decide), sI_own]
      have m328 : M2.1 328 = ud (M.1 328) 0 (M.1 328 0 + 1) := by rw [← hM2, sI_own, sI_ne _ _ _ (by decide), r328]
      have m64 : M2.1 64 = ud (ud (M.1 64) 1 0) 2 (C'.1 66 4) := by rw [wl 64 (by omega), ← hM1, sI_ne _ _ _ (by decide), sI_ne _ _ _ (by decide), sI_own, e64]
      have m262 : M2.1 262 = ud (M.1 262) 0 (M.1 262 0 + 1) := by rw [wl 262 (by omega), ← hM1, sI_ne _ _ _ (by decide), sI_own, sI_ne _ _ _ (by decide), r262]
      have pf : Pf M M2 := ⟨by rw [e2]; exact e22, fun a i h1 h2 h3 h4 => by rw [e2]; exact er a i (by omega)⟩
      have ob : ObK M2 P D := by unfold ObK at *; rw [e2]; exact o2
      have cv2 : CV M2 M2.1 P D (1300 * j) := by
        refine cv.bad pf ob (pk2.eq e2) (fun i => by rw [e2]; exact er (P + 4) i (by omega)) (by rw [e2]; exact er 263 0 (by omega)) (fun a h1 _ h2 h3 h4 h5 => by rw [wl a (by omega), low a h1 h2 h3 (by omega) h4]) (by rw [m64, ud_ne _ _ (by decide), ud_ne _ _ (by decide)]) (fun i hi => ?_) (fun a ha => ?_) (fun i hi => ?_) ⟨0, ?_, ?_, by omega, fun i hi => absurd hi (Nat.not_lt_zero _)⟩ ?_
        · have st0 := a3.2.2.2.2
          rw [m262, m328]
          by_cases c0 : i = 0
          · rw [c0, ud_at, ud_at, st0 0 (by omega)]
          · rw [ud_ne _ _ c0, ud_ne _ _ c0]; exact st0 i hi
        · simp only [List.mem_cons, List.not_mem_nil, or_false] at ha
          by_cases c5 : a = 324 ∨ a = 325
          · rw [← hM2, sI_ne _ _ _ (by omega), sI_ne _ _ _ (by omega), y4 a (by simp only [List.mem_cons, List.not_mem_nil, or_false]; omega)]
            exact low a (by omega) (by omega) (by omega) (by omega) (by omega)
          · rw [wl a (by omega)]
            exact low a (by omega) (by omega) (by omega) (by omega) (by omega)
        · simp only [List.mem_cons, List.not_mem_nil, or_false] at hi
          rw [m319, ud_ne _ _ (by omega), y5 i (by omega), low 319 (by omega) (by omega) (by omega) (by omega) (by omega)]
        · rw [m64, ud_ne _ _ (by decide), ud_at]; rfl
        · rw [m319, ud_ne _ _ (by decide), y7]; rfl
        · rw [m319, ud_at, m64, ud_at]
      refine ⟨0, M1, C'.1 66 5, M2, ?_, ?_, ?_, fun _ => ?_, ⟨⟨P, D, cv2.le (by omega)⟩, rm.ft pf.1 (by omega)⟩, pf.ky hM⟩
      · unfold sh_L_plan L_plan_F sh_X11_plan X11_plan_F
        rw [o_O hM, bs, if_neg ltx, o_I hM, bs, t1, if_pos lex, o_P hM, bs, o_reader k3 o3, bs, o_draft k3 o3, bs, rt, bs]
        rw [if_neg (show ¬ (C'.1 66 5, C2).1 = 0 from c)]
        dsimp only
        have fp : sh_X6_faultPlace 66 C2 = some (C'.1 66 4) := by
          unfold sh_X6_faultPlace X6_faultPlace_F X6_faultPlace_J15
          rw [rd_O kC2, bs, rd_I kC2, bs, c66, if_neg c, rd_I kC2, bs, c66]
        rw [o_reader kC2 o2, bs, fp, bs, o_P kC2, bs, o_mem k33 o33, bs, mm_st k33 mk33, bs]
        show (((ldA (sI C2 64 2 (C'.1 66 4)) 0 262 (Int32.ofNat 0)).bind _).bind _) = _
        rw [l_A (t := 0) kd262 (by decide) (by decide), bs, sI_ne _ _ _ (by decide), r262]
        show (((stA (sI C2 64 2 (C'.1 66 4)) 0 262 (Int32.ofNat 0) (M.1 262 0 + 1)).bind _).bind _) = _
        rw [s_A (t := 0) _ kd262 (by decide) (by decide), bs, bs]
        show ((stA (sI (sI C2 64 2 (C'.1 66 4)) 262 0 (M.1 262 0 + 1)) 3 345 0 (C'.1 66 5)).bind _) = _
        rw [st345_0 (k33.sI _ _ _), bs, hM1]
      · rw [y1]
        unfold X12_plan_J89
        rw [m_I kyR, bs, if_neg (by rw [r18]; exact c), m_I kyR, bs, r19, m_P kyR, bs, m_status (kyR.sI _ _ _), bs, ld328_0 (kyR.sI _ _ _), bs, sI_ne _ _ _ (show 328 ≠ 319 by decide), r328, st328_0 (kyR.sI _ _ _), bs, hM2, m_I (show Ky M2 from kC2.eq e2), bs, m319, ud_ne _ _ (by decide), r18]
      · rw [m319, ud_ne _ _ (by decide), y6]
      · rw [wl 345 (by omega), ← hM1, sI_own, ud_at]
  · -- refused
    have nx : x < 0 ∨ (¬ x < 0 ∧ ¬ x ≤ Int32.ofNat tl) := by
      by_cases q : x < 0
      · exact Or.inl q
      · refine Or.inr ⟨q, fun q2 => ok ?_⟩
        rw [vl_iff (by omega)]
        rw [tI_lt] at q
        rw [tI_le, tn tl (by omega)] at q2
        have h0 : (0 : Int32).toInt = 0 := rfl
        omega
    have kN : Ky (nwM M (14, 0)) := ((Sc.new M (14, 0)).cv rm.1 cv).1.2.1.1
    have r319 : (nwM M (14, 0)).1 319 = M.1 319 := by
      have := rm.1
      funext k
      show (if 319 = M.2.2.length then 0 else M.1 319 k) = _
      rw [if_neg (by omega)]
    refine q_no (e := 1) (q := (14, 0)) (b := 0) (M2 := sI (sI (nwM M (14, 0)) 319 4 0) 319 4 1) h ?_ (by decide) (by decide) ?_ ((Rq.z _ _).trans (Rq.z _ _)) (by rw [sI_own, ud_at])
    · unfold sh_L_plan L_plan_F sh_X11_plan X11_plan_F X11_plan_J12
      rw [o_O hM, bs, o_I hM, bs, t1]
      rcases nx with q | ⟨q, q2⟩
      · rw [if_pos q, bs]; rfl
      · rw [if_neg q, if_neg q2, bs]; rfl
    · unfold sh_X12_plan X12_plan_F X12_plan_J17
      rw [m_O kN, bs, m_P kN, bs, m_I (kN.sI _ _ _), bs, sI_own, ud_ne _ _ (by decide), r319, t2, m_fail (kN.sI _ _ _), bs]
      rcases nx with q | ⟨q, q2⟩
      · rw [if_pos q]
      · rw [if_neg q, if_neg q2]
end
