/-! ===== BIND 6: the CLAUSE ===== -/
section
variable {C R C' R' : Gm} {b : Nat → Int32} {n e D : Nat}
theorem ix_w (t d : Nat) : (79 + 6 * Int32.ofNat t) + Int32.ofNat d = Int32.ofNat (79 + 6 * t + d) := by
  show (Int32.ofNat 79 + Int32.ofNat 6 * Int32.ofNat t) + Int32.ofNat d = _
  rw [← Int32.ofNat_mul, ad_n, ad_n]
theorem k_bind (pr : Pre C R b n D e) : ∃ C' R', sh_X6_readBind 66 D C = some C' ∧ X12_readClause_J70 319 3 R = some R' ∧ Kz C R C' R' b n D e := by
  obtain ⟨j, ja, c0, w, pk, hD, ds, dr, hg, h11⟩ := pr
  have hD' := hD
  unfold POk at hD'
  have hT := dr.1
  have t10 := hT.t.2
  have d6' := hT.d.2
  have cD6 : C.1 D 6 = Int32.ofNat (tt (R.1 327)) := dr.2.1.2.1.trans hT.t.1
  have cD7 : C.1 D 7 = Int32.ofNat (td (R.1 327)) := dr.2.1.2.2.1.trans hT.d.1
  obtain ⟨m, hm, em⟩ := dr.m
  obtain ⟨R1, s1, s2, s3⟩ := j_word j ja c0 w
  have si0 := (Si.start (a := D) j (by omega) (by omega)).f (Fk.rfl' _) s2
  obtain ⟨v, v', C1, R2, e1, a1, a2, a3, a4, a5, a6⟩ := si0.told s3 (lim := 10) (m := tt (R.1 327)) (k := 1) (by omega) (by omega) (by omega) (by omega) hT.t.1
  replace a1 : sh_X6_readTold 66 10 (Int32.ofNat (tt (R.1 327))) C = some (v, C1) := a1
  replace a2 : sh_X12_oneNow 319 10 1 R1 = some (v', R2) := a2
  obtain ⟨x, vx, -, x9⟩ := a3
  subst vx
  have pk1 := a4.pk pk
  have k2R := a4.1.2.1
  have r2T : R2.1 327 = R.1 327 := a4.2.2.1.2.2.1
  have nf1 : C1.1 66 5 = 0 → e + 1 ≤ e1 ∧ v' = Int32.ofNat x ∧ x < tt (R.1 327) := fun q => by
    obtain ⟨-, q2, q3, i, q4, q5⟩ := a6 q
    have := (eq_n (by omega) (by omega)).mp q5
    exact ⟨q2, q3, by omega⟩
  -- the sort of the TRIP
  have fits : ∃ C2 R3, (if C1.1 (D + 11 + x) 1 = 0 then X6_readBind_J41 66 D (Int32.ofNat x) C1 else if C1.1 (D + 11 + x) 1 = 1 then X6_readBind_J41 66 D (Int32.ofNat x) C1 else (sh_X6_fail 66 4 C1).bind fun q17 => X6_readBind_J41 66 D (Int32.ofNat x) q17) = X6_readBind_J41 66 D (Int32.ofNat x) C2 ∧
      (if R2.1 319 18 = 0 then (ldA R2 0 327 (25 + v')).bind fun v7 => if v7 ≤ 1 then X12_readBind_J33 319 v' R2 else (sh_X12_wrong 319 4 R2).bind fun q9 => X12_readBind_J33 319 v' q9 else X12_readBind_J33 319 v' R2) = X12_readBind_J33 319 v' R3 ∧
      Si C R C2 R3 b n D (C.1 D) (R.1 326) (R.1 327) (R.1 319 21) ∧ jA C2 R3 b n e1 ∧ (C2.1 66 5 = 0 → C1.1 66 5 = 0 ∧ (R.1 327 (25 + x) = 0 ∨ R.1 327 (25 + x) = 1)) := by
    by_cases c : C1.1 66 5 = 0
    · obtain ⟨-, q1, q2⟩ := nf1 c
      have sx : C1.1 (D + 11 + x) 1 = R.1 327 (25 + x) := by rw [a4.own (by omega) (by omega)]; exact (dr.2.2.2.1 x q2).2.1
      obtain ⟨s, hs, -, s3'⟩ := (hT.2.2.1 x q2).2.1
      rw [q1, if_pos (a5.2.2.1.trans c)]
      have ld : ldA R2 0 327 (25 + Int32.ofNat x) = some (Int32.ofNat s) := by
        show ldA R2 0 327 (Int32.ofNat 25 + Int32.ofNat x) = _
        rw [ad_n, ld327 k2R (by omega), r2T, hs]
      rw [ld, bs, sx, hs]
      by_cases d : s ≤ 1
      · rw [if_pos (show Int32.ofNat s ≤ 1 from (le_n (b := 1) (by omega) (by omega)).mpr d)]
        have : s = 0 ∨ s = 1 := by omega
        rcases this with d | d
        · subst d; exact ⟨C1, R2, by rw [if_pos (show Int32.ofNat 0 = 0 from rfl)], rfl, a4, a5, fun _ => ⟨c, Or.inl rfl⟩⟩
        · subst d; exact ⟨C1, R2, by rw [if_neg (by decide), if_pos (show Int32.ofNat 1 = 1 from rfl)], rfl, a4, a5, fun _ => ⟨c, Or.inr rfl⟩⟩
      · obtain ⟨C2, R3, g1, g2, g3, g4, g5⟩ := a4.fail a5 (k := 4) (by decide)
        refine ⟨C2, R3, ?_, ?_, g3, g4, fun q => absurd q g5⟩
        · rw [if_neg (fun q => by have := (eq_n (b := 0) (by omega) (by omega)).mp q; omega), if_neg (fun q => by have := (eq_n (b := 1) (by omega) (by omega)).mp q; omega), g1, bs]
        · rw [if_neg (show ¬ Int32.ofNat s ≤ 1 from fun q => d ((le_n (b := 1) (by omega) (by omega)).mp q)), g2, bs]
    · have fl : sh_X6_fail 66 4 C1 = some C1 := by rw [c_fail a4.1.1.1, if_neg c]
      exact ⟨C1, R2, by rw [fl, bs, ite_self, ite_self], by rw [if_neg (by rw [a5.2.2.1]; exact c)], a4, a5, fun q => absurd q c⟩
  obtain ⟨C2, R3, y1, y2, y3, y4, y5⟩ := fits
  obtain ⟨R4, p1, p2, p3⟩ := y3.pass y4
  obtain ⟨u, u', C3, R5, e2, f1, f2, f3, f4, f5, f6⟩ := p2.told p3 (lim := 6) (m := td (R.1 327)) (k := 2) (by omega) (by omega) (by omega) (by omega) hT.d.1
  replace f1 : sh_X6_readTold 66 6 (Int32.ofNat (td (R.1 327))) C2 = some (u, C3) := f1
  replace f2 : sh_X12_oneNow 319 6 2 R4 = some (u', R5) := f2
  obtain ⟨y, uy, -, y5'⟩ := f3
  subst uy
  have pk3 := f4.pk pk
  have k5R := f4.1.2.1
  have r5T : R5.1 327 = R.1 327 := f4.2.2.1.2.2.1
  have c3D : C3.1 D = C.1 D := f4.2.1.2.2.1
  have nf2 : C3.1 66 5 = 0 → e + 1 ≤ e2 ∧ v' = Int32.ofNat x ∧ u' = Int32.ofNat y ∧ x < tt (R.1 327) ∧ y < td (R.1 327) ∧ (R.1 327 (25 + x) = 0 ∨ R.1 327 (25 + x) = 1) := fun q => by
    obtain ⟨q1, q2, q3, i, q4, q5⟩ := f6 q
    have := (eq_n (by omega) (by omega)).mp q5
    obtain ⟨q6, q7⟩ := y5 q1
    obtain ⟨r1, r2, r3⟩ := nf1 q6
    have := tE_ge (b := b) y4.1.2.2.2
    exact ⟨by omega, r2, q3, r3, by omega, q7⟩
  -- one BIND for a TRIP and a DEVICE
  have uniq : ∃ C4 R6, ((sh_X5_bindOf D (Int32.ofNat x) (Int32.ofNat y) C3).bind fun q5 => if q5 = -1 then X6_readBind_J67 66 D (Int32.ofNat x) (Int32.ofNat y) C3 else (sh_X6_fail 66 4 C3).bind fun q7 => X6_readBind_J67 66 D (Int32.ofNat x) (Int32.ofNat y) q7) = X6_readBind_J67 66 D (Int32.ofNat x) (Int32.ofNat y) C4 ∧
      (if R5.1 319 18 = 0 then (ldA R5 0 327 ((79 + (6 * v')) + u')).bind fun v9 => if v9 ≤ 0 then X12_readBind_J74 319 v' u' R5 else (sh_X12_wrong 319 4 R5).bind fun q11 => X12_readBind_J74 319 v' u' q11 else X12_readBind_J74 319 v' u' R5) = X12_readBind_J74 319 v' u' R6 ∧
      Si C R C4 R6 b n D (C.1 D) (R.1 326) (R.1 327) (R.1 319 21) ∧ jA C4 R6 b n e2 ∧ (C4.1 66 5 = 0 → C3.1 66 5 = 0 ∧ wn (R.1 327) x y = 0) := by
    by_cases c : C3.1 66 5 = 0
    · obtain ⟨-, q1, q2, q3, q4, q5⟩ := nf2 c
      have dr3 : DrV C3 D (R.1 326) (R.1 327) := dr.rd pk f4.2.1.1 (fun a h1 h2 => by
        by_cases q : a = D
        · rw [q]; exact c3D
        · exact f4.own (by omega) q)
      obtain ⟨r, r1, r2⟩ := dr3.bindOf pk3 (t := x) (d := y) (by omega) (by omega)
      obtain ⟨s, hs, -, s9⟩ := (hT.2.2.2.2.1 x y (by omega) (by omega)).1
      have wn0 : wn (R.1 327) x y = s := by unfold wn; rw [hs]; exact nn s (by omega)
      rw [q1, q2, ix_w, if_pos (f5.2.2.1.trans c), ld327 k5R (by omega), bs, r5T, hs, r1, bs]
      by_cases d : s = 0
      · refine ⟨C3, R5, by rw [if_pos (r2.mpr (wn0.trans d))], by rw [if_pos (show Int32.ofNat s ≤ 0 from (le_n (b := 0) (by omega) (by omega)).mpr (by omega))], f4, f5, fun _ => ⟨c, wn0.trans d⟩⟩
      · obtain ⟨C4, R6, g1, g2, g3, g4, g5⟩ := f4.fail f5 (k := 4) (by decide)
        refine ⟨C4, R6, ?_, ?_, g3, g4, fun q => absurd q g5⟩
        · rw [if_neg (fun q => d (wn0.symm.trans (r2.mp q))), g1, bs]
        · rw [if_neg (fun q => by have := (le_n (b := 0) (by omega) (by omega)).mp q; omega), g2, bs]
    · obtain ⟨r, r1, -⟩ := c_bindOf0 pk3 hm (by rw [c3D]; exact em) (Int32.ofNat x) (Int32.ofNat y)
      have fl : sh_X6_fail 66 4 C3 = some C3 := by rw [c_fail f4.1.1.1, if_neg c]
      exact ⟨C3, R5, by rw [r1, bs, fl, bs, ite_self], by rw [if_neg (by rw [f5.2.2.1]; exact c)], f4, f5, fun q => absurd q c⟩
  obtain ⟨C4, R6, z1, z2, z3, z4, z5⟩ := uniq
  obtain ⟨R7, o1, o2, o3⟩ := z3.pass z4
  obtain ⟨wv, C5, R8, d1, d2, d3, d4, d5, d6⟩ := o2.read o3 (lo := 1) (hi := 9) (by omega) (by omega)
  replace d1 : sh_X6_readNumber 66 1 9 C4 = some (wv, C5) := d1
  replace d2 : sh_X12_readNumber 319 1 9 R7 = some (wv, R8) := d2
  obtain ⟨k, wk, k1, k9⟩ := d3
  subst wk
  have k8R := d4.1.2.1
  have nf3 : C5.1 66 5 = 0 → C3.1 66 5 = 0 ∧ wn (R.1 327) x y = 0 := fun q => z5 (d6 q)
  have r18 : R8.1 319 18 = C5.1 66 5 := by
    rcases d5 with ⟨q1, q2, -⟩ | ⟨-, e', q⟩
    · rw [q1, q2]
    · exact q.2.2.1
  -- the weight is told
  have wgt : ∃ R9 T9, (if R8.1 319 18 = 0 then (stA R8 0 327 ((79 + (6 * v')) + u') (Int32.ofNat k)).bind fun M9 => X12_readBind_J108 M9 else X12_readBind_J108 R8) = some R9 ∧ Si C R C5 R9 b n D (C.1 D) (R.1 326) T9 (R.1 319 21) ∧ jB C5 R9 b n (tE b n e2) ∧ (C5.1 66 5 = 0 → T9 = ud (R.1 327) (79 + 6 * x + y) (Int32.ofNat k)) := by
    unfold X12_readBind_J108
    by_cases c : C5.1 66 5 = 0
    · obtain ⟨-, q1, q2, -⟩ := nf2 (nf3 c).1
      rw [q1, q2, ix_w, if_pos (r18.trans c), st327 k8R _ (by omega), bs]
      exact ⟨_, _, rfl, d4.r7 _ _, d5.r (by decide) _ _, fun _ => rfl⟩
    · rw [if_neg (by rw [r18]; exact c)]
      exact ⟨_, _, rfl, d4, d5, fun q => absurd q c⟩
  obtain ⟨R9, T9, w1, w2, w3, w4⟩ := wgt
  obtain ⟨C7, e7, n1, n2, n3, n4, n5⟩ := w2.next w3
  have e21 : R9.1 319 21 = R.1 319 21 := n2.2.2.1.2.2.2.1
  obtain ⟨C8, Rx, h1, h2, h3, h4, h5, h6⟩ := j_end (n2.r21 (R.1 319 21)).1 (n3.r21 (R.1 319 21)) hg n2.1.2.1
  have six := (n2.r21 (R.1 319 21)).f h3 h4
  have pk8 := six.pk pk
  have c8D : C8.1 D = C.1 D := six.2.1.2.2.1
  have rxT : Rx.1 327 = T9 := six.2.2.1.2.2.1
  have own8 : ∀ i, i ≠ 66 → C8.1 i = C.1 i := fun i hi => by
    by_cases q : i = D
    · rw [q]; exact c8D
    · exact six.own hi q
  have ok : C8.1 66 5 = 0 → C5.1 66 5 = 0 ∧ tE b n e2 ≤ e7 := fun q => by
    have q1 := (h6 q).1
    exact ⟨by rw [← n4]; exact q1, n5 q1⟩
  have r319 : (sI Rx 327 166 (Rx.1 327 166 + 1)).1 319 = Rx.1 319 := sI_ne _ _ _ (by decide)
  -- the reference
  have ref : X12_readClause_J70 319 3 R = some (sI Rx 327 166 (Rx.1 327 166 + 1)) := by
    unfold X12_readClause_J70
    rw [m_I j.2.1, bs, if_pos (ja.2.2.1.trans c0), s1, bs, if_neg (by decide), if_neg (by decide), if_neg (by decide), if_pos rfl]
    unfold sh_X12_readBind X12_readBind_F
    rw [m_O si0.1.2.1, bs, a2, bs, m_I k2R, bs, m_readTold k2R, bs, y2]
    unfold X12_readBind_J33
    rw [p1, bs, f2, bs, m_I k5R, bs, m_readTold k5R, bs, z2]
    unfold X12_readBind_J74
    rw [o1, bs, d2, bs, m_I k8R, bs, m_readTold k8R, bs, w1, bs]
    have q := j156 (x := 3) n2.1.2.1 (by decide) e21 hg
    have q2 := h2 (Int32.ofNat 3)
    rw [q2, cnt1_lt six.1.2.1 (by decide)] at q
    exact q
  -- the class
  have cls : sh_X6_readBind 66 D C = if C8.1 66 5 = 0 then (sh_X5_addBind D (Int32.ofNat x) (Int32.ofNat y) (Int32.ofNat k) C8).bind fun q7 => some q7 else some C8 := by
    unfold sh_X6_readBind X6_readBind_F
    rw [rd_O j.1.1, bs, pg_I pk, bs, cD6, a1, bs, p_trips pk1, bs, p_trip pk1 (by omega), bs, g_I 1 (pk1.2.2.2.2.1 x (by omega)).2, bs, bs]
    dsimp only
    rw [p_trip pk1 (by omega), bs, g_I 1 (pk1.2.2.2.2.1 x (by omega)).2, bs, y1]
    unfold X6_readBind_J41
    rw [pg_I (y3.pk pk), bs, y3.2.1.2.2.1, cD7, f1, bs, z1]
    unfold X6_readBind_J67
    rw [d1, bs]
    unfold sh_X6_readEnd X6_readEnd_F
    rw [rd_O d4.1.1.1, bs, n1, bs, h1, bs, bs, rd_I six.1.1.1, bs]
    rfl
  by_cases c : C8.1 66 5 = 0
  · obtain ⟨q1, q2⟩ := ok c
    obtain ⟨q3, q4⟩ := nf3 q1
    obtain ⟨r1, -, -, r2, r3, r4⟩ := nf2 q3
    have et := w4 q1
    have dr8 : DrV C8 D (R.1 326) (R.1 327) := dr.rd pk six.2.1.1 (fun a h1 h2 => own8 a (by omega))
    obtain ⟨C9, i1, i2, i3, i4, i5, i6, i7, m', i8, i9⟩ := dr8.bind hD pk8 (by rw [six.2.1.1]; exact ds) (t := x) (d := y) (w := k) r2 r3 r4 ⟨k1, k9⟩ q4 (T' := ud (ud (R.1 327) (79 + 6 * x + y) (Int32.ofNat k)) 166 (R.1 327 166 + 1)) (fun i h1 h2 => by rw [ud_ne _ _ h2, ud_ne _ _ h1]) (by rw [ud_ne _ _ (by omega), ud_at]) (by rw [ud_at])
    have c66 : C9.1 66 = C8.1 66 := i7 66 (by omega) (by omega)
    refine ⟨C9, _, by rw [cls, if_pos c, i1, bs], ref, ⟨⟨by rw [i5, six.2.1.1], fun i k hi => by rw [i6 i k hi, six.2.1.1], fun i h1 h2 => by rw [i7 i (by omega) (by omega), own8 i h1], by rw [c66]; exact six.2.1.2.1⟩, ⟨six.2.2.1.1, fun i hi => ?_, fun k hk => ?_⟩, ⟨i3, i4⟩, ?_, fun _ => ⟨?_, ?_⟩, ?_, tt (R.1 327), m', hT.t.2, i8, ?_, ?_⟩⟩
    · rw [sI_ne _ _ _ (fun q => hi (by rw [q]; decide))]; exact six.2.2.1.2.2.2.2.1 i hi
    · rw [r319]; exact six.2.2.1.2.2.2.2.2 k hk
    · refine (h5.w c66 (fun k _ => by rw [r319])).le ?_
      have := tE_ge (b := b) n3.1.2.2.2
      have := tE_ge (b := b) z4.1.2.2.2
      omega
    · rw [sI_own, sI_ne _ _ _ (by decide), six.2.2.1.2.1, rxT, et, ud_ne _ _ (by omega)]
      exact i2
    · rw [r319, six.2.2.1.2.2.2.1, i9, ud_ne _ _ (by decide), c8D]; exact h11
    · rw [r319, six.2.2.1.2.2.2.1]; exact hg
    · rw [i9, ud_ne _ _ (by decide), c8D]; exact cD6
    · rw [i9, ud_at]
  · refine ⟨C8, _, by rw [cls, if_neg c], ref, ⟨⟨by rw [six.2.1.1], fun i k _ => by rw [six.2.1.1], fun i h1 h2 => own8 i h1, six.2.1.2.1⟩, ⟨six.2.2.1.1, fun i hi => ?_, fun k hk => ?_⟩, ⟨pk8, by rw [six.2.1.1]; exact ds⟩, ?_, fun q => absurd q c, ?_, tt (R.1 327), m, hT.t.2, hm, ?_, ?_⟩⟩
    · rw [sI_ne _ _ _ (fun q => hi (by rw [q]; decide))]; exact six.2.2.1.2.2.2.2.1 i hi
    · rw [r319]; exact six.2.2.1.2.2.2.2.2 k hk
    · rcases h5.w rfl (fun k _ => by rw [r319]) with ⟨q, -⟩ | q
      · exact absurd q c
      · exact Or.inr q
    · rw [r319, six.2.2.1.2.2.2.1]; exact hg
    · rw [c8D]; exact cD6
    · rw [c8D]; exact em
end
