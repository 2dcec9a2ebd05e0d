/-! ===== WALL: the CLAUSE of a WALL ===== -/
section
variable {C R C' R' : Gm} {b : Nat → Int32} {n e D : Nat}
theorem k_wall (pr : Pre C R b n D e) (hw8 : tw (R.1 327) < 8) : ∃ C' R', sh_X6_readWall 66 D C = some C' ∧ X12_readClause_J70 319 4 R = some R' ∧ Kz C R C' R' b n D e := by
  obtain ⟨j, ja, c0, w, pk, hD, ds, dr, hg, h11⟩ := pr
  obtain ⟨t, ht⟩ : ∃ t, tw (R.1 327) = t := ⟨_, rfl⟩
  rw [ht] at hw8
  have hD' := hD
  unfold POk at hD'
  have hT := dr.1
  have td1 := hT.w.1
  rw [ht] at td1
  have tz5 := hT.z.2
  have cD9 : C.1 D 9 = Int32.ofNat t := dr.2.1.2.2.2.1.trans td1
  have cD5 : C.1 D 5 = Int32.ofNat (tz (R.1 327)) := dr.2.1.1.trans hT.z.1
  have m8 := dr.m
  obtain ⟨R1, s1, s2, s3⟩ := j_word j ja c0 w
  have si0 := (Si.start (a := D + 87 + t) j (by omega) (by omega)).f (Fk.rfl' _) s2
  obtain ⟨v, v', C1, R2, e1, a1, a2, a3, a4, a5, a6⟩ := si0.told s3 (lim := 5) (m := tz (R.1 327)) (k := 0) (by omega) (by omega) (by omega) (by omega) hT.z.1
  replace a1 : sh_X6_readTold 66 5 (Int32.ofNat (tz (R.1 327))) C = some (v, C1) := a1
  replace a2 : sh_X12_oneNow 319 5 0 R1 = some (v', R2) := a2
  obtain ⟨R3, p1, p2, p3⟩ := a4.pass a5
  have si3 := (p2.c 0 v).r7 (139 + t) v'
  have b3 : jB (sI C1 (D + 87 + t) 0 v) (sI R3 327 (139 + t) v') b n (tE b n e1) := (p2.jc 0 v p3).r (by decide) _ _
  obtain ⟨u, u', C2, R4, e2, f1, f2, f3, f4, f5, f6⟩ := si3.told b3 (lim := 5) (m := tz (R.1 327)) (k := 0) (by omega) (by omega) (by omega) (by omega) (by rw [ud_ne _ _ (by omega)]; exact hT.z.1)
  replace f1 : sh_X6_readTold 66 5 (Int32.ofNat (tz (R.1 327))) (sI C1 (D + 87 + t) 0 v) = some (u, C2) := f1
  replace f2 : sh_X12_oneNow 319 5 0 (sI R3 327 (139 + t) v') = some (u', R4) := f2
  have si4 := f4.c 1 u
  have a4' := f4.ja 1 u f5
  have pkt : ∀ {X : Gm}, PlK X D → kd X (D + 87 + t) = (9, 0) := fun p => (p.2.2.2.2.2.2.2.2 t hw8).2
  have k4R := f4.1.2.1
  have r4v : R4.1 327 (139 + t) = v' := by rw [f4.2.2.1.2.2.1, ud_at]
  have row0 : (sI C2 (D + 87 + t) 1 u).1 (D + 87 + t) 0 = v := by rw [si4.2.1.2.2.1, ud_ne _ _ (by decide), ud_at]
  have row1 : (sI C2 (D + 87 + t) 1 u).1 (D + 87 + t) 1 = u := by rw [si4.2.1.2.2.1, ud_at]
  have c2s : (sI C2 (D + 87 + t) 1 u).1 66 = C2.1 66 := sI_ne _ _ _ (by omega)
  have nf : C2.1 66 5 = 0 → e + 1 ≤ e2 ∧ v' = v ∧ u' = u ∧ (∃ i, i < tz (R.1 327) ∧ v = Int32.ofNat i) ∧ ∃ i, i < tz (R.1 327) ∧ u = Int32.ofNat i := fun q => by
    obtain ⟨q1, q2, q3, q4⟩ := f6 q
    rw [sI_ne _ _ _ (by omega)] at q1
    obtain ⟨q5, q6, q7, q8⟩ := a6 q1
    have := tE_ge (b := b) a5.1.2.2.2
    exact ⟨by omega, q7, q3, q8, q4⟩
  have clash : ∃ C3 R5, (if u = v then (sh_X6_fail 66 4 (sI C2 (D + 87 + t) 1 u)).bind fun q25 => X6_readWall_J67 66 D (D + 87 + t) q25 else X6_readWall_J67 66 D (D + 87 + t) (sI C2 (D + 87 + t) 1 u)) = X6_readWall_J67 66 D (D + 87 + t) C3 ∧
      (if R4.1 319 18 = 0 then (if u' = v' then (sh_X12_wrong 319 4 R4).bind fun q19 => X12_readWall_J58 319 (Int32.ofNat t) u' q19 else X12_readWall_J58 319 (Int32.ofNat t) u' R4) else X12_readWall_J58 319 (Int32.ofNat t) u' R4) = X12_readWall_J58 319 (Int32.ofNat t) u' R5 ∧
      Si C R C3 R5 b n (D + 87 + t) (ud (ud (C.1 (D + 87 + t)) 0 v) 1 u) (R.1 326) (ud (R.1 327) (139 + t) v') (R.1 319 21) ∧ jA C3 R5 b n e2 ∧ (C3.1 66 5 = 0 → C2.1 66 5 = 0 ∧ u ≠ v) := by
    by_cases c : C2.1 66 5 = 0
    · obtain ⟨-, q1, q2, -⟩ := nf c
      rw [q1, q2, if_pos (f5.2.2.1.trans c)]
      by_cases d : u = v
      · obtain ⟨C3, R5, g1, g2, g3, g4, g5⟩ := si4.fail a4' (k := 4) (by decide)
        rw [q1] at g3
        exact ⟨C3, R5, by rw [if_pos d, g1, bs], by rw [if_pos d, g2, bs], g3, g4, fun q => absurd q g5⟩
      · rw [q1] at si4
        exact ⟨_, _, by rw [if_neg d], by rw [if_neg d], si4, a4', fun _ => ⟨c, d⟩⟩
    · have fl : sh_X6_fail 66 4 (sI C2 (D + 87 + t) 1 u) = some (sI C2 (D + 87 + t) 1 u) := by rw [c_fail si4.1.1.1, if_neg (by rw [c2s]; exact c)]
      refine ⟨_, _, by rw [fl, bs, ite_self], by rw [if_neg (by rw [f5.2.2.1]; exact c)], si4, a4', fun q => absurd (by rw [← c2s]; exact q) c⟩
  obtain ⟨C3, R5, y1, y2, y3, y4, y5⟩ := clash
  obtain ⟨R6, z1, z2, z3⟩ := y3.pass y4
  have si6 := z2.r7 (147 + t) u'
  have b6 : jB C3 (sI R6 327 (147 + t) u') b n (tE b n e2) := z3.r (by decide) _ _
  obtain ⟨w1, C5, R7, d1, d2, d3, d4, d5, d6⟩ := si6.read b6 (lo := 1) (hi := 50) (by omega) (by omega)
  replace d1 : sh_X6_readNumber 66 1 50 C3 = some (w1, C5) := d1
  replace d2 : sh_X12_readNumber 319 1 50 (sI R6 327 (147 + t) u') = some (w1, R7) := d2
  have si7 := (d4.c 2 w1).r7 (155 + t) w1
  have b7 : jB (sI C5 (D + 87 + t) 2 w1) (sI R7 327 (155 + t) w1) b n (tE b n e2) := (d4.jc 2 w1 d5).r (by decide) _ _
  obtain ⟨C7, e7, n1, n2, n3, n4, n5⟩ := si7.next b7
  have e21 : (sI R7 327 (155 + t) w1).1 319 21 = R.1 319 21 := n2.2.2.1.2.2.2.1
  obtain ⟨C8, Rx, h1, h2, h3, h4, h5, h6⟩ := j_end (n2.r21 (R.1 319 21)).1 (n3.r21 (R.1 319 21)) hg n2.1.2.1
  have six := (n2.r21 (R.1 319 21)).f h3 h4
  have pk1 := a4.pk pk
  have pk2 := f4.pk pk
  have pk4 := si4.pk pk
  have pk5 := d4.pk pk
  have pk9 := six.pk pk
  have c9D : C8.1 D = C.1 D := six.own (by omega) (by omega)
  have c1D : (sI C1 (D + 87 + t) 0 v).1 D = C.1 D := si3.own (by omega) (by omega)
  have r9T := six.2.2.1.2.2.1
  have t167 : Rx.1 327 167 = Int32.ofNat t := by rw [r9T, ud_ne _ _ (by omega), ud_ne _ _ (by omega), ud_ne _ _ (by omega)]; exact td1
  have ok : C8.1 66 5 = 0 → C2.1 66 5 = 0 ∧ u ≠ v ∧ tE b n e2 ≤ e7 := fun q => by
    have u1 := (h6 q).1
    have u2 := n5 u1
    rw [n4, sI_ne _ _ _ (by omega)] at u1
    have u3 := y5 (d6 u1)
    exact ⟨u3.1, u3.2, u2⟩
  refine ⟨sI C8 D 9 (Int32.ofNat (t + 1)), sI Rx 327 167 (Int32.ofNat (t + 1)), ?_, ?_, ?_⟩
  · unfold sh_X6_readWall X6_readWall_F
    rw [rd_O j.1.1, bs, pg_I pk, bs, cD9, if_pos (show Int32.ofNat t < 8 from (lt_n (b := 8) (by omega) (by omega)).mpr hw8), p_walls pk, bs, bs, p_wall pk hw8, bs, pg_I pk, bs, cD5, a1, bs, p_I 0 v (pkt pk1), bs, pg_I (PlK.sI pk1 _ _ _), bs, c1D, cD5, f1, bs, p_I 1 u (pkt pk2), bs, g_I 1 (pkt pk4), bs, g_I 0 (pkt pk4), bs, row0, row1, y1]
    unfold X6_readWall_J67
    rw [d1, bs, p_I 2 w1 (pkt pk5), bs]
    unfold sh_X6_readEnd X6_readEnd_F
    rw [rd_O si7.1.1.1, bs, n1, bs, h1, bs, bs, pg_I pk9, bs, c9D, cD9, pl1, pg_P pk9, bs]
  · unfold X12_readClause_J70
    rw [m_I j.2.1, bs, if_pos (ja.2.2.1.trans c0), s1, bs, if_neg (by decide), if_neg (by decide), if_neg (by decide), if_neg (by decide), if_pos rfl]
    unfold sh_X12_readWall X12_readWall_F
    have k1R := si0.1.2.1
    have t0 : R1.1 327 167 = Int32.ofNat t := by rw [si0.2.2.1.2.2.1]; exact td1
    have one : sh_X12_readOne 319 5 0 R1 = some (v', R3) := by
      unfold sh_X12_readOne X12_readOne_F
      rw [m_O k1R, bs, a2, bs, p1, bs]
    rw [m_O k1R, bs, m_readTold k1R, bs, ld327_167 k1R, bs, t0, bs, one, bs]
    show (((stA R3 0 327 (Int32.ofNat 139 + Int32.ofNat t) v').bind _).bind _) = _
    rw [st327_c p2.1.2.1 _ (by omega), bs, f2, bs, m_I k4R, bs, m_readTold k4R, bs]
    show ((if R4.1 319 18 = 0 then (ldA R4 0 327 (Int32.ofNat 139 + Int32.ofNat t)).bind _ else _).bind _) = _
    rw [ad_n, ld327 k4R (by omega), bs, r4v, y2]
    unfold X12_readWall_J58
    have k6R := z2.1.2.1
    rw [z1, bs, m_readTold k6R, bs]
    show (((stA R6 0 327 (Int32.ofNat 147 + Int32.ofNat t) u').bind _).bind _) = _
    rw [st327_c k6R _ (by omega), bs, m_readTold (k6R.sI _ _ _), bs, d2, bs]
    show (((stA R7 0 327 (Int32.ofNat 155 + Int32.ofNat t) w1).bind _).bind _) = _
    rw [st327_c d4.1.2.1 _ (by omega), bs, bs]
    have q := j156 (x := 4) n2.1.2.1 (by decide) e21 hg
    have q2 := h2 (Int32.ofNat 4)
    rw [q2, cnt1_lt six.1.2.1 (by decide)] at q
    replace q : X12_readClause_J156 319 4 (sI R7 327 (155 + t) w1) = some (sI Rx 327 167 (Rx.1 327 167 + 1)) := q
    rw [q, t167, pl1]
  · refine Kz.fin six (by omega) hD pk ds hg h11 h5 (fun q => ?_) (by decide) (fun q => ?_) ⟨tt (R.1 327), hT.t.2, by rw [sI_own, ud_ne _ _ (by decide), c9D, dr.2.1.2.1]; exact hT.t.1⟩ m8
    · obtain ⟨q1, -, q2⟩ := ok q
      have q3 := (nf q1).1
      have := tE_ge (b := b) n3.1.2.2.2
      have := tE_ge (b := b) y4.1.2.2.2
      omega
    · obtain ⟨q1, q2, -⟩ := ok q
      obtain ⟨-, u1, u2, ⟨x, x1, x2⟩, y, x3, x4⟩ := nf q1
      rw [u1, u2]
      have T15 : ud (ud (ud (ud (R.1 327) (139 + t) v) (147 + t) u) (155 + t) w1) 167 (Int32.ofNat (t + 1)) (139 + t) = v := by rw [ud_ne _ _ (by omega), ud_ne _ _ (by omega), ud_ne _ _ (by omega), ud_at]
      have T25 : ud (ud (ud (ud (R.1 327) (139 + t) v) (147 + t) u) (155 + t) w1) 167 (Int32.ofNat (t + 1)) (147 + t) = u := by rw [ud_ne _ _ (by omega), ud_ne _ _ (by omega), ud_at]
      have T35 : ud (ud (ud (ud (R.1 327) (139 + t) v) (147 + t) u) (155 + t) w1) 167 (Int32.ofNat (t + 1)) (155 + t) = w1 := by rw [ud_ne _ _ (by omega), ud_at]
      refine dr.wall pk ht hw8 (fun k i1 i2 i3 i4 => ?_) (by rw [ud_at]) ⟨⟨x, y, x1, x3, fun q => q2 (by rw [x2, x4, q]), by rw [T15]; exact x2, by rw [T25]; exact x4⟩, by rw [T35]; exact d3⟩ six.2.1.1 (fun k i1 i2 i3 => ?_) (fun k i1 => ?_) (by rw [sI_own, ud_at]) ⟨?_, ?_, ?_⟩
      · rw [ud_ne _ _ i4, ud_ne _ _ i3, ud_ne _ _ i2, ud_ne _ _ i1]
      · rw [sI_ne _ _ _ (by omega)]; exact six.own (by omega) i3
      · rw [sI_own, ud_ne _ _ i1, c9D]
      · rw [T15, sI_ne _ _ _ (by omega), six.2.1.2.2.1, ud_ne _ _ (by decide), ud_ne _ _ (by decide), ud_at]
      · rw [T25, sI_ne _ _ _ (by omega), six.2.1.2.2.1, ud_ne _ _ (by decide), ud_at]
      · rw [T35, sI_ne _ _ _ (by omega), six.2.1.2.2.1, ud_at]
end
