/-! ===== DEVICE: the CLAUSE of a DEVICE ===== -/
section
variable {C R C' R' : Gm} {b : Nat → Int32} {n e D : Nat}
theorem k_device (pr : Pre C R b n D e) (hd6 : td (R.1 327) < 6) : ∃ C' R', sh_X6_readDevice 66 D C = some C' ∧ X12_readClause_J70 319 2 R = some R' ∧ Kz C R C' R' b n D e := by
  obtain ⟨j, ja, c0, w, pk, hD, ds, dr, hg, h11⟩ := pr
  obtain ⟨t, ht⟩ : ∃ t, td (R.1 327) = t := ⟨_, rfl⟩
  rw [ht] at hd6
  have hD' := hD
  unfold POk at hD'
  have hT := dr.1
  have td1 := hT.d.1
  rw [ht] at td1
  have tz5 := hT.z.2
  have cD7 : C.1 D 7 = Int32.ofNat t := dr.2.1.2.2.1.trans td1
  have cD5 : C.1 D 5 = Int32.ofNat (tz (R.1 327)) := dr.2.1.1.trans hT.z.1
  have m8 := dr.m
  obtain ⟨R1, s1, s2, s3⟩ := j_word j ja c0 w
  have si0 := (Si.start (a := D + 21 + t) j (by omega) (by omega)).f (Fk.rfl' _) s2
  obtain ⟨C2, e2, f1, f2, f3, f4, f5⟩ := si0.next s3
  obtain ⟨s, r, C3, R4, k1, k2, k3, k4, k5, k6⟩ := f2.make f3
  obtain ⟨R5, p1, p2, p3⟩ := k4.pass k5
  have si5 := (p2.c 0 s).r7 (55 + t) r
  have b5 : jB (sI C3 (D + 21 + t) 0 s) (sI R5 327 (55 + t) r) b n (tE b n e2) := (p2.jc 0 s p3).r (by decide) _ _
  obtain ⟨v, v', C4, R6, e4, a1, a2, a3, a4, a5, a6⟩ := si5.told b5 (lim := 5) (m := tz (R.1 327)) (k := 0) (by omega) (by omega) (by omega) (by omega) (by rw [ud_ne _ _ (by omega)]; exact hT.z.1)
  replace a1 : sh_X6_readTold 66 5 (Int32.ofNat (tz (R.1 327))) (sI C3 (D + 21 + t) 0 s) = some (v, C4) := a1
  replace a2 : sh_X12_oneNow 319 5 0 (sI R5 327 (55 + t) r) = some (v', R6) := a2
  obtain ⟨R7, q1, q2, q3⟩ := a4.pass a5
  have si7 := (q2.c 1 v).r7 (61 + t) v'
  have b7 : jB (sI C4 (D + 21 + t) 1 v) (sI R7 327 (61 + t) v') b n (tE b n e4) := (q2.jc 1 v q3).r (by decide) _ _
  obtain ⟨w1, C5, R8, d1, d2, d3, d4, d5, d6⟩ := si7.read b7 (lo := 1) (hi := 9) (by omega) (by omega)
  replace d1 : sh_X6_readNumber 66 1 9 (sI C4 (D + 21 + t) 1 v) = some (w1, C5) := d1
  replace d2 : sh_X12_readNumber 319 1 9 (sI R7 327 (61 + t) v') = some (w1, R8) := d2
  have si8 := (d4.c 2 w1).r7 (67 + t) w1
  have b8 : jB (sI C5 (D + 21 + t) 2 w1) (sI R8 327 (67 + t) w1) b n (tE b n e4) := (d4.jc 2 w1 d5).r (by decide) _ _
  obtain ⟨w2, C6, R9, l1, l2, l3, l4, l5, l6⟩ := si8.read b8 (lo := 1) (hi := 30) (by omega) (by omega)
  replace l1 : sh_X6_readNumber 66 1 30 (sI C5 (D + 21 + t) 2 w1) = some (w2, C6) := l1
  replace l2 : sh_X12_readNumber 319 1 30 (sI R8 327 (67 + t) w1) = some (w2, R9) := l2
  have si9 := (l4.c 3 w2).r7 (73 + t) w2
  have b9' : jB (sI C6 (D + 21 + t) 3 w2) (sI R9 327 (73 + t) w2) b n (tE b n e4) := (l4.jc 3 w2 l5).r (by decide) _ _
  obtain ⟨C7, e7, n1, n2, n3, n4, n5⟩ := si9.next b9'
  have e21 : (sI R9 327 (73 + t) w2).1 319 21 = R.1 319 21 := n2.2.2.1.2.2.2.1
  obtain ⟨C8, Rx, h1, h2, h3, h4, h5, h6⟩ := j_end (n2.r21 (R.1 319 21)).1 (n3.r21 (R.1 319 21)) hg n2.1.2.1
  have six := (n2.r21 (R.1 319 21)).f h3 h4
  have pkt : ∀ {X : Gm}, PlK X D → kd X (D + 21 + t) = (2, 0) := fun p => (p.2.2.2.2.2.1 t hd6).2
  have pk3 := k4.pk pk
  have pk4 := a4.pk pk
  have pk5 := d4.pk pk
  have pk6 := l4.pk pk
  have pk9 := six.pk pk
  have c9D : C8.1 D = C.1 D := six.own (by omega) (by omega)
  have c3D : (sI C3 (D + 21 + t) 0 s).1 D = C.1 D := si5.own (by omega) (by omega)
  have r9T := six.2.2.1.2.2.1
  have t165 : Rx.1 327 165 = Int32.ofNat t := by rw [r9T, ud_ne _ _ (by omega), ud_ne _ _ (by omega), ud_ne _ _ (by omega), ud_ne _ _ (by omega)]; exact td1
  -- without a FAULT
  have ok : C8.1 66 5 = 0 → e + 1 ≤ tE b n e7 ∧ r = s ∧ isN s 0 2 ∧ v' = v ∧ ∃ i, i < tz (R.1 327) ∧ v = Int32.ofNat i := fun q => by
    have u1 := (h6 q).1
    have u2 := n5 u1
    rw [n4, sI_ne _ _ _ (by omega)] at u1
    have u3 := l6 u1
    rw [sI_ne _ _ _ (by omega)] at u3
    have u4 := d6 u3
    rw [sI_ne _ _ _ (by omega)] at u4
    obtain ⟨u5, u6, u7⟩ := a6 u4
    rw [sI_ne _ _ _ (by omega)] at u5
    obtain ⟨u8, u9⟩ := k6 u5
    have u10 := f5 u8
    have := tE_ge (b := b) n3.1.2.2.2
    have := tE_ge (b := b) a5.1.2.2.2
    have := tE_ge (b := b) f3.1.2.2.2
    exact ⟨by omega, u9.1, u9.2, u7⟩
  refine ⟨sI C8 D 7 (Int32.ofNat (t + 1)), sI Rx 327 165 (Int32.ofNat (t + 1)), ?_, ?_, ?_⟩
  · unfold sh_X6_readDevice X6_readDevice_F
    rw [rd_O j.1.1, bs, pg_I pk, bs, cD7, if_pos (show Int32.ofNat t < 6 from (lt_n (b := 6) (by omega) (by omega)).mpr hd6), p_devices pk, bs, bs, p_device pk hd6, bs, f1, bs, k1, bs, p_I 0 s (pkt pk3), bs, pg_I (PlK.sI pk3 _ _ _), bs, c3D, cD5, a1, bs, p_I 1 v (pkt pk4), bs, d1, bs, p_I 2 w1 (pkt pk5), bs, l1, bs, p_I 3 w2 (pkt pk6), bs]
    unfold sh_X6_readEnd X6_readEnd_F
    rw [rd_O si9.1.1.1, bs, n1, bs, h1, bs, bs, pg_I pk9, bs, c9D, cD7, pl1, pg_P pk9, bs]
  · unfold X12_readClause_J70
    rw [m_I j.2.1, bs, if_pos (ja.2.2.1.trans c0), s1, bs, if_neg (by decide), if_neg (by decide), if_pos rfl]
    unfold sh_X12_readDevice X12_readDevice_F
    have k1R := si0.1.2.1
    have t0 : R1.1 327 165 = Int32.ofNat t := by rw [si0.2.2.1.2.2.1]; exact td1
    have word : sh_X12_readWord 319 323 R1 = some (r, R5) := by
      unfold sh_X12_readWord X12_readWord_F
      rw [m_O k1R, bs, k2, bs, k3]
      unfold X12_readWord_J16
      rw [p1, bs]
    have one : sh_X12_readOne 319 5 0 (sI R5 327 (55 + t) r) = some (v', R7) := by
      unfold sh_X12_readOne X12_readOne_F
      rw [m_O si5.1.2.1, bs, a2, bs, q1, bs]
    rw [m_O k1R, bs, m_readTold k1R, bs, ld327_165 k1R, bs, t0, bs, m_makes k1R, bs, word, bs]
    show (((stA R5 0 327 (Int32.ofNat 55 + Int32.ofNat t) r).bind _).bind _) = _
    rw [st327_c p2.1.2.1 _ (by omega), bs, m_readTold (p2.1.2.1.sI _ _ _), bs, one, bs]
    show (((stA R7 0 327 (Int32.ofNat 61 + Int32.ofNat t) v').bind _).bind _) = _
    rw [st327_c q2.1.2.1 _ (by omega), bs, m_readTold (q2.1.2.1.sI _ _ _), bs, d2, bs]
    show (((stA R8 0 327 (Int32.ofNat 67 + Int32.ofNat t) w1).bind _).bind _) = _
    rw [st327_c d4.1.2.1 _ (by omega), bs, m_readTold (d4.1.2.1.sI _ _ _), bs, l2, bs]
    show (((stA R9 0 327 (Int32.ofNat 73 + Int32.ofNat t) w2).bind _).bind _) = _
    rw [st327_c l4.1.2.1 _ (by omega), bs, bs]
    have q := j156 (x := 2) n2.1.2.1 (by decide) e21 hg
    have q2 := h2 (Int32.ofNat 2)
    rw [q2, cnt1_lt six.1.2.1 (by decide)] at q
    replace q : X12_readClause_J156 319 2 (sI R9 327 (73 + t) w2) = some (sI Rx 327 165 (Rx.1 327 165 + 1)) := q
    rw [q, t165, pl1]
  · refine Kz.fin six (by omega) hD pk ds hg h11 h5 (fun q => (ok q).1) (by decide) (fun q => ?_) ⟨tt (R.1 327), hT.t.2, by rw [sI_own, ud_ne _ _ (by decide), c9D, dr.2.1.2.1]; exact hT.t.1⟩ m8
    obtain ⟨-, u1, u2, u3, i, u4, u5⟩ := ok q
    rw [u1, u3]
    have T15 : ud (ud (ud (ud (ud (R.1 327) (55 + t) s) (61 + t) v) (67 + t) w1) (73 + t) w2) 165 (Int32.ofNat (t + 1)) (55 + t) = s := by rw [ud_ne _ _ (by omega), ud_ne _ _ (by omega), ud_ne _ _ (by omega), ud_ne _ _ (by omega), ud_at]
    have T25 : ud (ud (ud (ud (ud (R.1 327) (55 + t) s) (61 + t) v) (67 + t) w1) (73 + t) w2) 165 (Int32.ofNat (t + 1)) (61 + t) = v := by rw [ud_ne _ _ (by omega), ud_ne _ _ (by omega), ud_ne _ _ (by omega), ud_at]
    have T35 : ud (ud (ud (ud (ud (R.1 327) (55 + t) s) (61 + t) v) (67 + t) w1) (73 + t) w2) 165 (Int32.ofNat (t + 1)) (67 + t) = w1 := by rw [ud_ne _ _ (by omega), ud_ne _ _ (by omega), ud_at]
    have T45 : ud (ud (ud (ud (ud (R.1 327) (55 + t) s) (61 + t) v) (67 + t) w1) (73 + t) w2) 165 (Int32.ofNat (t + 1)) (73 + t) = w2 := by rw [ud_ne _ _ (by omega), ud_at]
    refine dr.device pk ht hd6 (fun k i1 i2 i3 i4 i5 => ?_) (by rw [ud_at]) ⟨by rw [T15]; exact u2, ⟨i, u4, by rw [T25]; exact u5⟩, by rw [T35]; exact d3, by rw [T45]; exact isN_w l3 (by omega) (by omega)⟩ six.2.1.1 (fun k i1 i2 i3 => ?_) (fun k i1 => ?_) (by rw [sI_own, ud_at]) ⟨?_, ?_, ?_, ?_⟩
    · rw [ud_ne _ _ i5, ud_ne _ _ i4, ud_ne _ _ i3, ud_ne _ _ i2, ud_ne _ _ i1]
    · rw [sI_ne _ _ _ (by omega)]; exact six.own (by omega) i3
    · rw [sI_own, ud_ne _ _ i1, c9D]
    · rw [T15, sI_ne _ _ _ (by omega), six.2.1.2.2.1, ud_ne _ _ (by decide), ud_ne _ _ (by decide), ud_ne _ _ (by decide), ud_at]
    · rw [T25, sI_ne _ _ _ (by omega), six.2.1.2.2.1, ud_ne _ _ (by decide), ud_ne _ _ (by decide), ud_at]
    · rw [T35, sI_ne _ _ _ (by omega), six.2.1.2.2.1, ud_ne _ _ (by decide), ud_at]
    · rw [T45, sI_ne _ _ _ (by omega), six.2.1.2.2.1, ud_at]
end
