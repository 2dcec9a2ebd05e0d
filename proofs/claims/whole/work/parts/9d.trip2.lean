/-! ===== TRIP 2: the CLAUSE of a TRIP ===== -/
section
variable {C R C' R' : Gm} {b : Nat → Int32} {n e D : Nat}
theorem k_trip (pr : Pre C R b n D e) (ht10 : tt (R.1 327) < 10) : ∃ C' R', sh_X6_readTrip 66 D C = some C' ∧ X12_readClause_J70 319 1 R = some R' ∧ Kz C R C' R' b n D e := by
  obtain ⟨j, ja, c0, w, pk, hD, ds, dr, hg, h11⟩ := pr
  obtain ⟨t, ht⟩ : ∃ t, tt (R.1 327) = t := ⟨_, rfl⟩
  rw [ht] at ht10
  have hD' := hD
  unfold POk at hD'
  have hT := dr.1
  have tt1 := hT.t.1
  rw [ht] at tt1
  have tz5 := hT.z.2
  have cD6 : C.1 D 6 = Int32.ofNat t := dr.2.1.2.1.trans tt1
  have cD5 : C.1 D 5 = Int32.ofNat (tz (R.1 327)) := dr.2.1.1.trans hT.z.1
  have m8 := dr.m
  obtain ⟨R1, s1, s2, s3⟩ := j_word j ja c0 w
  have si0 := (Si.start (a := D + 11 + t) j (by omega) (by omega)).f (Fk.rfl' _) s2
  obtain ⟨v, v', C1, R2, e1, a1, a2, a3, a4, a5, a6⟩ := si0.told s3 (lim := 5) (m := tz (R.1 327)) (k := 0) (by omega) (by omega) (by omega) (by omega) hT.z.1
  replace a1 : sh_X6_readTold 66 5 (Int32.ofNat (tz (R.1 327))) C = some (v, C1) := a1
  replace a2 : sh_X12_oneNow 319 5 0 R1 = some (v', R2) := a2
  obtain ⟨R3, p1, p2, p3⟩ := a4.pass a5
  have si1 := p2.c 0 v
  have b1 := p2.jc 0 v p3
  obtain ⟨C2, e2, f1, f2, f3, f4, f5⟩ := si1.next b1
  obtain ⟨s, r, C3, R4, k1, k2, k3, k4, k5, k6⟩ := f2.sort f3
  replace k2 : sh_X12_which 319 322 R3 = some r := k2
  have si3 := k4.c 1 s
  have a3' := k4.ja 1 s k5
  have pkt : ∀ {X : Gm}, PlK X D → kd X (D + 11 + t) = (8, 0) := fun p => (p.2.2.2.2.1 t ht10).2
  have pk1 := a4.pk pk
  have pk3 := k4.pk pk
  have pk3s := si3.pk pk
  have r4T : R4.1 327 = R.1 327 := k4.2.2.1.2.2.1
  have k4R := k4.1.2.1
  have c3s : (sI C3 (D + 11 + t) 1 s).1 66 = C3.1 66 := sI_ne _ _ _ (by omega)
  have row0 : (sI C3 (D + 11 + t) 1 s).1 (D + 11 + t) 0 = v := by rw [si3.2.1.2.2.1, ud_ne _ _ (by decide), ud_at]
  have row1 : (sI C3 (D + 11 + t) 1 s).1 (D + 11 + t) 1 = s := by rw [si3.2.1.2.2.1, ud_at]
  -- how faults come
  have nf : C3.1 66 5 = 0 → C1.1 66 5 = 0 ∧ e + 1 ≤ e2 ∧ r = s ∧ isN s 0 3 ∧ v' = v ∧ ∃ i, i < tz (R.1 327) ∧ v = Int32.ofNat i := fun q => by
    obtain ⟨q1, q2, q3⟩ := k6 q
    have q4 := f5 q1
    have q5 : C1.1 66 5 = 0 := by rw [f4, sI_ne _ _ _ (by omega)] at q1; exact q1
    have q6 := a6 q5
    have := tE_ge (b := b) a5.1.2.2.2
    exact ⟨q5, by omega, q2, q3, q6.2.2⟩
  -- the one CRITICAL
  have crit : ∃ C4 R5, (if s = 3 then (gfI (sI C3 (D + 11 + t) 1 s) (D + 11 + t) 8 0).bind fun v23 => (sh_X5_criticalOf D v23 (sI C3 (D + 11 + t) 1 s)).bind fun q25 => if q25 = -1 then X6_readTrip_J75 66 D (D + 11 + t) (sI C3 (D + 11 + t) 1 s) else (sh_X6_fail 66 4 (sI C3 (D + 11 + t) 1 s)).bind fun q27 => X6_readTrip_J75 66 D (D + 11 + t) q27 else X6_readTrip_J75 66 D (D + 11 + t) (sI C3 (D + 11 + t) 1 s)) = X6_readTrip_J75 66 D (D + 11 + t) C4 ∧
      X12_readTrip_J35 319 (Int32.ofNat t) v' r R4 = X12_readTrip_J53 319 (Int32.ofNat t) v' r R5 ∧ Si C R C4 R5 b n (D + 11 + t) (ud (ud (C.1 (D + 11 + t)) 0 v) 1 s) (R.1 326) (R.1 327) (R.1 319 21) ∧ jA C4 R5 b n e2 ∧ (C4.1 66 5 = 0 → C3.1 66 5 = 0 ∧ (s = 3 → ∀ u, u < t → ¬ (R.1 327 (15 + u) = v ∧ R.1 327 (25 + u) = 3))) := by
    obtain ⟨x, x1, x2⟩ := c_critOf (T := R.1 327) pk3s (by omega) (by rw [si3.own (by omega) (by omega), ht]; exact cD6) (fun u hu => by rw [ht] at hu; rw [si3.own (by omega) (by omega)]; have := dr.2.2.2.1 u (by omega); exact ⟨this.1, this.2.1⟩) v
    rw [ht] at x2
    have hc := m_hasCrit k4R (t := t) (by omega) (by rw [r4T]; exact tt1) v'
    rw [r4T] at hc
    rw [g_I 0 (pkt pk3s), bs, row0, x1, bs]
    have j35 : X12_readTrip_J35 319 (Int32.ofNat t) v' r R4 = if r = 3 then (if bI (∃ u, u < t ∧ R.1 327 (15 + u) = v' ∧ R.1 327 (25 + u) = 3) = 0 then X12_readTrip_J53 319 (Int32.ofNat t) v' r R4 else (sh_X12_wrong 319 4 R4).bind fun q3 => X12_readTrip_J53 319 (Int32.ofNat t) v' r q3) else X12_readTrip_J53 319 (Int32.ofNat t) v' r R4 := by
      unfold X12_readTrip_J35
      rw [hc, bs]
    rw [j35]
    by_cases c : C3.1 66 5 = 0
    · obtain ⟨-, -, q3, -, q5, -⟩ := nf c
      rw [q3, q5]
      by_cases s3' : s = 3
      · rw [if_pos s3', if_pos s3']
        rcases x2 with ⟨y1, y2⟩ | ⟨u, y1, y2, y3, y4, -⟩
        · refine ⟨_, _, by rw [if_pos y1], by rw [bI_f (fun ⟨u, u1, u2⟩ => y2 u u1 u2), if_pos rfl], si3, a3', fun _ => ⟨c, fun _ u hu => y2 u hu⟩⟩
        · obtain ⟨C4, R5, g1, g2, g3, g4, g5⟩ := si3.fail a3' (k := 4) (by decide)
          refine ⟨C4, R5, ?_, ?_, g3, g4, fun q => absurd q g5⟩
          · rw [if_neg (by rw [y2]; exact ne_m1' (by omega)), g1, bs]
          · rw [bI_t ⟨u, y1, y3, y4⟩, if_neg (by decide), g2, bs]
      · rw [if_neg s3', if_neg s3']
        exact ⟨_, _, rfl, rfl, si3, a3', fun _ => ⟨c, fun q => absurd q s3'⟩⟩
    · have fl : sh_X6_fail 66 4 (sI C3 (D + 11 + t) 1 s) = some (sI C3 (D + 11 + t) 1 s) := by rw [c_fail si3.1.1.1, if_neg (by rw [c3s]; exact c)]
      have wl : sh_X12_wrong 319 4 R4 = some R4 := by rw [m_wrong k4R, if_neg (by rw [k5.2.2.1]; exact c)]
      refine ⟨_, _, by rw [fl, bs, ite_self, ite_self], by rw [wl, bs, ite_self, ite_self], si3, a3', fun q => absurd (by rw [← c3s]; exact q) c⟩
  obtain ⟨C4, R5, y1, y2, y3, y4, y5⟩ := crit
  obtain ⟨R6, z1, z2, z3⟩ := y3.pass y4
  have si6 := (z2.r7 (15 + t) v').r7 (25 + t) r
  have b6 : jB C4 (sI (sI R6 327 (15 + t) v') 327 (25 + t) r) b n (tE b n e2) := (z3.r (by decide) _ _).r (by decide) _ _
  obtain ⟨w1, C5, R7, d1, d2, d3, d4, d5, d6⟩ := si6.read b6 (lo := 200) (hi := 999) (by omega) (by omega)
  replace d1 : sh_X6_readNumber 66 200 999 C4 = some (w1, C5) := d1
  replace d2 : sh_X12_readNumber 319 200 999 (sI (sI R6 327 (15 + t) v') 327 (25 + t) r) = some (w1, R7) := d2
  have si7 := (d4.c 2 w1).r7 (35 + t) w1
  have b7 : jB (sI C5 (D + 11 + t) 2 w1) (sI R7 327 (35 + t) w1) b n (tE b n e2) := (d4.jc 2 w1 d5).r (by decide) _ _
  obtain ⟨w2, C6, R8, l1, l2, l3, l4, l5, l6⟩ := si7.read b7 (lo := 0) (hi := 99) (by omega) (by omega)
  replace l1 : sh_X6_readNumber 66 0 99 (sI C5 (D + 11 + t) 2 w1) = some (w2, C6) := l1
  replace l2 : sh_X12_readNumber 319 0 99 (sI R7 327 (35 + t) w1) = some (w2, R8) := l2
  have si8 := (l4.c 3 w2).r7 (45 + t) w2
  have b8 : jB (sI C6 (D + 11 + t) 3 w2) (sI R8 327 (45 + t) w2) b n (tE b n e2) := (l4.jc 3 w2 l5).r (by decide) _ _
  obtain ⟨C7, e7, n1, n2, n3, n4, n5⟩ := si8.next b8
  have e21 : (sI R8 327 (45 + t) w2).1 319 21 = R.1 319 21 := n2.2.2.1.2.2.2.1
  obtain ⟨C8, R9, h1, h2, h3, h4, h5, h6⟩ := j_end (n2.r21 (R.1 319 21)).1 (n3.r21 (R.1 319 21)) hg n2.1.2.1
  have si9 := (n2.r21 (R.1 319 21)).f h3 h4
  have pk5 := d4.pk pk
  have pk6 := l4.pk pk
  have pk9 := si9.pk pk
  have c9D : C8.1 D = C.1 D := si9.own (by omega) (by omega)
  have r9T := si9.2.2.1.2.2.1
  have t164 : R9.1 327 164 = Int32.ofNat t := by rw [r9T, ud_ne _ _ (by omega), ud_ne _ _ (by omega), ud_ne _ _ (by omega), ud_ne _ _ (by omega)]; exact tt1
  -- without a FAULT
  have ok : C8.1 66 5 = 0 → C3.1 66 5 = 0 ∧ (s = 3 → ∀ u, u < t → ¬ (R.1 327 (15 + u) = v ∧ R.1 327 (25 + u) = 3)) ∧ tE b n e2 ≤ e7 := fun q => by
    have q1 := (h6 q).1
    have q2 := n5 q1
    rw [n4, sI_ne _ _ _ (by omega)] at q1
    have q3 := l6 q1
    rw [sI_ne _ _ _ (by omega)] at q3
    have q4 := y5 (d6 q3)
    exact ⟨q4.1, q4.2, q2⟩
  refine ⟨sI C8 D 6 (Int32.ofNat (t + 1)), sI R9 327 164 (Int32.ofNat (t + 1)), ?_, ?_, ?_⟩
  · unfold sh_X6_readTrip X6_readTrip_F
    rw [rd_O j.1.1, bs, pg_I pk, bs, cD6, if_pos (show Int32.ofNat t < 10 from (lt_n (b := 10) (by omega) (by omega)).mpr ht10), p_trips pk, bs, bs, p_trip pk ht10, bs, pg_I pk, bs, cD5, a1, bs, p_I 0 v (pkt pk1), bs, f1, bs, k1, bs, p_I 1 s (pkt pk3), bs, g_I 1 (pkt pk3s), bs, row1, y1]
    unfold X6_readTrip_J75
    rw [d1, bs, p_I 2 w1 (pkt pk5), bs, l1, bs, p_I 3 w2 (pkt pk6), bs]
    unfold sh_X6_readEnd X6_readEnd_F
    rw [rd_O si8.1.1.1, bs, n1, bs, h1, bs, bs, pg_I pk9, bs, c9D, cD6, pl1, pg_P pk9, bs]
  · unfold X12_readClause_J70
    rw [m_I j.2.1, bs, if_pos (ja.2.2.1.trans c0), s1, bs, if_neg (by decide), if_pos rfl]
    unfold sh_X12_readTrip X12_readTrip_F
    have k1R := si0.1.2.1
    have t0 : R1.1 327 164 = Int32.ofNat t := by rw [si0.2.2.1.2.2.1]; exact tt1
    have one : sh_X12_readOne 319 5 0 R1 = some (v', R3) := by
      unfold sh_X12_readOne X12_readOne_F
      rw [m_O k1R, bs, a2, bs, p1, bs]
    rw [m_O k1R, bs, m_readTold k1R, bs, ld327_164 k1R, bs, t0, one, bs, m_sorts p2.1.2.1, bs, k2, bs, k3 (fun q => X12_readTrip_J35 319 (Int32.ofNat t) v' r q), y2]
    unfold X12_readTrip_J53
    have k6R := z2.1.2.1
    rw [z1, bs, m_readTold k6R, bs]
    show (((stA R6 0 327 (Int32.ofNat 15 + Int32.ofNat t) v').bind _).bind _) = _
    rw [st327_c k6R _ (by omega), bs, m_readTold (k6R.sI _ _ _), bs]
    show (((stA _ 0 327 (Int32.ofNat 25 + Int32.ofNat t) r).bind _).bind _) = _
    rw [st327_c (k6R.sI _ _ _) _ (by omega), bs, m_readTold ((k6R.sI _ _ _).sI _ _ _), bs, d2, bs]
    show (((stA R7 0 327 (Int32.ofNat 35 + Int32.ofNat t) w1).bind _).bind _) = _
    rw [st327_c d4.1.2.1 _ (by omega), bs, m_readTold (d4.1.2.1.sI _ _ _), bs, l2, bs]
    show (((stA R8 0 327 (Int32.ofNat 45 + Int32.ofNat t) w2).bind _).bind _) = _
    rw [st327_c l4.1.2.1 _ (by omega), bs, bs]
    have q := j156 (x := 1) n2.1.2.1 (by decide) e21 hg
    have q2 := h2 (Int32.ofNat 1)
    rw [q2, cnt1_lt si9.1.2.1 (by decide)] at q
    replace q : X12_readClause_J156 319 1 (sI R8 327 (45 + t) w2) = some (sI R9 327 164 (R9.1 327 164 + 1)) := q
    rw [q, t164, pl1]
  · refine Kz.fin si9 (by omega) hD pk ds hg h11 h5 (fun q => ?_) (by decide) (fun q => ?_) ⟨t + 1, by omega, by rw [sI_own, ud_at]⟩ m8
    · obtain ⟨q1, -, q2⟩ := ok q
      have q3 := (nf q1).2.1
      have := tE_ge (b := b) n3.1.2.2.2
      have := tE_ge (b := b) y4.1.2.2.2
      omega
    · obtain ⟨q1, q2, -⟩ := ok q
      obtain ⟨-, -, u1, u2, u3, i, u4, u5⟩ := nf q1
      rw [u1, u3]
      have T15 : ud (ud (ud (ud (ud (R.1 327) (15 + t) v) (25 + t) s) (35 + t) w1) (45 + t) w2) 164 (Int32.ofNat (t + 1)) (15 + t) = v := by rw [ud_ne _ _ (by omega), ud_ne _ _ (by omega), ud_ne _ _ (by omega), ud_ne _ _ (by omega), ud_at]
      have T25 : ud (ud (ud (ud (ud (R.1 327) (15 + t) v) (25 + t) s) (35 + t) w1) (45 + t) w2) 164 (Int32.ofNat (t + 1)) (25 + t) = s := by rw [ud_ne _ _ (by omega), ud_ne _ _ (by omega), ud_ne _ _ (by omega), ud_at]
      have T35 : ud (ud (ud (ud (ud (R.1 327) (15 + t) v) (25 + t) s) (35 + t) w1) (45 + t) w2) 164 (Int32.ofNat (t + 1)) (35 + t) = w1 := by rw [ud_ne _ _ (by omega), ud_ne _ _ (by omega), ud_at]
      have T45 : ud (ud (ud (ud (ud (R.1 327) (15 + t) v) (25 + t) s) (35 + t) w1) (45 + t) w2) 164 (Int32.ofNat (t + 1)) (45 + t) = w2 := by rw [ud_ne _ _ (by omega), ud_at]
      refine dr.trip pk ht ht10 (fun k i1 i2 i3 i4 i5 => ?_) (by rw [ud_at]) ⟨⟨i, u4, by rw [T15]; exact u5⟩, by rw [T25]; exact u2, by rw [T35]; exact d3, by rw [T45]; exact l3⟩ (fun q' u hu => ?_) si9.2.1.1 (fun k i1 i2 i3 => ?_) (fun k i1 => ?_) (by rw [sI_own, ud_at]) ⟨?_, ?_, ?_, ?_⟩
      · rw [ud_ne _ _ i5, ud_ne _ _ i4, ud_ne _ _ i3, ud_ne _ _ i2, ud_ne _ _ i1]
      · rw [T25] at q'
        rw [T15]
        exact q2 q' u hu
      · rw [sI_ne _ _ _ (by omega)]; exact si9.own (by omega) i3
      · rw [sI_own, ud_ne _ _ i1, c9D]
      · rw [T15, sI_ne _ _ _ (by omega), si9.2.1.2.2.1, ud_ne _ _ (by decide), ud_ne _ _ (by decide), ud_ne _ _ (by decide), ud_at]
      · rw [T25, sI_ne _ _ _ (by omega), si9.2.1.2.2.1, ud_ne _ _ (by decide), ud_ne _ _ (by decide), ud_at]
      · rw [T35, sI_ne _ _ _ (by omega), si9.2.1.2.2.1, ud_ne _ _ (by decide), ud_at]
      · rw [T45, sI_ne _ _ _ (by omega), si9.2.1.2.2.1, ud_at]
end
