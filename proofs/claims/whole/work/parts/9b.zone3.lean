/-! ===== ZONE 3: the CLAUSE ===== -/
section
variable {C R C' R' : Gm} {b : Nat → Int32} {n e D : Nat}
/-- what holds ahead of a CLAUSE -/
def Pre (C R : Gm) (b : Nat → Int32) (n D e : Nat) : Prop := Jc C R b n ∧ jA C R b n e ∧ C.1 66 5 = 0 ∧ tK b n e ≠ 0 ∧ PlK C D ∧ POk D ∧ DsK C.2.1 ∧ DrV C D (R.1 326) (R.1 327) ∧ (R.1 319 21 = 0 ∨ R.1 319 21 = 1) ∧ R.1 319 21 = C.1 D 11
theorem BdV.m {T : Nat → Int32} {L : List (Nat × Nat)} (h : BdV C D T L) : ∃ m, m ≤ 60 ∧ C.1 D 8 = Int32.ofNat m := ⟨L.length, h.1.2.2, h.1.1⟩
theorem DrV.m {N T : Nat → Int32} (h : DrV C D N T) : ∃ m, m ≤ 60 ∧ C.1 D 8 = Int32.ofNat m := by
  obtain ⟨L, l⟩ := h.2.2.2.2.2.1
  exact l.m
/-- the end of a CLAUSE's word 0 .. 4 -/
theorem j156 (h : Ky R) {x : Nat} (hx : x < 5) {g : Int32} (eg : R.1 319 21 = g) (hg : g = 0 ∨ g = 1) : X12_readClause_J156 319 (Int32.ofNat x) R = X12_readClause_J174 319 (Int32.ofNat x) 319 g R := by
  unfold X12_readClause_J156 X12_readClause_J169
  rw [m_I h, bs, eg]
  rcases hg with q | q
  · rw [q, if_pos rfl, if_neg (fun q => by have := (eq_n (a := x) (b := 5) (by omega) (by omega)).mp q; omega)]
  · rw [q, if_neg (by decide)]
theorem k_zone (pr : Pre C R b n D e) (hz5 : tz (R.1 327) < 5) : ∃ C' R', sh_X6_readZone 66 D C = some C' ∧ X12_readClause_J70 319 0 R = some R' ∧ Kz C R C' R' b n D e := by
  obtain ⟨j, ja, c0, w, pk, hD, ds, dr, hg, h11⟩ := pr
  obtain ⟨z, hz⟩ : ∃ z, tz (R.1 327) = z := ⟨_, rfl⟩
  rw [hz] at hz5
  have hD' := hD
  unfold POk at hD'
  have hT := dr.1
  have tz1 := hT.z.1
  rw [hz] at tz1
  have cD5 : C.1 D 5 = Int32.ofNat z := dr.2.1.1.trans tz1
  have m8 := dr.m
  obtain ⟨R1, s1, s2, s3⟩ := j_word j ja c0 w
  have si0 := (Si.start (a := D + 6 + z) j (by omega) (by omega)).f (Fk.rfl' _) s2
  obtain ⟨v0, C1, R2, a1, a2, a3, a4, a5, a6⟩ := si0.read s3 (lo := 0) (hi := 99) (by omega) (by omega)
  replace a1 : sh_X6_readNumber 66 0 99 C = some (v0, C1) := a1
  replace a2 : sh_X12_readNumber 319 0 99 R1 = some (v0, R2) := a2
  have si1 := (a4.c 0 v0).r6 (5 + z) v0
  have b1 : jB (sI C1 (D + 6 + z) 0 v0) (sI R2 326 (5 + z) v0) b n (e + 1) := (a4.jc 0 v0 a5).r (by decide) _ _
  obtain ⟨v1, C2, R3, d1, d2, d3, d4, d5, d6⟩ := si1.read b1 (lo := 1) (hi := 50) (by omega) (by omega)
  replace d1 : sh_X6_readNumber 66 1 50 (sI C1 (D + 6 + z) 0 v0) = some (v1, C2) := d1
  replace d2 : sh_X12_readNumber 319 1 50 (sI R2 326 (5 + z) v0) = some (v1, R3) := d2
  have si2 := (d4.c 1 v1).r7 (0 + z) v1
  have b2 : jB (sI C2 (D + 6 + z) 1 v1) (sI R3 327 (0 + z) v1) b n (e + 1) := (d4.jc 1 v1 d5).r (by decide) _ _
  obtain ⟨C3, e3, f1, f2, f3, f4, f5⟩ := si2.next b2
  obtain ⟨k, r, k1, k2, k3, k4, k5⟩ := j_filter f2.1 f3
  obtain ⟨dd, C4, R4, e4, T4, g1, g2, g3, g4, g5, g6⟩ := f2.depth (D := D) f3 hz5 k2 k4 k5
  have si4 := (g3.c 3 dd).r21 (R.1 319 21)
  have a4' := (g3.ja 3 dd g4).r21 (R.1 319 21)
  have e21 : R4.1 319 21 = R.1 319 21 := g3.2.2.1.2.2.2.1
  obtain ⟨C6, R5, h1, h2, h3, h4, h5, h6⟩ := j_end si4.1 a4' hg g3.1.2.1
  have si6 := si4.f h3 h4
  have pkz : ∀ {X : Gm}, PlK X D → kd X (D + 6 + z) = (10, 0) := fun p => (p.2.2.2.1 z hz5).2
  have pk1 := a4.pk pk
  have pk2 := d4.pk pk
  have pk3 := f2.pk pk
  have pk4 := g3.pk pk
  have pk6 := si6.pk pk
  have c6D : C6.1 D = C.1 D := si6.own (by omega) (by omega)
  have t163 : T4 163 = Int32.ofNat z := by rw [g5 163 (by omega) (by omega), ud_ne _ _ (by omega)]; exact tz1
  have r5T : R5.1 327 = T4 := si6.2.2.1.2.2.1
  refine ⟨sI C6 D 5 (Int32.ofNat (z + 1)), sI R5 327 163 (Int32.ofNat (z + 1)), ?_, ?_, ?_⟩
  · unfold sh_X6_readZone X6_readZone_F
    rw [rd_O j.1.1, bs, pg_I pk, bs, cD5, if_pos (show Int32.ofNat z < 5 from (lt_n (b := 5) (by omega) (by omega)).mpr hz5), p_zones pk, bs, bs, p_zone pk hz5, bs, a1, bs, p_I 0 v0 (pkz pk1), bs, d1, bs, p_I 1 v1 (pkz pk2), bs, f1, bs, k1, bs, p_I 2 (Int32.ofNat k) (pkz pk3), bs, g_I 2 (pkz (PlK.sI pk3 _ _ _)), bs, sI_own, ud_at, g1]
    unfold X6_readZone_J74
    rw [p_I 3 dd (pkz pk4), bs, h1, bs, pg_I pk6, bs, c6D, cD5, pl1, pg_P pk6, bs]
  · unfold X12_readClause_J70
    rw [m_I j.2.1, bs, if_pos (ja.2.2.1.trans c0), s1, bs, if_pos rfl]
    unfold sh_X12_readZone X12_readZone_F
    have k1R := si0.1.2.1
    have k2R := a4.1.2.1
    have k3R := d4.1.2.1
    have t0 : R1.1 327 163 = Int32.ofNat z := by rw [si0.2.2.1.2.2.1]; exact tz1
    rw [m_O k1R, bs, m_readTold k1R, bs, ld327_163 k1R, bs, t0, m_reading k1R, bs, a2, bs]
    show (((stA R2 0 326 (Int32.ofNat 5 + Int32.ofNat z) v0).bind _).bind _) = _
    rw [st326_c k2R _ (by omega), bs, m_readTold (k2R.sI _ _ _), bs, d2, bs]
    show (((stA R3 0 327 (Int32.ofNat 0 + Int32.ofNat z) v1).bind _).bind _) = _
    rw [st327_c k3R _ (by omega), bs, m_filters (k3R.sI _ _ _), bs, k3, bs, m_readTold (k3R.sI _ _ _), bs, g2, bs]
    have q := j156 (x := 0) g3.1.2.1 (by decide) e21 hg
    have q2 := h2 (Int32.ofNat 0)
    rw [q2, cnt1_lt si6.1.2.1 (by decide)] at q
    replace q : X12_readClause_J156 319 0 R4 = some (sI R5 327 163 (R5.1 327 163 + 1)) := q
    rw [q, r5T, t163, pl1]
  · refine Kz.fin si6 (by omega) hD pk ds hg h11 h5 (fun q => ?_) (by decide) (fun q => ?_) ?_ m8
    · have q1 := (h6 q).1
      rw [sI_ne _ _ _ (by omega)] at q1
      have q2 := g6 q1
      have q3 := f5 q2.1
      have := tE_ge (b := b) g4.1.2.2.2
      omega
    · have q1 := (h6 q).1
      rw [sI_ne _ _ _ (by omega)] at q1
      obtain ⟨-, -, q3, q4, q5, q6⟩ := g6 q1
      have Tz : ud T4 163 (Int32.ofNat (z + 1)) z = v1 := by
        rw [ud_ne _ _ (by omega), g5 z (by omega) (by omega), show (0 + z) = z by omega, ud_at]
      refine dr.zone pk hz hz5 (fun i i1 i2 i3 i4 => ?_) (by rw [ud_at]) ⟨?_, ?_, ?_, ?_⟩ (fun i i1 => by rw [ud_ne _ _ i1]) ?_ si6.2.1.1 (fun i i1 i2 i3 => ?_) (fun i i1 => ?_) (by rw [sI_own, ud_at]) ⟨?_, ?_, ?_, ?_⟩
      · rw [ud_ne _ _ i4, g5 i i2 i3, ud_ne _ _ (by omega)]
      · rw [Tz]; exact d3
      · rw [ud_ne _ _ (by omega), q3]; exact ⟨k, rfl, by omega, by omega⟩
      · rw [ud_ne _ _ (by omega), q4]; exact q5
      · rw [ud_ne _ _ (by omega), ud_ne _ _ (by omega), q3, q4]
        intro u
        exact q6 ((eq_n (b := 0) (by omega) (by omega)).mp u)
      · rw [ud_at]; exact a3
      · rw [sI_ne _ _ _ (by omega)]; exact si6.own (by omega) i3
      · rw [sI_own, ud_ne _ _ (by omega), c6D]
      · rw [sI_ne _ _ _ (by omega), si6.2.1.2.2.1, ud_ne _ _ (by decide), ud_ne _ _ (by decide), ud_ne _ _ (by decide), ud_at, ud_at]
      · rw [sI_ne _ _ _ (by omega), si6.2.1.2.2.1, ud_ne _ _ (by decide), ud_ne _ _ (by decide), ud_at, Tz]
      · rw [sI_ne _ _ _ (by omega), si6.2.1.2.2.1, ud_ne _ _ (by decide), ud_at, ud_ne _ _ (by omega), q3]
      · rw [sI_ne _ _ _ (by omega), si6.2.1.2.2.1, ud_at, ud_ne _ _ (by omega), q4]
    · exact ⟨tt (R.1 327), hT.t.2, by rw [sI_own, ud_ne _ _ (by decide), c6D, dr.2.1.2.1]; exact hT.t.1⟩
end
