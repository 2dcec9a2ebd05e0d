/-! ===== FORESEEN: the CLAUSE ===== -/
section
variable {C R C1 R1 C' R' : Gm} {b : Nat → Int32} {n e D : Nat}
/-- with a FAULT the class's reader stands still -/
theorem still_next (j : Jc C R b n) (c : C.1 66 5 ≠ 0) : sh_X6_nextToken 66 C = some C := by
  unfold sh_X6_nextToken X6_nextToken_F
  rw [rd_O j.1.1, bs, rd_I j.1.1, bs, if_neg c]
theorem still_read (j : Jc C R b n) (h : jA C R b n e) (c : C.1 66 5 ≠ 0) {lo hi : Nat} (hl : lo ≤ hi) (hh : hi ≤ 999) : ∃ v, sh_X6_readNumber 66 (Int32.ofNat lo) (Int32.ofNat hi) C = some (v, C) ∧ isN v lo hi := by
  obtain ⟨v, C5, R6, u1, u2, u3, u4, u5, u6, u7, u8⟩ := j_num j h hl hh
  have e5 := u8 c
  subst e5
  refine ⟨v, ?_, u3⟩
  unfold sh_X6_readNumber X6_readNumber_F
  rw [rd_O j.1.1, bs, still_next j c, bs, u1, bs]
theorem still_end (j : Jc C R b n) (c : C.1 66 5 ≠ 0) : sh_X6_readEnd 66 C = some C := by
  unfold sh_X6_readEnd X6_readEnd_F sh_X6_needSemicolon X6_needSemicolon_F X6_needSemicolon_J13
  rw [rd_O j.1.1, bs, still_next j c, bs, rd_O j.1.1, bs, rd_I j.1.1, bs, c_fail j.1.1, if_neg c, bs, ite_self, bs]
theorem k_seen (pr : Pre C R b n D e) : ∃ C' R', sh_X6_readForeseen 66 D C = some C' ∧ X12_readClause_J53 319 5 R = some R' ∧ Kz C R C' R' b n D e := by
  obtain ⟨j, ja, c0, w, pk, hD, ds, dr, hg, h11⟩ := pr
  have hD' := hD
  unfold POk at hD'
  have hT := dr.1
  obtain ⟨m, hm, em⟩ := dr.m
  have cD6 : C.1 D 6 = Int32.ofNat (tt (R.1 327)) := dr.2.1.2.1.trans hT.t.1
  have kC := j.1.1
  have kR := j.2.1
  have st := Si.start (a := D) j (by omega) (by omega)
  have pD : ∀ {X : Gm}, PlK X D → kd X D = (5, 0) := fun p => p.1
  -- from here on, for whatever has gone before
  have zz : ∀ (X : Gm) (x : Int32), PlK X D → pfZ X D 5 11 1 = some (sI X D 11 1) := fun X _ p => p_Z 11 1 p.1 (Or.inr rfl)
  by_cases c21 : R.1 319 21 = 0
  · have c11 : C.1 D 11 = 0 := by rw [← h11]; exact c21
    obtain ⟨R1, s1, s2, s3⟩ := j_word j ja c0 w
    have si0 := (st.f (Fk.rfl' _) s2).c 11 1
    have b0 := (st.f (Fk.rfl' _) s2).jc 11 1 s3
    obtain ⟨v, C2, R2, a1, a2, a3, a4, a5, a6⟩ := si0.read b0 (lo := 0) (hi := 9) (by omega) (by omega)
    replace a1 : sh_X6_readNumber 66 0 9 (sI C D 11 1) = some (v, C2) := a1
    replace a2 : sh_X12_readNumber 319 0 9 R1 = some (v, R2) := a2
    have si2 := (a4.c 10 v).r6 143 v
    have b2 : jB (sI C2 D 10 v) (sI R2 326 143 v) b n (e + 1) := (a4.jc 10 v a5).r (by decide) _ _
    obtain ⟨C7, e7, n1, n2, n3, n4, n5⟩ := si2.next b2
    obtain ⟨C8, Rx, h1, h2, h3, h4, h5, h6⟩ := j_end (n2.r21 1).1 (n3.r21 1) (Or.inr rfl) n2.1.2.1
    have six := (n2.r21 1).f h3 h4
    have rowD := six.2.1.2.2.1
    refine ⟨C8, Rx, ?_, ?_, ?_⟩
    · unfold sh_X6_readForeseen X6_readForeseen_F
      rw [rd_O kC, bs, pg_I pk, bs, c11, if_pos rfl]
      unfold X6_readForeseen_J12
      rw [zz C 0 pk, bs, a1, bs, pg_P (a4.pk pk), bs]
      unfold sh_X6_readEnd X6_readEnd_F
      rw [rd_O si2.1.1.1, bs, n1, bs, h1, bs, bs]
    · unfold X12_readClause_J53
      rw [if_pos rfl, m_I kR, bs, if_pos c21]
      unfold X12_readClause_J70
      rw [m_I kR, bs, if_pos (ja.2.2.1.trans c0), s1, bs, if_neg (by decide), if_neg (by decide), if_neg (by decide), if_neg (by decide), if_neg (by decide), m_reading si0.1.2.1, bs, a2, bs]
      show ((stA R2 0 326 (Int32.ofNat 143) v).bind _) = _
      rw [st326 a4.1.2.1 v (by omega), bs]
      unfold X12_readClause_J156 X12_readClause_J169
      have q := h2 5
      rw [m_I n2.1.2.1, bs, if_pos rfl, q, ite_self]
      unfold cnt1
      rw [if_pos (by decide)]
    · refine ⟨⟨by rw [six.2.1.1], fun i k _ => by rw [six.2.1.1], fun i i1 i2 => six.own i1 (by omega), six.2.1.2.1⟩, ⟨six.2.2.1.1, six.2.2.1.2.2.2.2.1, six.2.2.1.2.2.2.2.2⟩, ⟨six.pk pk, by rw [six.2.1.1]; exact ds⟩, ?_, fun q => ⟨?_, ?_⟩, Or.inr six.2.2.1.2.2.2.1, tt (R.1 327), m, hT.t.2, hm, ?_, ?_⟩
      · by_cases c : C8.1 66 5 = 0
        · refine h5.le ?_
          have := n5 (h6 c).1
          have := tE_ge (b := b) n3.1.2.2.2
          omega
        · rcases h5 with ⟨q, -⟩ | q
          · exact absurd q c
          · exact Or.inr q
      · rw [six.2.2.1.2.1, six.2.2.1.2.2.1]
        refine dr.seen pk (fun k hk => by rw [ud_ne _ _ hk]) (by rw [ud_at]; exact a3) six.2.1.1 (fun i i1 i2 => six.own (by omega) (by omega)) (fun k hk => ?_) ?_
        · rw [rowD, ud_ne _ _ (by omega), ud_ne _ _ (by omega)]
        · rw [rowD, ud_at, ud_at]
      · rw [six.2.2.1.2.2.2.1, rowD, ud_ne _ _ (by decide), ud_at]
      · rw [rowD, ud_ne _ _ (by decide), ud_ne _ _ (by decide)]; exact cD6
      · rw [rowD, ud_ne _ _ (by decide), ud_ne _ _ (by decide)]; exact em
  · have c11 : ¬ C.1 D 11 = 0 := by rw [← h11]; exact c21
    obtain ⟨Cf, Rf', g1, g2, g3, g4, g5⟩ := st.fail ja (k := 4) (by decide)
    have kRf := g3.1.2.1
    have si0 := g3.c 11 1
    have a0 := g3.ja 11 1 g4
    have cf : (sI Cf D 11 1).1 66 = Cf.1 66 := sI_ne _ _ _ (by omega)
    have cf5 : (sI Cf D 11 1).1 66 5 ≠ 0 := by rw [cf]; exact g5
    obtain ⟨v, a1, a3⟩ := still_read si0.1 a0 cf5 (lo := 0) (hi := 9) (by omega) (by omega)
    replace a1 : sh_X6_readNumber 66 0 9 (sI Cf D 11 1) = some (v, sI Cf D 11 1) := a1
    have si2 := si0.c 10 v
    have a2 := si0.ja 10 v a0
    have c2 : (sI (sI Cf D 11 1) D 10 v).1 66 5 ≠ 0 := by rw [sI_ne _ _ _ (by omega)]; exact cf5
    have rowD := si2.2.1.2.2.1
    refine ⟨sI (sI Cf D 11 1) D 10 v, Rf', ?_, ?_, ?_⟩
    · unfold sh_X6_readForeseen X6_readForeseen_F
      rw [rd_O kC, bs, pg_I pk, bs, if_neg c11, g1, bs]
      unfold X6_readForeseen_J12
      rw [zz Cf 0 (g3.pk pk), bs, a1, bs, pg_P (si0.pk pk), bs, still_end si2.1 c2, bs]
    · unfold X12_readClause_J53
      rw [if_pos rfl, m_I kR, bs, if_neg c21, g2, bs]
      unfold X12_readClause_J70
      rw [m_I kRf, bs, if_neg (by rw [g4.2.2.1]; exact g5)]
    · refine ⟨⟨by rw [si2.2.1.1], fun i k _ => by rw [si2.2.1.1], fun i i1 i2 => si2.own i1 (by omega), si2.2.1.2.1⟩, ⟨si2.2.2.1.1, si2.2.2.1.2.2.2.2.1, si2.2.2.1.2.2.2.2.2⟩, ⟨si2.pk pk, by rw [si2.2.1.1]; exact ds⟩, Or.inr ⟨c2, e, a2⟩, fun q => absurd q c2, ?_, tt (R.1 327), m, hT.t.2, hm, ?_, ?_⟩
      · rw [si2.2.2.1.2.2.2.1]; exact hg
      · rw [rowD, ud_ne _ _ (by decide), ud_ne _ _ (by decide)]; exact cD6
      · rw [rowD, ud_ne _ _ (by decide), ud_ne _ _ (by decide)]; exact em
end
