/-! ===== ZONE 2 ===== -/
section
variable {C0 R0 C R C1 R1 C' R' : Gm} {b : Nat → Int32} {n e a D : Nat} {Z N T : Nat → Int32} {g : Int32}
/-- the end of a CLAUSE that fills a row -/
theorem Kz.fin {e1 f k : Nat} {x y : Int32} (si : Si C R C1 R1 b n a Z N T g) (ha : D < a ∧ a ≤ D + 94) (hD : POk D) (pk : PlK C D) (ds : DsK C.2.1) (hg : g = 0 ∨ g = 1) (h11 : g = C.1 D 11) (jb : jB C1 R1 b n e1) (he : C1.1 66 5 = 0 → e + 1 ≤ e1) (hf : f ≠ 8 ∧ f ≠ 11) (dr : C1.1 66 5 = 0 → DrV (sI C1 D f x) D N (ud T k y)) (sf : ∃ t, t ≤ 10 ∧ (sI C1 D f x).1 D 6 = Int32.ofNat t) (s8 : ∃ m, m ≤ 60 ∧ C.1 D 8 = Int32.ofNat m) : Kz C R (sI C1 D f x) (sI R1 327 k y) b n D e := by
  unfold POk at hD
  obtain ⟨cw, rw'⟩ := si.2
  obtain ⟨t, ht, et⟩ := sf
  obtain ⟨m, hm, em⟩ := s8
  have c66 : (sI C1 D f x).1 66 = C1.1 66 := sI_ne _ _ _ (by omega)
  have r319 : (sI R1 327 k y).1 319 = R1.1 319 := sI_ne _ _ _ (by decide)
  have cD : ∀ i, i ≠ f → (sI C1 D f x).1 D i = C.1 D i := fun i hi => by rw [sI_own, ud_ne _ _ hi, cw.2.2.2 D (by omega) (by omega)]
  refine ⟨⟨by show C1.2.2 = _; rw [cw.1], fun i k' _ => by show C1.2.1 i k' = _; rw [cw.1], fun i h1 h2 => ?_, ?_⟩, ⟨rw'.1.1, fun i hi => ?_, fun k' hk => ?_⟩, ⟨pk.eq cw.1, ?_⟩, ?_, fun q => ⟨?_, ?_⟩, ?_, t, m, ht, hm, et, ?_⟩
  · rw [sI_ne _ _ _ (by omega)]; exact cw.2.2.2 i h1 (by omega)
  · rw [c66]; exact cw.2.1
  · rw [sI_ne _ _ _ (fun q => hi (by rw [q]; decide))]; exact rw'.1.2.2.2.2.1 i hi
  · rw [r319]; exact rw'.1.2.2.2.2.2 k' hk
  · show DsK C1.2.1; rw [cw.1]; exact ds
  · have j2 : jB (sI C1 D f x) (sI R1 327 k y) b n e1 := jb.w c66 (fun i _ => by rw [r319])
    by_cases c : C1.1 66 5 = 0
    · exact j2.le (he c)
    · rcases j2 with ⟨q, -⟩ | q
      · rw [c66] at q; exact absurd q c
      · exact Or.inr q
  · rw [c66] at q
    rw [sI_own, sI_ne _ _ _ (by decide), rw'.1.2.1, rw'.1.2.2.1]
    exact dr q
  · rw [r319, rw'.1.2.2.2.1, cD 11 (fun q => hf.2 q.symm)]; exact h11
  · rw [r319, rw'.1.2.2.2.1]; exact hg
  · rw [cD 8 (fun q => hf.1 q.symm)]; exact em
theorem j64 (h : Ky R) {z : Nat} (hz : z < 5) (r s : Int32) : X12_readZone_J64 319 (Int32.ofNat z) r 327 (5 + Int32.ofNat z) s R = if 0 < r then (sh_X12_pass 319 (sI (sI R 327 (5 + z) s) 327 (10 + z) 1)).bind fun q7 => (gfR q7 319 12 8).bind fun v9 => (gfI q7 319 12 18).bind fun v11 => if v11 = 0 then (gfI q7 319 12 14).bind fun v13 => if v13 = 2 then (sh_X12_readNumber 319 1 4 q7).bind fun q15 => X12_readZone_J117 v9 (10 + Int32.ofNat z) q15.1 q15.2 else X12_readZone_J116 v9 (10 + Int32.ofNat z) q7 else X12_readZone_J116 v9 (10 + Int32.ofNat z) q7 else some (sI (sI R 327 (5 + z) s) 327 (10 + z) 1) := by
  unfold X12_readZone_J64
  show (stA R 0 327 (Int32.ofNat 5 + Int32.ofNat z) s).bind _ = _
  rw [st327_c h _ (by omega), bs, m_readTold (h.sI _ _ _), bs]
  show (stA (sI R 327 (5 + z) s) 0 327 (Int32.ofNat 10 + Int32.ofNat z) 1).bind _ = _
  rw [st327_c (h.sI _ _ _) _ (by omega), bs]
theorem j117 (h : Ky R) {z : Nat} (hz : z < 5) (x : Int32) : X12_readZone_J117 327 (10 + Int32.ofNat z) x R = some (sI R 327 (10 + z) x) := by
  unfold X12_readZone_J117
  show (stA R 0 327 (Int32.ofNat 10 + Int32.ofNat z) x).bind _ = _
  rw [st327_c h _ (by omega), bs]
/-- the filter and its depth -/
theorem Si.depth {z k : Nat} {r : Int32} (si : Si C0 R0 C R b n a Z N T g) (ja : jA C R b n e) (hz : z < 5) (k3 : k ≤ 3) (k4 : C.1 66 5 ≠ 0 → r = -1) (k5 : C.1 66 5 = 0 → (k = 0 ∧ ¬ (0 < r)) ∨ (k ≠ 0 ∧ 0 < r ∧ r = Int32.ofNat k)) :
    ∃ dd C4 R4 e4 T4, (if Int32.ofNat k = 0 then X6_readZone_J74 66 D a 1 (sI C a 2 (Int32.ofNat k)) else (sh_X6_readDepth 66 (sI C a 2 (Int32.ofNat k))).bind fun q25 => X6_readZone_J74 66 D a q25.1 q25.2) = X6_readZone_J74 66 D a dd C4 ∧
      (if 0 < r then X12_readZone_J64 319 (Int32.ofNat z) r 327 (5 + Int32.ofNat z) r R else X12_readZone_J64 319 (Int32.ofNat z) r 327 (5 + Int32.ofNat z) 0 R) = some R4 ∧ Si C0 R0 C4 R4 b n a (ud Z 2 (Int32.ofNat k)) N T4 g ∧ jA C4 R4 b n e4 ∧ (∀ i, i ≠ 5 + z → i ≠ 10 + z → T4 i = T i) ∧
      (C4.1 66 5 = 0 → C.1 66 5 = 0 ∧ e ≤ e4 ∧ T4 (5 + z) = Int32.ofNat k ∧ T4 (10 + z) = dd ∧ isN dd 1 4 ∧ (k = 0 → dd = 1)) := by
  have kR := si.1.2.1
  have s1 := si.c 2 (Int32.ofNat k)
  have a1 := si.ja 2 (Int32.ofNat k) ja
  have c6 : (sI C a 2 (Int32.ofNat k)).1 66 = C.1 66 := sI_ne _ _ _ (fun q => si.2.2.2.1 q.symm)
  have k0 : (Int32.ofNat k = 0) ↔ k = 0 := eq_n (b := 0) (by omega) (by omega)
  have two : ∀ v w : Int32, ∀ i, i ≠ 5 + z → i ≠ 10 + z → ud (ud T (5 + z) v) (10 + z) w i = T i := fun v w i h1 h2 => by rw [ud_ne _ _ h2, ud_ne _ _ h1]
  by_cases c : C.1 66 5 = 0
  · rcases k5 c with ⟨h1, h2⟩ | ⟨h1, h2, h3⟩
    · refine ⟨1, _, _, e, _, by rw [if_pos (k0.mpr h1)], by rw [if_neg h2, j64 kR hz, if_neg h2], (s1.r7 (5 + z) 0).r7 (10 + z) 1, (a1.r (by decide) _ _).r (by decide) _ _, two 0 1, fun _ => ⟨c, Nat.le_refl _, ?_, by rw [ud_at], ⟨1, rfl, by omega, by omega⟩, fun _ => rfl⟩⟩
      rw [ud_ne _ _ (by omega), ud_at, h1]; rfl
    · have s2 := (s1.r7 (5 + z) r).r7 (10 + z) 1
      have a2 : jA (sI C a 2 (Int32.ofNat k)) (sI (sI R 327 (5 + z) r) 327 (10 + z) 1) b n e := (a1.r (by decide) _ _).r (by decide) _ _
      obtain ⟨R5, p1, p2, p3⟩ := s2.pass a2
      obtain ⟨C4, e4, q1, q2, q3, q4, q5⟩ := p2.next p3
      have c4 : C4.1 66 5 = 0 := by rw [q4, c6]; exact c
      have k5R := q2.1.2.1
      have tg := tE_ge (b := b) ja.1.2.2.2
      have r18 : R5.1 319 18 = 0 := q3.2.2.1.trans c4
      have k44 : tK b n e4 ≤ 4 := ck_4 b n (tB b n e4)
      by_cases t2 : tK b n e4 = 2
      · obtain ⟨v, C5, R6, u1, u2, u3, u4, u5, u6, u7, u8⟩ := j_num q2.1 q3 (lo := 1) (hi := 4) (by omega) (by omega)
        have s5 := q2.f u4 u5
        obtain ⟨R7, w1, w2, w3⟩ := s5.pass u6
        obtain ⟨C6, e6, x1, x2, x3, x4, x5⟩ := w2.next w3
        have tg4 := tE_ge (b := b) q3.1.2.2.2
        replace u1 : sh_X6_needNumber 66 1 4 C4 = some (v, C5) := u1
        replace u2 : sh_X12_numberNow 319 1 4 R5 = some (v, R6) := u2
        refine ⟨v, C6, _, e6, _, ?_, ?_, x2.r7 (10 + z) v, x3.r (by decide) _ _, fun i i1 i2 => by rw [ud_ne _ _ i2]; exact two r 1 i i1 i2, fun q => ⟨c, ?_, ?_, by rw [ud_at], u3, fun q => absurd q h1⟩⟩
        · rw [if_neg (fun q => h1 (k0.mp q))]
          unfold sh_X6_readDepth X6_readDepth_F
          rw [rd_O s1.1.1.1, bs, q1, bs, rd_I q2.1.1.1, bs, if_pos (by rw [q3.1.2.1, t2]; rfl), u1, bs, x1, bs, bs]
        · rw [if_pos h2, j64 kR hz, if_pos h2, p1, bs, m_readTold k5R, bs, m_I k5R, bs, if_pos r18, m_I k5R, bs, if_pos (by rw [q3.2.1.2.2.1, t2]; rfl)]
          unfold sh_X12_readNumber X12_readNumber_F
          rw [m_O k5R, bs, u2, bs, w1, bs, bs, j117 w2.1.2.1 hz]
        · have h6 := x5 q
          have h4 := q5 c4
          omega
        · rw [ud_ne _ _ (by omega), ud_ne _ _ (by omega), ud_at]; exact h3
      · refine ⟨3, C4, _, e4, _, ?_, ?_, q2.r7 (10 + z) 3, q3.r (by decide) _ _, fun i i1 i2 => by rw [ud_ne _ _ i2]; exact two r 1 i i1 i2, fun q => ⟨c, ?_, ?_, by rw [ud_at], ⟨3, rfl, by omega, by omega⟩, fun q => absurd q h1⟩⟩
        · rw [if_neg (fun q => h1 (k0.mp q))]
          unfold sh_X6_readDepth X6_readDepth_F
          rw [rd_O s1.1.1.1, bs, q1, bs, rd_I q2.1.1.1, bs, if_neg (fun q => t2 (by rw [q3.1.2.1] at q; exact (eq_n (b := 2) (by omega) (by omega)).mp q)), bs]
        · rw [if_pos h2, j64 kR hz, if_pos h2, p1, bs, m_readTold k5R, bs, m_I k5R, bs, if_pos r18, m_I k5R, bs, if_neg (fun q => t2 (by rw [q3.2.1.2.2.1] at q; exact (eq_n (b := 2) (by omega) (by omega)).mp q))]
          unfold X12_readZone_J116
          rw [j117 k5R hz]
        · have h4 := q5 c4
          omega
        · rw [ud_ne _ _ (by omega), ud_ne _ _ (by omega), ud_at]; exact h3
  · have er := k4 c
    have nr : ¬ (0 : Int32) < r := by rw [er]; decide
    have cf : (sI C a 2 (Int32.ofNat k)).1 66 5 ≠ 0 := by rw [c6]; exact c
    have s2 := (s1.r7 (5 + z) 0).r7 (10 + z) 1
    have a2 : jA (sI C a 2 (Int32.ofNat k)) (sI (sI R 327 (5 + z) 0) 327 (10 + z) 1) b n e := (a1.r (by decide) _ _).r (by decide) _ _
    have rr : (if 0 < r then X12_readZone_J64 319 (Int32.ofNat z) r 327 (5 + Int32.ofNat z) r R else X12_readZone_J64 319 (Int32.ofNat z) r 327 (5 + Int32.ofNat z) 0 R) = some (sI (sI R 327 (5 + z) 0) 327 (10 + z) 1) := by rw [if_neg nr, j64 kR hz, if_neg nr]
    have nx : sh_X6_nextToken 66 (sI C a 2 (Int32.ofNat k)) = some (sI C a 2 (Int32.ofNat k)) := by
      unfold sh_X6_nextToken X6_nextToken_F
      rw [rd_O s1.1.1.1, bs, rd_I s1.1.1.1, bs, if_neg cf]
    have run : ∃ dd, (if Int32.ofNat k = 0 then X6_readZone_J74 66 D a 1 (sI C a 2 (Int32.ofNat k)) else (sh_X6_readDepth 66 (sI C a 2 (Int32.ofNat k))).bind fun q25 => X6_readZone_J74 66 D a q25.1 q25.2) = X6_readZone_J74 66 D a dd (sI C a 2 (Int32.ofNat k)) := by
      by_cases q : Int32.ofNat k = 0
      · exact ⟨1, by rw [if_pos q]⟩
      · by_cases t2 : (sI C a 2 (Int32.ofNat k)).1 66 3 = 2
        · obtain ⟨v, C5, R6, u1, u2, u3, u4, u5, u6, u7, u8⟩ := j_num s1.1 a1 (lo := 1) (hi := 4) (by omega) (by omega)
          have e5 := u8 cf
          subst e5
          replace u1 : sh_X6_needNumber 66 1 4 (sI C a 2 (Int32.ofNat k)) = some (v, sI C a 2 (Int32.ofNat k)) := u1
          refine ⟨v, ?_⟩
          rw [if_neg q]
          unfold sh_X6_readDepth X6_readDepth_F
          rw [rd_O s1.1.1.1, bs, nx, bs, rd_I s1.1.1.1, bs, if_pos t2, u1, bs, nx, bs, bs]
        · refine ⟨3, ?_⟩
          rw [if_neg q]
          unfold sh_X6_readDepth X6_readDepth_F
          rw [rd_O s1.1.1.1, bs, nx, bs, rd_I s1.1.1.1, bs, if_neg t2, bs]
    obtain ⟨dd, run⟩ := run
    exact ⟨dd, _, _, e, _, run, rr, s2, a2, two 0 1, fun q => absurd q cf⟩
end
