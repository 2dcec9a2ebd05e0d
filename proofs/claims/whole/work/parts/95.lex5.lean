/-! ===== LEX 5: what is told ahead, words, the end of a CLAUSE ===== -/
section
variable {C R C' R' : Gm} {b : Nat → Int32} {n e e' : Nat}
theorem ld327_c (h : Ky R) {k : Nat} (hk : k < 5) : ldA R 0 327 (163 + Int32.ofNat k) = some (R.1 327 (163 + k)) := by
  rw [show (163 : Int32) = Int32.ofNat 163 from rfl, ad_n, ld327 h (by omega)]
theorem j_told (j : Jc C R b n) (h : jB C R b n e) {lim m k : Nat} (hl : 1 ≤ lim) (hl2 : lim ≤ 10) (hm : m ≤ 10) (hk : k < 5) (e7 : R.1 327 (163 + k) = Int32.ofNat m) :
    ∃ v v' C' R' e', sh_X6_readTold 66 (Int32.ofNat lim) (Int32.ofNat m) C = some (v, C') ∧ sh_X12_oneNow 319 (Int32.ofNat lim) (Int32.ofNat k) R = some (v', R') ∧ isN v 0 (lim - 1) ∧ Fk C C' ∧ Fq R R' ∧ jA C' R' b n e' ∧ (C'.1 66 5 = 0 → C.1 66 5 = 0 ∧ e ≤ e' ∧ v' = v ∧ ∃ i, i < m ∧ v = Int32.ofNat i) := by
  obtain ⟨C1, a1, a2, a3, e1, a4, a5⟩ := j_next j h
  have j1 := j.f a2 (Fq.rfl' R)
  obtain ⟨v, C2, R2, b1, b2, b3, b4, b5, b6, b7, b8⟩ := j_num j1 a5 (lo := 0) (hi := lim - 1) (Nat.zero_le _) (by omega)
  have j2 := j1.f b4 b5
  have el : Int32.ofNat lim - 1 = Int32.ofNat (lim - 1) := sub_n (b := 1) hl (by omega)
  have e27 : R2.1 327 (163 + k) = Int32.ofNat m := by rw [b5.1.2 327 (by decide)]; exact e7
  have cr : sh_X6_readTold 66 (Int32.ofNat lim) (Int32.ofNat m) C = if v < Int32.ofNat m then X6_readTold_J23 66 v C2 else (sh_X6_fail 66 3 C2).bind fun q5 => X6_readTold_J23 66 v q5 := by
    unfold sh_X6_readTold X6_readTold_F
    rw [rd_O j.1.1, bs, a1, bs, el]
    show (sh_X6_needNumber 66 (Int32.ofNat 0) (Int32.ofNat (lim - 1)) C1).bind _ = _
    rw [b1, bs]
  have rr : sh_X12_oneNow 319 (Int32.ofNat lim) (Int32.ofNat k) R = if R2.1 319 18 = 0 then (if v < Int32.ofNat m then some (v, R2) else (sh_X12_wrong 319 3 R2).bind fun q9 => some (v, q9)) else some (v, R2) := by
    unfold sh_X12_oneNow X12_oneNow_F X12_oneNow_J35
    rw [m_O j.2.1, bs, el]
    show (sh_X12_numberNow 319 (Int32.ofNat 0) (Int32.ofNat (lim - 1)) R).bind _ = _
    rw [b2, bs, m_I j2.2.1, bs, m_readTold j2.2.1, bs, ld327_c j2.2.1 hk, bs, e27]
  by_cases c : C2.1 66 5 = 0
  · have r18 : R2.1 319 18 = 0 := b6.2.2.1.trans c
    rw [if_pos r18] at rr
    by_cases d : v < Int32.ofNat m
    · rw [if_pos d] at cr rr
      refine ⟨v, v, C2, R2, e1, ?_, rr, b3, a2.trans b4, b5, b6, fun q => ⟨a3 ▸ b7 q, a4 (b7 q), rfl, ?_⟩⟩
      · rw [cr]; unfold X6_readTold_J23 X6_readTold_J35; rw [rd_I j2.1.1, bs, if_pos c]
      · obtain ⟨i, ei, -, hi⟩ := id b3
        rw [ei, lt_n (by omega) (by omega)] at d
        exact ⟨i, d, ei⟩
    · rw [if_neg d] at cr rr
      obtain ⟨C3, R3, f1, f2, f3, f4, f5, f6⟩ := j_fail j2 b6 (k := 3) (by decide)
      refine ⟨0, v, C3, R3, e1, ?_, ?_, ⟨0, rfl, Nat.zero_le _, Nat.zero_le _⟩, (a2.trans b4).trans f3, b5.trans f4, f5, fun q => absurd q f6⟩
      · rw [cr, f1, bs]; unfold X6_readTold_J23 X6_readTold_J35; rw [rd_I (j2.1.1.fm f3.1), bs, if_neg f6]
      · rw [rr, f2, bs]
  · have r18 : R2.1 319 18 ≠ 0 := by rw [b6.2.2.1]; exact c
    rw [if_neg r18] at rr
    have z : X6_readTold_J23 66 v C2 = some (0, C2) := by unfold X6_readTold_J23 X6_readTold_J35; rw [rd_I j2.1.1, bs, if_neg c]
    refine ⟨0, v, C2, R2, e1, ?_, rr, ⟨0, rfl, Nat.zero_le _, Nat.zero_le _⟩, a2.trans b4, b5, b6, fun q => absurd q c⟩
    rw [cr, c_fail j2.1.1, if_neg c, bs, z, ite_self]
/-! the words -/
theorem wd_kd : ∀ a, a < 4 → kz.getD (320 + a) (31, 0) = (42, (wdN.getD a []).length) := by decide +kernel
theorem wd_in : ∀ a, a < 4 → ∀ k, k < (wdN.getD a []).length → 2 ≤ (wdN.getD a []).getD k 0 ∧ (wdN.getD a []).getD k 0 < 26 := by decide +kernel
theorem m_which (h : Ky R) (wk : WkK R.2.1) (eb : R.1 329 = b) (rt : RT R b n e) (hn7 : n ≤ 700) {a : Nat} (ha : a < 4) : ∃ r, sh_X12_which 319 (320 + a) R = some r ∧ ((r = -1 ∧ ∀ k, k < (wdN.getD a []).length → ¬ (R.1 319 18 = 0 ∧ isWd b n e ((wdN.getD a []).getD k 0))) ∨ ∃ k, k < (wdN.getD a []).length ∧ r = Int32.ofNat k ∧ R.1 319 18 = 0 ∧ isWd b n e ((wdN.getD a []).getD k 0) ∧ ∀ i, i < k → ¬ isWd b n e ((wdN.getD a []).getD i 0)) := by
  have h6 := wdN_6 a ha
  have kk : kd R (320 + a) = (32 + 10, (wdN.getD a []).length) := (h.1 _ (by omega)).trans (wd_kd a ha)
  have key : ∃ q, lp (X12_which_B2 319 (320 + a) R) FU 0 = some q ∧ ∃ r, Sum.elim (fun _ => some (-1)) (fun u4 => some u4) q = some r ∧ ((r = -1 ∧ ∀ k, k < (wdN.getD a []).length → ¬ (R.1 319 18 = 0 ∧ isWd b n e ((wdN.getD a []).getD k 0))) ∨ ∃ k, k < (wdN.getD a []).length ∧ r = Int32.ofNat k ∧ R.1 319 18 = 0 ∧ isWd b n e ((wdN.getD a []).getD k 0) ∧ ∀ i, i < k → ¬ isWd b n e ((wdN.getD a []).getD i 0)) := by
    refine lp_inv (fun j q => q = Int32.ofNat j ∧ ∀ k, k < j → ¬ (R.1 319 18 = 0 ∧ isWd b n e ((wdN.getD a []).getD k 0))) _ (wdN.getD a []).length ?_ ?_ ⟨rfl, fun k hk => absurd hk (Nat.not_lt_zero _)⟩ (by omega)
    · rintro i q hi ⟨g1, g2⟩
      subst g1
      have e0 : X12_which_B2 319 (320 + a) R (Int32.ofNat i) = if bI (R.1 319 18 = 0 ∧ isWd b n e ((wdN.getD a []).getD i 0)) = 0 then some (.inl (Int32.ofNat (i + 1))) else some (.inr (.inr (Int32.ofNat i))) := by
        unfold X12_which_B2
        have w := wd_in a ha i hi
        rw [a_len kk (by omega), bs, if_neg (fun q => by have := (le_n (by omega) (by omega)).mp q; omega), l_R kk hi (by omega), bs, wk a i ha hi, m_is h eb rt hn7 w.1 w.2, bs, pl1]
      by_cases c : R.1 319 18 = 0 ∧ isWd b n e ((wdN.getD a []).getD i 0)
      · rw [bI_t c, if_neg (by decide)] at e0
        exact Or.inr ⟨_, e0, _, rfl, Or.inr ⟨i, hi, rfl, c.1, c.2, fun k hk q => g2 k hk ⟨c.1, q⟩⟩⟩
      · rw [bI_f c, if_pos rfl] at e0
        refine Or.inl ⟨_, e0, rfl, fun k hk => ?_⟩
        by_cases q : k = i
        · rw [q]; exact c
        · exact g2 k (by omega)
    · rintro q ⟨g1, g2⟩
      subst g1
      refine ⟨.inl (), ?_, _, rfl, Or.inl ⟨rfl, g2⟩⟩
      unfold X12_which_B2
      rw [a_len kk (by omega), bs, if_pos (Int32.le_refl _)]
  obtain ⟨q, q1, r, q2, q3⟩ := key
  refine ⟨r, ?_, q3⟩
  unfold sh_X12_which X12_which_F
  rw [m_O h, bs, q1, bs]
  exact q2
theorem Jc.isW (j : Jc C R b n) (h : Cz C b n e) {s : Nat} (s1 : 2 ≤ s) (s2 : s < 26) : sh_X6_isWord 66 s C = some (bI (isWd b n e s)) := c_isWord j.1.1 j.1.2.1 j.1.2.2.1 h.1 h.2.1 h.2.2.1 h.2.2.2 s1 s2
/-! the end of a CLAUSE -/
/-- one more is told -/
def cnt1 (x : Int32) (q : Gm) : Option Gm := if 5 ≤ x then some q else (ldA q 0 327 (163 + x)).bind fun v5 => (stA q 0 327 (163 + x) (v5 + 1)).bind fun M7 => some M7
theorem j_end {s1 : Int32} (j : Jc C (sI R 319 21 s1) b n) (h : jA C (sI R 319 21 s1) b n e) (hs : s1 = 0 ∨ s1 = 1) (kR : Ky R) : ∃ C' R', sh_X6_needSemicolon 66 C = some C' ∧ (∀ x, X12_readClause_J174 319 x 319 s1 R = cnt1 x R') ∧ Fk C C' ∧ Fq (sI R 319 21 s1) R' ∧ jB C' R' b n (tE b n e) ∧ (C'.1 66 5 = 0 → C.1 66 5 = 0 ∧ tK b n e = 3) := by
  have h' := id h
  obtain ⟨⟨z2, z3, z4, zn⟩, rt, h1, h2⟩ := h'
  have k4 : tK b n e ≤ 4 := ck_4 b n (tB b n e)
  -- the rest
  have tail : ∀ Y Z : Gm, Ky Y → sh_X12_pass 319 Y = some Z → Ky Z → ∀ x, X12_readClause_J197 319 x Y = cnt1 x Z := fun Y Z kY e1 kZ x => by
    unfold X12_readClause_J197 X12_readClause_J220 cnt1
    rw [e1, bs, m_readTold kZ, bs]
  have kS := j.2.1
  have c7 : sh_X6_needSemicolon 66 C = if C.1 66 3 = 3 then some C else sh_X6_fail 66 1 C := by
    unfold sh_X6_needSemicolon X6_needSemicolon_F X6_needSemicolon_J13
    rw [rd_O j.1.1, bs, rd_I j.1.1, bs]
    by_cases c : C.1 66 3 = 3
    · rw [if_pos c, if_pos c]
    · rw [if_neg c, if_neg c, c_fail j.1.1, bs]
  have r7 : ∀ x, X12_readClause_J174 319 x 319 s1 R = if (sI R 319 21 s1).1 319 18 = 0 then (if (sI R 319 21 s1).1 319 14 = 3 then X12_readClause_J197 319 x (sI R 319 21 s1) else (sh_X12_wrong 319 1 (sI R 319 21 s1)).bind fun q7 => X12_readClause_J197 319 x q7) else X12_readClause_J197 319 x (sI R 319 21 s1) := fun x => by
    unfold X12_readClause_J174
    rw [m_Z kR _ _ hs, bs, m_I kS, bs, m_I kS, bs]
  by_cases c : C.1 66 5 = 0
  · have r18 : (sI R 319 21 s1).1 319 18 = 0 := h1.trans c
    by_cases d : tK b n e = 3
    · obtain ⟨R', p1, p2, p3⟩ := j_pass j h
      refine ⟨C, R', ?_, fun x => ?_, Fk.rfl' _, p2, p3, fun q => ⟨q, d⟩⟩
      · rw [c7, if_pos (by rw [z3, d]; rfl)]
      · rw [r7, if_pos r18, if_pos (by rw [rt.2.2.1, d]; rfl), tail _ _ kS p1 (kS.fm p2.1)]
    · obtain ⟨C', R1, f1, f2, f3, f4, f5, f6⟩ := j_fail j h (k := 1) (by decide)
      obtain ⟨R', p1, p2, p3⟩ := j_pass (j.f f3 f4) f5
      refine ⟨C', R', ?_, fun x => ?_, f3, f4.trans p2, p3, fun q => absurd q f6⟩
      · rw [c7, if_neg (fun q => d (by rw [z3] at q; exact (eq_n (b := 3) (by omega) (by omega)).mp q)), f1]
      · rw [r7, if_pos r18, if_neg (fun q => d (by rw [rt.2.2.1] at q; exact (eq_n (b := 3) (by omega) (by omega)).mp q)), f2, bs, tail _ _ (kS.fm f4.1) p1 ((kS.fm f4.1).fm p2.1)]
  · have r18 : ¬ (sI R 319 21 s1).1 319 18 = 0 := by rw [h1]; exact c
    obtain ⟨R', p1, p2, p3⟩ := j_pass j h
    refine ⟨C, R', ?_, fun x => ?_, Fk.rfl' _, p2, p3, fun q => absurd q c⟩
    · rw [c7, c_fail j.1.1, if_neg c, ite_self]
    · rw [r7, if_neg r18, tail _ _ kS p1 (kS.fm p2.1)]
end
