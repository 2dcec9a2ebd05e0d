/-! ===== TRIP 1: words that must be there; the one CRITICAL ===== -/
section
variable {C0 R0 C R C' R' : Gm} {b : Nat → Int32} {n e a D : Nat} {Z N T : Nat → Int32} {g : Int32}
/-- the reference's word, or a FAULT -/
theorem j_which (j : Jc C R b n) (h : jA C R b n e) {i : Nat} (hi : i < 4) : ∃ r, sh_X12_which 319 (320 + i) R = some r ∧ ((C.1 66 5 ≠ 0 ∧ r = -1) ∨ (C.1 66 5 = 0 ∧ ((r = -1 ∧ ∀ k, k < (wdN.getD i []).length → ¬ isWd b n e ((wdN.getD i []).getD k 0)) ∨ ∃ k, k < (wdN.getD i []).length ∧ r = Int32.ofNat k ∧ isWd b n e ((wdN.getD i []).getD k 0) ∧ ∀ u, u < k → ¬ isWd b n e ((wdN.getD i []).getD u 0)))) := by
  obtain ⟨r, r1, r2⟩ := m_which j.2.1 j.2.2.1 j.2.2.2.1 h.2.1 j.1.2.2.1.1 (a := i) hi
  refine ⟨r, r1, ?_⟩
  by_cases c : C.1 66 5 = 0
  · refine Or.inr ⟨c, ?_⟩
    rcases r2 with ⟨q1, q2⟩ | ⟨k, q1, q2, -, q3, q4⟩
    · exact Or.inl ⟨q1, fun k hk q => q2 k hk ⟨h.2.2.1.trans c, q⟩⟩
    · exact Or.inr ⟨k, q1, q2, q3, q4⟩
  · refine Or.inl ⟨c, ?_⟩
    rcases r2 with ⟨q1, -⟩ | ⟨k, -, -, q, -⟩
    · exact q1
    · rw [h.2.2.1] at q; exact absurd q c
theorem ne_m1' {k : Nat} (hk : k < 100) : ¬ Int32.ofNat k = -1 := fun q => by
  have h : (Int32.ofNat k).toInt = (-1 : Int32).toInt := by rw [q]
  rw [Int32.toInt_ofNat_of_lt (by omega)] at h
  have : (-1 : Int32).toInt = -1 := rfl
  omega
/-- the sort of a TRIP -/
theorem Si.sort (si : Si C0 R0 C R b n a Z N T g) (h : jA C R b n e) : ∃ s r C' R', sh_X6_readSort 66 C = some (s, C') ∧ sh_X12_which 319 322 R = some r ∧ (∀ K : Gm → Option Gm, (if r = -1 then (sh_X12_wrong 319 1 R).bind fun q => K q else K R) = K R') ∧ Si C0 R0 C' R' b n a Z N T g ∧ jA C' R' b n e ∧ (C'.1 66 5 = 0 → C.1 66 5 = 0 ∧ r = s ∧ isN s 0 3) := by
  have j := si.1
  have wW := fun s s1 s2 => j.isW h.1 (s := s) s1 s2
  obtain ⟨r, r1, r2⟩ := j_which j h (i := 2) (by decide)
  have ck : sh_X6_readSort 66 C = if bI (isWd b n e 8) = 0 then (if bI (isWd b n e 9) = 0 then (if bI (isWd b n e 10) = 0 then (if bI (isWd b n e 11) = 0 then (sh_X6_fail 66 1 C).bind fun q9 => some (2, q9) else some (3, C)) else some (2, C)) else some (1, C)) else some (0, C) := by
    unfold sh_X6_readSort X6_readSort_F
    rw [rd_O j.1.1, bs, wW 8 (by omega) (by omega), bs, wW 9 (by omega) (by omega), bs, wW 10 (by omega) (by omega), bs, wW 11 (by omega) (by omega), bs]
  have len : (wdN.getD 2 []).length = 4 := rfl
  rw [len] at r2
  have fl : C.1 66 5 ≠ 0 → sh_X6_fail 66 1 C = some C := fun c => by rw [c_fail j.1.1, if_neg c]
  rcases r2 with ⟨c, er⟩ | ⟨c, ⟨er, q⟩ | ⟨k, hk, er, q, f⟩⟩
  · have : ∃ s, sh_X6_readSort 66 C = some (s, C) := by
      rw [ck, fl c, bs]
      split
      · split
        · split
          · split
            · exact ⟨_, rfl⟩
            · exact ⟨_, rfl⟩
          · exact ⟨_, rfl⟩
        · exact ⟨_, rfl⟩
      · exact ⟨_, rfl⟩
    obtain ⟨s, hs⟩ := this
    refine ⟨s, r, C, R, hs, r1, fun K => ?_, si, h, fun q => absurd q c⟩
    rw [m_wrong j.2.1, if_neg (show ¬ R.1 319 18 = 0 by rw [h.2.2.1]; exact c), bs, ite_self]
  · obtain ⟨C', R', f1, f2, f3, f4, f5⟩ := si.fail h (k := 1) (by decide)
    refine ⟨2, r, C', R', ?_, r1, fun K => by rw [if_pos er, f2, bs], f3, f4, fun q => absurd q f5⟩
    rw [ck, bI_f (p := isWd b n e 8) (q 0 (by omega)), if_pos rfl, bI_f (p := isWd b n e 9) (q 1 (by omega)), if_pos rfl, bI_f (p := isWd b n e 10) (q 2 (by omega)), if_pos rfl, bI_f (p := isWd b n e 11) (q 3 (by omega)), if_pos rfl, f1, bs]
  · refine ⟨Int32.ofNat k, r, C, R, ?_, r1, fun K => by rw [if_neg (by rw [er]; exact ne_m1' (by omega))], si, h, fun _ => ⟨c, er, k, rfl, by omega, by omega⟩⟩
    have : k = 0 ∨ k = 1 ∨ k = 2 ∨ k = 3 := by omega
    rw [ck]
    rcases this with v | v | v | v
    · subst v; rw [bI_t (p := isWd b n e 8) q, if_neg (by decide)]; rfl
    · subst v; rw [bI_f (p := isWd b n e 8) (f 0 (by omega)), if_pos rfl, bI_t (p := isWd b n e 9) q, if_neg (by decide)]; rfl
    · subst v; rw [bI_f (p := isWd b n e 8) (f 0 (by omega)), if_pos rfl, bI_f (p := isWd b n e 9) (f 1 (by omega)), if_pos rfl, bI_t (p := isWd b n e 10) q, if_neg (by decide)]; rfl
    · subst v; rw [bI_f (p := isWd b n e 8) (f 0 (by omega)), if_pos rfl, bI_f (p := isWd b n e 9) (f 1 (by omega)), if_pos rfl, bI_f (p := isWd b n e 10) (f 2 (by omega)), if_pos rfl, bI_t (p := isWd b n e 11) q, if_neg (by decide)]; rfl
/-- the make of a DEVICE -/
theorem Si.make (si : Si C0 R0 C R b n a Z N T g) (h : jA C R b n e) : ∃ s r C' R', sh_X6_readMake 66 C = some (s, C') ∧ sh_X12_which 319 323 R = some r ∧ (if r = -1 then (sh_X12_wrong 319 1 R).bind fun q => X12_readWord_J16 319 r q else X12_readWord_J16 319 r R) = X12_readWord_J16 319 r R' ∧ Si C0 R0 C' R' b n a Z N T g ∧ jA C' R' b n e ∧ (C'.1 66 5 = 0 → C.1 66 5 = 0 ∧ r = s ∧ isN s 0 2) := by
  have j := si.1
  have wW := fun s s1 s2 => j.isW h.1 (s := s) s1 s2
  obtain ⟨r, r1, r2⟩ := j_which j h (i := 3) (by decide)
  have ck : sh_X6_readMake 66 C = if bI (isWd b n e 13) = 0 then (if bI (isWd b n e 14) = 0 then (if bI (isWd b n e 15) = 0 then (sh_X6_fail 66 1 C).bind fun q9 => some (2, q9) else some (2, C)) else some (1, C)) else some (0, C) := by
    unfold sh_X6_readMake X6_readMake_F X6_readMake_J36
    rw [rd_O j.1.1, bs, wW 13 (by omega) (by omega), bs, wW 14 (by omega) (by omega), bs, wW 15 (by omega) (by omega), bs]
  have len : (wdN.getD 3 []).length = 3 := rfl
  rw [len] at r2
  have fl : C.1 66 5 ≠ 0 → sh_X6_fail 66 1 C = some C := fun c => by rw [c_fail j.1.1, if_neg c]
  rcases r2 with ⟨c, er⟩ | ⟨c, ⟨er, q⟩ | ⟨k, hk, er, q, f⟩⟩
  · have : ∃ s, sh_X6_readMake 66 C = some (s, C) := by
      rw [ck, fl c, bs]
      split
      · split
        · split
          · exact ⟨_, rfl⟩
          · exact ⟨_, rfl⟩
        · exact ⟨_, rfl⟩
      · exact ⟨_, rfl⟩
    obtain ⟨s, hs⟩ := this
    refine ⟨s, r, C, R, hs, r1, ?_, si, h, fun q => absurd q c⟩
    rw [m_wrong j.2.1, if_neg (show ¬ R.1 319 18 = 0 by rw [h.2.2.1]; exact c), bs, ite_self]
  · obtain ⟨C', R', f1, f2, f3, f4, f5⟩ := si.fail h (k := 1) (by decide)
    refine ⟨2, r, C', R', ?_, r1, by rw [if_pos er, f2, bs], f3, f4, fun q => absurd q f5⟩
    rw [ck, bI_f (p := isWd b n e 13) (q 0 (by omega)), if_pos rfl, bI_f (p := isWd b n e 14) (q 1 (by omega)), if_pos rfl, bI_f (p := isWd b n e 15) (q 2 (by omega)), if_pos rfl, f1, bs]
  · refine ⟨Int32.ofNat k, r, C, R, ?_, r1, by rw [if_neg (by rw [er]; exact ne_m1' (by omega))], si, h, fun _ => ⟨c, er, k, rfl, by omega, by omega⟩⟩
    have : k = 0 ∨ k = 1 ∨ k = 2 := by omega
    rw [ck]
    rcases this with v | v | v
    · subst v; rw [bI_t (p := isWd b n e 13) q, if_neg (by decide)]; rfl
    · subst v; rw [bI_f (p := isWd b n e 13) (f 0 (by omega)), if_pos rfl, bI_t (p := isWd b n e 14) q, if_neg (by decide)]; rfl
    · subst v; rw [bI_f (p := isWd b n e 13) (f 0 (by omega)), if_pos rfl, bI_f (p := isWd b n e 14) (f 1 (by omega)), if_pos rfl, bI_t (p := isWd b n e 15) q, if_neg (by decide)]; rfl
/-- a CRITICAL TRIP of a ZONE among those read -/
theorem m_hasCrit (h : Ky R) {t : Nat} (ht : t ≤ 10) (e4 : R.1 327 164 = Int32.ofNat t) (x : Int32) : sh_X12_hasCritical 319 x R = some (bI (∃ u, u < t ∧ R.1 327 (15 + u) = x ∧ R.1 327 (25 + u) = 3)) := by
  have key : ∃ q, lp (X12_hasCritical_B4 319 x R) FU (0, 0) = some q ∧ q = bI (∃ u, u < t ∧ R.1 327 (15 + u) = x ∧ R.1 327 (25 + u) = 3) := by
    refine lp_inv (fun j q => q.1 = bI (∃ u, u < j ∧ R.1 327 (15 + u) = x ∧ R.1 327 (25 + u) = 3) ∧ q.2 = Int32.ofNat j) _ t ?_ ?_ ⟨(bI_f (fun q => by obtain ⟨u, hu, -⟩ := q; omega)).symm, rfl⟩ (by omega)
    · rintro j ⟨p, q⟩ hj ⟨g1, g2⟩
      replace g1 : p = _ := g1
      replace g2 : q = Int32.ofNat j := g2
      subst g1 g2
      refine Or.inl ⟨(bI (∃ u, u < j + 1 ∧ R.1 327 (15 + u) = x ∧ R.1 327 (25 + u) = 3), Int32.ofNat (j + 1)), ?_, rfl, rfl⟩
      have up : ∀ {A : Prop}, (A ↔ (R.1 327 (15 + j) = x ∧ R.1 327 (25 + j) = 3)) → ¬ (∃ u, u < j ∧ R.1 327 (15 + u) = x ∧ R.1 327 (25 + u) = 3) → (A ↔ ∃ u, u < j + 1 ∧ R.1 327 (15 + u) = x ∧ R.1 327 (25 + u) = 3) := fun hA hn => by
        rw [hA]
        constructor
        · exact fun q => ⟨j, by omega, q⟩
        · rintro ⟨u, hu, q⟩
          by_cases e : u = j
          · rw [← e]; exact q
          · exact absurd ⟨u, by omega, q⟩ hn
      unfold X12_hasCritical_B4 X12_hasCritical_J46 X12_hasCritical_J50 X12_hasCritical_J51
      rw [m_readTold h, bs, ld327_164 h, bs, e4]
      show (if Int32.ofNat t ≤ Int32.ofNat j then _ else _) = _
      rw [if_neg (fun q => by have := (le_n (by omega) (by omega)).mp q; omega)]
      by_cases c : ∃ u, u < j ∧ R.1 327 (15 + u) = x ∧ R.1 327 (25 + u) = 3
      · rw [bI_t c, if_neg (show ¬ ((1 : Int32), Int32.ofNat j).1 = 0 from by show ¬ (1 : Int32) = 0; decide), bI_t (by obtain ⟨u, hu, q⟩ := c; exact ⟨u, by omega, q⟩)]
        show some (Sum.inl ((1 : Int32), Int32.ofNat j + 1)) = _
        rw [pl1]
      · rw [bI_f c, if_pos (show ((0 : Int32), Int32.ofNat j).1 = 0 from rfl), bs]
        show ((ldA R 0 327 (Int32.ofNat 25 + Int32.ofNat j)).bind fun v7 => if v7 = 3 then (some 327).bind fun v9 => (ldA R 0 v9 (Int32.ofNat 15 + Int32.ofNat j)).bind fun v11 => if v11 = x then some (Sum.inl ((1 : Int32), Int32.ofNat j + 1)) else some (Sum.inl ((0 : Int32), Int32.ofNat j + 1)) else some (Sum.inl ((0 : Int32), Int32.ofNat j + 1))) = _
        rw [ad_n, ld327 h (by omega), bs, bs, ad_n, ld327 h (by omega), bs, pl1]
        by_cases c1 : R.1 327 (25 + j) = 3
        · rw [if_pos c1]
          by_cases c2 : R.1 327 (15 + j) = x
          · rw [if_pos c2, bI_t ⟨j, by omega, c2, c1⟩]
          · rw [if_neg c2, bI_f (fun q => c2 ((up Iff.rfl c).mpr q).1)]
        · rw [if_neg c1, bI_f (fun q => c1 ((up Iff.rfl c).mpr q).2)]
    · rintro ⟨p, q⟩ ⟨g1, g2⟩
      replace g1 : p = _ := g1
      replace g2 : q = Int32.ofNat t := g2
      subst g1 g2
      refine ⟨_, ?_, rfl⟩
      unfold X12_hasCritical_B4
      rw [m_readTold h, bs, ld327_164 h, bs, e4]
      show (if Int32.ofNat t ≤ Int32.ofNat t then _ else _) = _
      rw [if_pos (Int32.le_refl _)]
  obtain ⟨q, q1, q2⟩ := key
  unfold sh_X12_hasCritical X12_hasCritical_F
  rw [m_O h, bs, q1, bs, q2, zck_b, bs]
end
