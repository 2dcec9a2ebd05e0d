/-! ===== LAW: its loop ===== -/
section
variable {M : Gm} {j L : Nat} {xs : Nat → Int32}
theorem Inv.up (h : Inv M j) : Inv M (j + 1) := by
  obtain ⟨⟨P, D, cv⟩, rm⟩ := h
  exact ⟨⟨P, D, cv.le (by omega)⟩, rm.ft rfl (by omega)⟩
theorem sc_n {i : Nat} (hi : i < L) (hL : L ≤ 3072) : scA L xs (Int32.ofNat i) = some (xs i) := by
  unfold scA
  rw [if_pos (inb_n hi (by omega)), nn i (by omega)]
theorem m_thrown (h : Ky M) : sh_X12_thrown 319 M = some (M.1 319 4) := by
  unfold sh_X12_thrown X12_thrown_F
  rw [m_O h, bs, m_I h, bs]
theorem ld345_0 (h : Ky M) : ldA M 3 345 0 = some (M.1 345 0) := l_A (t := 3) (j := 0) ((h.1 345 (by decide)).trans rfl) (by decide) (by decide)
theorem law_step (h : Inv M j) (hj : j ≤ 512) (h6 : 6 * j + 6 ≤ L) (hL : L ≤ 3072) : ∃ M', L_law_B23 L xs 64 319 345 (Int32.ofNat (6 * j), M) = some (.inl (Int32.ofNat (6 * (j + 1)), M')) ∧ Inv M' (j + 1) := by
  have kM : Ky M := by obtain ⟨⟨P, D, cv⟩, -⟩ := h; exact cv.1.2.1.1
  have s0 : scA L xs (Int32.ofNat (6 * j)) = some (xs (6 * j)) := sc_n (by omega) hL
  have s1 : scA L xs (Int32.ofNat (6 * j) + 1) = some (xs (6 * j + 1)) := by rw [show Int32.ofNat (6 * j) + 1 = Int32.ofNat (6 * j + 1) from (Int32.ofNat_add (6 * j) 1).symm]; exact sc_n (by omega) hL
  have s2 : scA L xs (Int32.ofNat (6 * j) + 2) = some (xs (6 * j + 2)) := by rw [show Int32.ofNat (6 * j) + 2 = Int32.ofNat (6 * j + 2) from (Int32.ofNat_add (6 * j) 2).symm]; exact sc_n (by omega) hL
  have s3 : scA L xs (Int32.ofNat (6 * j) + 3) = some (xs (6 * j + 3)) := by rw [show Int32.ofNat (6 * j) + 3 = Int32.ofNat (6 * j + 3) from (Int32.ofNat_add (6 * j) 3).symm]; exact sc_n (by omega) hL
  have s4 : scA L xs (Int32.ofNat (6 * j) + 4) = some (xs (6 * j + 4)) := by rw [show Int32.ofNat (6 * j) + 4 = Int32.ofNat (6 * j + 4) from (Int32.ofNat_add (6 * j) 4).symm]; exact sc_n (by omega) hL
  have s5 : scA L xs (Int32.ofNat (6 * j) + 5) = some (xs (6 * j + 5)) := by rw [show Int32.ofNat (6 * j) + 5 = Int32.ofNat (6 * j + 5) from (Int32.ofNat_add (6 * j) 5).symm]; exact sc_n (by omega) hL
  have nx : Int32.ofNat (6 * j) + 6 = Int32.ofNat (6 * (j + 1)) := (Int32.ofNat_add (6 * j) 6).symm
  have ex : ¬ (Int32.ofNat L - 6) < Int32.ofNat (6 * j) := by
    rw [show (6 : Int32) = Int32.ofNat 6 from rfl, sub_n (by omega) (by omega), lt_n (by omega) (by omega)]
    omega
  generalize hX : L_law_B23 L xs 64 319 345 (Int32.ofNat (6 * j), M) = X
  unfold L_law_B23 at hX
  dsimp only at hX
  rw [if_neg ex, s0, bs] at hX
  by_cases c0 : xs (6 * j) &&& 31 = 0
  · obtain ⟨b, M1, M2, a1, a2, a3, a4⟩ := a_feed h (xs (6 * j + 1)) (xs (6 * j + 2)) (xs (6 * j + 3)) (xs (6 * j + 4)) (xs (6 * j + 5))
    rw [if_pos c0, s1, s2, s3, s4, s5, bs, bs, bs, bs, bs, a1, bs] at hX
    dsimp only at hX
    rw [bs, bs, bs, bs, bs, a2, bs] at hX
    dsimp only at hX
    rw [if_pos (rfl : b = b)] at hX
    exact ⟨M2, by rw [← hX]; show some (Sum.inl (Int32.ofNat (6 * j) + 6, M2)) = _; rw [nx], a3⟩
  rw [if_neg c0] at hX
  by_cases c1 : xs (6 * j) &&& 31 = 1
  · obtain ⟨k, M1, b, M2, a1, a2, a3, a4, a5, a6⟩ := a_plan h (xs (6 * j + 1))
    rw [if_pos c1, s1, bs, a1, bs] at hX
    dsimp only at hX
    rw [bs, a2, bs] at hX
    dsimp only at hX
    rw [m_thrown a6, bs, a3, if_pos (rfl : k = k)] at hX
    by_cases k0 : k = 0
    · rw [if_pos k0, ld345_0 a6, bs, a4 k0, if_pos (rfl : b = b)] at hX
      exact ⟨M2, by rw [← hX]; show some (Sum.inl (Int32.ofNat (6 * j) + 6, M2)) = _; rw [nx], a5⟩
    · rw [if_neg k0] at hX
      exact ⟨M2, by rw [← hX]; show some (Sum.inl (Int32.ofNat (6 * j) + 6, M2)) = _; rw [nx], a5⟩
  rw [if_neg c1] at hX
  by_cases c2 : xs (6 * j) &&& 31 = 2
  · obtain ⟨b, M2, a1, a2, a3, a4⟩ := a_fault h
    rw [if_pos c2, a1, bs, a2, bs] at hX
    dsimp only at hX
    rw [if_pos (rfl : b = b)] at hX
    exact ⟨M2, by rw [← hX]; show some (Sum.inl (Int32.ofNat (6 * j) + 6, M2)) = _; rw [nx], a3⟩
  rw [if_neg c2] at hX
  by_cases c3 : xs (6 * j) &&& 31 = 3
  · obtain ⟨k, M1, b, M2, a1, a2, a3, a4, a5, a6⟩ := a_count h hj (xs (6 * j + 1))
    rw [if_pos c3, s1, bs, a1, bs] at hX
    dsimp only at hX
    rw [bs, a2, bs] at hX
    dsimp only at hX
    rw [m_thrown a6, bs, a3, if_pos (rfl : k = k)] at hX
    by_cases k0 : k = 0
    · rw [if_pos k0, ld345_0 a6, bs, a4 k0, if_pos (rfl : b = b)] at hX
      exact ⟨M2, by rw [← hX]; show some (Sum.inl (Int32.ofNat (6 * j) + 6, M2)) = _; rw [nx], a5⟩
    · rw [if_neg k0] at hX
      exact ⟨M2, by rw [← hX]; show some (Sum.inl (Int32.ofNat (6 * j) + 6, M2)) = _; rw [nx], a5⟩
  rw [if_neg c3] at hX
  by_cases c4 : xs (6 * j) &&& 31 = 4
  · obtain ⟨k, M1, b, M2, a1, a2, a3, a4, a5, a6⟩ := a_zone h (xs (6 * j + 1)) (xs (6 * j + 2))
    rw [if_pos c4, s1, s2, bs, bs, a1, bs] at hX
    dsimp only at hX
    rw [bs, bs, a2, bs] at hX
    dsimp only at hX
    rw [m_thrown a6, bs, a3, if_pos (rfl : k = k)] at hX
    by_cases k0 : k = 0
    · rw [if_pos k0, ld345_0 a6, bs, a4 k0, if_pos (rfl : b = b)] at hX
      exact ⟨M2, by rw [← hX]; show some (Sum.inl (Int32.ofNat (6 * j) + 6, M2)) = _; rw [nx], a5⟩
    · rw [if_neg k0] at hX
      exact ⟨M2, by rw [← hX]; show some (Sum.inl (Int32.ofNat (6 * j) + 6, M2)) = _; rw [nx], a5⟩
  rw [if_neg c4] at hX
  by_cases c5 : xs (6 * j) &&& 31 = 5
  · obtain ⟨k, M1, b, M2, a1, a2, a3, a4, a5, a6⟩ := a_trip h (xs (6 * j + 1)) (xs (6 * j + 2))
    rw [if_pos c5, s1, s2, bs, bs, a1, bs] at hX
    dsimp only at hX
    rw [bs, bs, a2, bs] at hX
    dsimp only at hX
    rw [m_thrown a6, bs, a3, if_pos (rfl : k = k)] at hX
    by_cases k0 : k = 0
    · rw [if_pos k0, ld345_0 a6, bs, a4 k0, if_pos (rfl : b = b)] at hX
      exact ⟨M2, by rw [← hX]; show some (Sum.inl (Int32.ofNat (6 * j) + 6, M2)) = _; rw [nx], a5⟩
    · rw [if_neg k0] at hX
      exact ⟨M2, by rw [← hX]; show some (Sum.inl (Int32.ofNat (6 * j) + 6, M2)) = _; rw [nx], a5⟩
  rw [if_neg c5] at hX
  by_cases c6 : xs (6 * j) &&& 31 = 6
  · obtain ⟨k, M1, b, M2, a1, a2, a3, a4, a5, a6⟩ := a_device h (xs (6 * j + 1)) (xs (6 * j + 2))
    rw [if_pos c6, s1, s2, bs, bs, a1, bs] at hX
    dsimp only at hX
    rw [bs, bs, a2, bs] at hX
    dsimp only at hX
    rw [m_thrown a6, bs, a3, if_pos (rfl : k = k)] at hX
    by_cases k0 : k = 0
    · rw [if_pos k0, ld345_0 a6, bs, a4 k0, if_pos (rfl : b = b)] at hX
      exact ⟨M2, by rw [← hX]; show some (Sum.inl (Int32.ofNat (6 * j) + 6, M2)) = _; rw [nx], a5⟩
    · rw [if_neg k0] at hX
      exact ⟨M2, by rw [← hX]; show some (Sum.inl (Int32.ofNat (6 * j) + 6, M2)) = _; rw [nx], a5⟩
  rw [if_neg c6] at hX
  by_cases c7 : xs (6 * j) &&& 31 = 7
  · obtain ⟨k, M1, b, M2, a1, a2, a3, a4, a5, a6⟩ := a_bind h (xs (6 * j + 1)) (xs (6 * j + 2)) (xs (6 * j + 3))
    rw [if_pos c7, s1, s2, s3, bs, bs, bs, a1, bs] at hX
    dsimp only at hX
    rw [bs, bs, bs, a2, bs] at hX
    dsimp only at hX
    rw [m_thrown a6, bs, a3, if_pos (rfl : k = k)] at hX
    by_cases k0 : k = 0
    · rw [if_pos k0, ld345_0 a6, bs, a4 k0, if_pos (rfl : b = b)] at hX
      exact ⟨M2, by rw [← hX]; show some (Sum.inl (Int32.ofNat (6 * j) + 6, M2)) = _; rw [nx], a5⟩
    · rw [if_neg k0] at hX
      exact ⟨M2, by rw [← hX]; show some (Sum.inl (Int32.ofNat (6 * j) + 6, M2)) = _; rw [nx], a5⟩
  rw [if_neg c7] at hX
  by_cases c8 : xs (6 * j) &&& 31 = 8
  · obtain ⟨k, M1, b, M2, a1, a2, a3, a4, a5, a6⟩ := a_log h hj (xs (6 * j + 1)) (xs (6 * j + 2))
    rw [if_pos c8, s1, s2, bs, bs, a1, bs] at hX
    dsimp only at hX
    rw [bs, bs, a2, bs] at hX
    dsimp only at hX
    rw [m_thrown a6, bs, a3, if_pos (rfl : k = k)] at hX
    by_cases k0 : k = 0
    · rw [if_pos k0, ld345_0 a6, bs, a4 k0, if_pos (rfl : b = b)] at hX
      exact ⟨M2, by rw [← hX]; show some (Sum.inl (Int32.ofNat (6 * j) + 6, M2)) = _; rw [nx], a5⟩
    · rw [if_neg k0] at hX
      exact ⟨M2, by rw [← hX]; show some (Sum.inl (Int32.ofNat (6 * j) + 6, M2)) = _; rw [nx], a5⟩
  rw [if_neg c8] at hX
  by_cases c9 : xs (6 * j) &&& 31 = 9
  · obtain ⟨k, M1, b, M2, a1, a2, a3, a4, a5, a6⟩ := a_ahead h hj (xs (6 * j + 1)) (xs (6 * j + 2)) (xs (6 * j + 3))
    rw [if_pos c9, s1, s2, s3, bs, bs, bs, a1, bs] at hX
    dsimp only at hX
    rw [bs, bs, bs, a2, bs] at hX
    dsimp only at hX
    rw [m_thrown a6, bs, a3, if_pos (rfl : k = k)] at hX
    by_cases k0 : k = 0
    · rw [if_pos k0, ld345_0 a6, bs, a4 k0, if_pos (rfl : b = b)] at hX
      exact ⟨M2, by rw [← hX]; show some (Sum.inl (Int32.ofNat (6 * j) + 6, M2)) = _; rw [nx], a5⟩
    · rw [if_neg k0] at hX
      exact ⟨M2, by rw [← hX]; show some (Sum.inl (Int32.ofNat (6 * j) + 6, M2)) = _; rw [nx], a5⟩
  rw [if_neg c9] at hX
  by_cases c10 : xs (6 * j) &&& 31 = 10
  · obtain ⟨k, M1, b, M2, a1, a2, a3, a4, a5, a6⟩ := a_bears h hj (xs (6 * j + 1)) (xs (6 * j + 2)) (xs (6 * j + 3))
    rw [if_pos c10, s1, s2, s3, bs, bs, bs, a1, bs] at hX
    dsimp only at hX
    rw [bs, bs, bs, a2, bs] at hX
    dsimp only at hX
    rw [m_thrown a6, bs, a3, if_pos (rfl : k = k)] at hX
    by_cases k0 : k = 0
    · rw [if_pos k0, ld345_0 a6, bs, a4 k0, if_pos (rfl : b = b)] at hX
      exact ⟨M2, by rw [← hX]; show some (Sum.inl (Int32.ofNat (6 * j) + 6, M2)) = _; rw [nx], a5⟩
    · rw [if_neg k0] at hX
      exact ⟨M2, by rw [← hX]; show some (Sum.inl (Int32.ofNat (6 * j) + 6, M2)) = _; rw [nx], a5⟩
  rw [if_neg c10] at hX
  by_cases c11 : xs (6 * j) &&& 31 = 11
  · obtain ⟨k, M1, b, M2, a1, a2, a3, a4, a5, a6⟩ := a_flips h hj (xs (6 * j + 1)) (xs (6 * j + 2))
    rw [if_pos c11, s1, s2, bs, bs, a1, bs] at hX
    dsimp only at hX
    rw [bs, bs, a2, bs] at hX
    dsimp only at hX
    rw [m_thrown a6, bs, a3, if_pos (rfl : k = k)] at hX
    by_cases k0 : k = 0
    · rw [if_pos k0, ld345_0 a6, bs, a4 k0, if_pos (rfl : b = b)] at hX
      exact ⟨M2, by rw [← hX]; show some (Sum.inl (Int32.ofNat (6 * j) + 6, M2)) = _; rw [nx], a5⟩
    · rw [if_neg k0] at hX
      exact ⟨M2, by rw [← hX]; show some (Sum.inl (Int32.ofNat (6 * j) + 6, M2)) = _; rw [nx], a5⟩
  rw [if_neg c11] at hX
  by_cases c12 : xs (6 * j) &&& 31 = 12
  · obtain ⟨b, M1, M2, a1, a2, a3, a4⟩ := a_minutes h hj (xs (6 * j + 1))
    rw [if_pos c12, s1, bs, a1, bs] at hX
    dsimp only at hX
    rw [bs, a2, bs] at hX
    dsimp only at hX
    rw [if_pos (rfl : b = b)] at hX
    exact ⟨M2, by rw [← hX]; show some (Sum.inl (Int32.ofNat (6 * j) + 6, M2)) = _; rw [nx], a3⟩
  rw [if_neg c12] at hX
  by_cases c13 : xs (6 * j) &&& 31 = 13
  · obtain ⟨b, M1, M2, a1, a2, a3, a4⟩ := a_load h (xs (6 * j + 1)) (xs (6 * j + 2))
    rw [if_pos c13, s1, s2, bs, bs, a1, bs] at hX
    dsimp only at hX
    rw [bs, bs, a2, bs] at hX
    dsimp only at hX
    rw [if_pos (rfl : b = b)] at hX
    exact ⟨M2, by rw [← hX]; show some (Sum.inl (Int32.ofNat (6 * j) + 6, M2)) = _; rw [nx], a3⟩
  rw [if_neg c13] at hX
  by_cases c14 : xs (6 * j) &&& 31 = 14
  · obtain ⟨b, M1, M2, a1, a2, a3, a4⟩ := a_hold h (xs (6 * j + 1)) (xs (6 * j + 2))
    rw [if_pos c14, s1, s2, bs, bs, a1, bs] at hX
    dsimp only at hX
    rw [bs, bs, a2, bs] at hX
    dsimp only at hX
    rw [if_pos (rfl : b = b)] at hX
    exact ⟨M2, by rw [← hX]; show some (Sum.inl (Int32.ofNat (6 * j) + 6, M2)) = _; rw [nx], a3⟩
  rw [if_neg c14] at hX
  by_cases c15 : xs (6 * j) &&& 31 = 15
  · obtain ⟨b, M1, M2, a1, a2, a3, a4⟩ := a_start h hj (xs (6 * j + 1))
    rw [if_pos c15, s1, bs, a1, bs] at hX
    dsimp only at hX
    rw [bs, a2, bs] at hX
    dsimp only at hX
    rw [if_pos (rfl : b = b)] at hX
    exact ⟨M2, by rw [← hX]; show some (Sum.inl (Int32.ofNat (6 * j) + 6, M2)) = _; rw [nx], a3⟩
  rw [if_neg c15] at hX
  by_cases c16 : xs (6 * j) &&& 31 = 16
  · obtain ⟨b, M1, M2, a1, a2, a3, a4⟩ := a_foresee h (xs (6 * j + 1))
    rw [if_pos c16, s1, bs, a1, bs] at hX
    dsimp only at hX
    rw [bs, a2, bs] at hX
    dsimp only at hX
    rw [if_pos (rfl : b = b)] at hX
    exact ⟨M2, by rw [← hX]; show some (Sum.inl (Int32.ofNat (6 * j) + 6, M2)) = _; rw [nx], a3⟩
  rw [if_neg c16] at hX
  by_cases c17 : xs (6 * j) &&& 31 = 17
  · obtain ⟨b, M1, M2, a1, a2, a3, a4⟩ := a_undo h
    rw [if_pos c17, a1, bs] at hX
    dsimp only at hX
    rw [a2, bs] at hX
    dsimp only at hX
    rw [if_pos (rfl : b = b)] at hX
    exact ⟨M2, by rw [← hX]; show some (Sum.inl (Int32.ofNat (6 * j) + 6, M2)) = _; rw [nx], a3⟩
  rw [if_neg c17] at hX
  by_cases c18 : xs (6 * j) &&& 31 = 18
  · obtain ⟨b, M1, M2, a1, a2, a3, a4⟩ := a_note h (xs (6 * j + 1)) (xs (6 * j + 2)) (xs (6 * j + 3))
    rw [if_pos c18, s1, s2, s3, bs, bs, bs, a1, bs] at hX
    dsimp only at hX
    rw [bs, bs, bs, a2, bs] at hX
    dsimp only at hX
    rw [if_pos (rfl : b = b)] at hX
    exact ⟨M2, by rw [← hX]; show some (Sum.inl (Int32.ofNat (6 * j) + 6, M2)) = _; rw [nx], a3⟩
  rw [if_neg c18] at hX
  by_cases c19 : xs (6 * j) &&& 31 = 19
  · obtain ⟨k, M1, b, M2, a1, a2, a3, a4, a5, a6⟩ := a_fits h hj (xs (6 * j + 1)) (xs (6 * j + 2))
    rw [if_pos c19, s1, s2, bs, bs, a1, bs] at hX
    dsimp only at hX
    rw [bs, bs, a2, bs] at hX
    dsimp only at hX
    rw [m_thrown a6, bs, a3, if_pos (rfl : k = k)] at hX
    by_cases k0 : k = 0
    · rw [if_pos k0, ld345_0 a6, bs, a4 k0, if_pos (rfl : b = b)] at hX
      exact ⟨M2, by rw [← hX]; show some (Sum.inl (Int32.ofNat (6 * j) + 6, M2)) = _; rw [nx], a5⟩
    · rw [if_neg k0] at hX
      exact ⟨M2, by rw [← hX]; show some (Sum.inl (Int32.ofNat (6 * j) + 6, M2)) = _; rw [nx], a5⟩
  rw [if_neg c19] at hX
  by_cases c20 : xs (6 * j) &&& 31 = 20
  · obtain ⟨k, M1, b, M2, a1, a2, a3, a4, a5, a6⟩ := a_look h hj (xs (6 * j + 1)) (xs (6 * j + 2))
    rw [if_pos c20, s1, s2, bs, bs, a1, bs] at hX
    dsimp only at hX
    rw [bs, bs, a2, bs] at hX
    dsimp only at hX
    rw [m_thrown a6, bs, a3, if_pos (rfl : k = k)] at hX
    by_cases k0 : k = 0
    · rw [if_pos k0, ld345_0 a6, bs, a4 k0, if_pos (rfl : b = b)] at hX
      exact ⟨M2, by rw [← hX]; show some (Sum.inl (Int32.ofNat (6 * j) + 6, M2)) = _; rw [nx], a5⟩
    · rw [if_neg k0] at hX
      exact ⟨M2, by rw [← hX]; show some (Sum.inl (Int32.ofNat (6 * j) + 6, M2)) = _; rw [nx], a5⟩
  rw [if_neg c20] at hX
  by_cases c21 : xs (6 * j) &&& 31 = 21
  · obtain ⟨M1, M2, a1, a2, a3, a4⟩ := a_forget h
    rw [if_pos c21, a1, bs, a2, bs] at hX
    exact ⟨M2, by rw [← hX]; show some (Sum.inl (Int32.ofNat (6 * j) + 6, M2)) = _; rw [nx], a3⟩
  rw [if_neg c21] at hX
  by_cases c22 : xs (6 * j) &&& 31 = 22
  · obtain ⟨k, M1, b, M2, a1, a2, a3, a4, a5, a6⟩ := a_years h hj (xs (6 * j + 1)) (xs (6 * j + 2)) (xs (6 * j + 3))
    rw [if_pos c22, s1, s2, s3, bs, bs, bs, a1, bs] at hX
    dsimp only at hX
    rw [bs, bs, bs, a2, bs] at hX
    dsimp only at hX
    rw [m_thrown a6, bs, a3, if_pos (rfl : k = k)] at hX
    by_cases k0 : k = 0
    · rw [if_pos k0, ld345_0 a6, bs, a4 k0, if_pos (rfl : b = b)] at hX
      exact ⟨M2, by rw [← hX]; show some (Sum.inl (Int32.ofNat (6 * j) + 6, M2)) = _; rw [nx], a5⟩
    · rw [if_neg k0] at hX
      exact ⟨M2, by rw [← hX]; show some (Sum.inl (Int32.ofNat (6 * j) + 6, M2)) = _; rw [nx], a5⟩
  rw [if_neg c22] at hX
  by_cases c23 : xs (6 * j) &&& 31 = 23
  · obtain ⟨M1, M2, a1, a2, a3, a4⟩ := a_image h
    rw [if_pos c23, a1, bs, a2, bs] at hX
    exact ⟨M2, by rw [← hX]; show some (Sum.inl (Int32.ofNat (6 * j) + 6, M2)) = _; rw [nx], a3⟩
  rw [if_neg c23] at hX
  by_cases c24 : xs (6 * j) &&& 31 = 24
  · obtain ⟨b, M1, M2, a1, a2, a3, a4⟩ := a_restore h
    rw [if_pos c24, a1, bs] at hX
    dsimp only at hX
    rw [a2, bs] at hX
    dsimp only at hX
    rw [if_pos (rfl : b = b)] at hX
    exact ⟨M2, by rw [← hX]; show some (Sum.inl (Int32.ofNat (6 * j) + 6, M2)) = _; rw [nx], a3⟩
  rw [if_neg c24] at hX
  exact ⟨M, by rw [← hX]; show some (Sum.inl (Int32.ofNat (6 * j) + 6, M)) = _; rw [nx], h.up⟩
theorem law_loop (h : Inv M 0) (hL : L ≤ 3072) : ∃ M', lp (L_law_B23 L xs 64 319 345) FU (0, M) = some (.inl M') ∧ Inv M' (L / 6) := by
  have key : ∃ e, lp (L_law_B23 L xs 64 319 345) FU (0, M) = some e ∧ ∃ M', e = .inl M' ∧ Inv M' (L / 6) := by
    refine lp_inv (fun j (q : Int32 × Gm) => q.1 = Int32.ofNat (6 * j) ∧ Inv q.2 j) _ (L / 6) ?_ ?_ ⟨rfl, h⟩ (by omega)
    · rintro j ⟨x, A⟩ hj ⟨h1, h2⟩
      replace h1 : x = Int32.ofNat (6 * j) := h1
      subst h1
      obtain ⟨M', e1, e2⟩ := law_step (xs := xs) (L := L) h2 (by omega) (by omega) hL
      exact Or.inl ⟨_, e1, rfl, e2⟩
    · rintro ⟨x, A⟩ ⟨h1, h2⟩
      replace h1 : x = Int32.ofNat (6 * (L / 6)) := h1
      subst h1
      refine ⟨.inl A, ?_, A, rfl, h2⟩
      unfold L_law_B23
      dsimp only
      rw [if_pos ?_]
      rw [tI_lt, tI_sub (by rw [tn _ (by omega), show (6 : Int32).toInt = 6 from rfl]; omega) (by rw [tn _ (by omega), show (6 : Int32).toInt = 6 from rfl]; omega), tn _ (by omega), tn _ (by omega), show (6 : Int32).toInt = 6 from rfl]
      omega
  obtain ⟨e, e1, M', e2, e3⟩ := key
  subst e2
  exact ⟨M', e1, e3⟩
end
