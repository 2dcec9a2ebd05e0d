/-! ===== PURE 21: the class's moved ===== -/
theorem c_moved {mk s to : Int32} {M : Gm} (hm : isN mk 0 2) (hs : isN s 0 9) : sh_X1_moved mk s to M = some (moveI mk s to) := by
  obtain ⟨n, e, -, h2⟩ := hm
  have bs' := isN_tI hs (by decide)
  have h1' : (1 : Int32).toInt = 1 := rfl
  have es : (s - 1).toInt = s.toInt - 1 := by rw [tI_sub (by omega) (by omega), h1']
  have hn : n = 0 ∨ n = 1 ∨ n = 2 := by omega
  unfold sh_X1_moved X1_moved_F moveI
  simp only [m_cmp, m_max, Option.bind_some]
  rcases hn with q | q | q <;> subst q <;> rw [e]
  · rw [if_pos (show Int32.ofNat 0 = 0 from rfl), if_neg (by rintro (g | g); exact absurd g (by decide); exact absurd g.1 (by decide))]
    congr 1
    unfold cmpI
    by_cases c1 : s ≤ to
    · rw [if_pos c1]
      by_cases c2 : to = s
      · rw [if_pos c2, if_pos (by rw [c2]; exact Int32.le_refl _), if_pos c1, Int32.add_zero]
      · have c3 : ¬ to ≤ s := fun g => c2 (tI_eq (by rw [tI_le] at c1 g; omega))
        rw [if_neg c2, if_neg c3]
    · have c3 : to ≤ s := by rw [tI_le] at c1 ⊢; omega
      rw [if_neg c1, if_pos c3, if_neg c1, Int32.sub_eq_add_neg]
  · rw [if_neg (show ¬ Int32.ofNat 1 = 0 by decide), if_neg (show ¬ Int32.ofNat 1 = 2 by decide), if_pos (Or.inl (show Int32.ofNat 1 = 1 from rfl))]
  · rw [if_neg (show ¬ Int32.ofNat 2 = 0 by decide), if_pos (show Int32.ofNat 2 = 2 from rfl)]
    by_cases c : to ≤ s
    · rw [if_neg (by rintro (g | g); exact absurd g (by decide); exact g.2 c), if_pos c]
      congr 1
      unfold maxI
      by_cases c1 : s ≤ to
      · rw [if_pos c1]
        have e0 : to = s := tI_eq (by rw [tI_le] at c c1; omega)
        rw [if_neg (by rw [tI_lt, es, e0]; omega), e0]
      · rw [if_neg c1]
        by_cases c2 : to < s - 1
        · rw [if_pos c2]
        · rw [if_neg c2]
          apply tI_eq
          rw [tI_lt] at c2
          rw [tI_le] at c c1
          omega
    · rw [if_pos (Or.inr ⟨show Int32.ofNat 2 = 2 from rfl, c⟩)]
      congr 1
      unfold maxI
      rw [if_neg (by rw [tI_lt, es]; rw [tI_le] at c; omega)]

