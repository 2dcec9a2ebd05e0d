/-! ===== TEXT: the reading begins ===== -/
section
variable {C C' M R R' : Gm} {D P n tl : Nat} {N N' T T' : Nat → Int32} {b : Nat → Int32}
theorem DrV.mix (h : DrV C D N T) (pk : PlK C D) (en : ∀ k, k < 305 → N' k = N k) (et : ∀ k, k < 168 → T' k = T k) : DrV C D N' T' := by
  obtain ⟨hT, ⟨a5, a6, a7, a9, a10, a11⟩, z, c, d', ⟨L, l⟩, f, g⟩ := h
  have t10 := hT.t.2
  have d6 := hT.d.2
  have z5 := hT.z.2
  have w8 := hT.w.2
  have tq : Tq T T' := fun k _ _ h => et k h
  have hT' := hT.q tq (fun y hy => by rw [et y (by omega)]; exact (hT.2.1 y hy).1) (fun y hy => by rw [et (73 + y) (by omega)]; exact (hT.2.2.2.1 y hy).2.2.2)
  unfold DrV
  rw [tq_tz tq, tq_tt tq, tq_td tq, tq_tw tq, et 163 (by omega), et 164 (by omega), et 165 (by omega), et 167 (by omega), en 143 (by omega)]
  refine ⟨hT', ⟨a5, a6, a7, a9, a10, a11⟩, fun y hy => ?_, fun i hi => ?_, fun i hi => ?_, ⟨L, l.q pk rfl rfl (fun _ _ _ => rfl) (fun k _ _ => et k (by omega)) (et 166 (by omega))⟩, fun i hi => ?_, fun k h1 h2 h3 => (en k h1).trans (g k h1 h2 h3)⟩
  · rw [en (5 + y) (by omega), et y (by omega), et (5 + y) (by omega), et (10 + y) (by omega)]; exact z y hy
  · rw [et (15 + i) (by omega), et (25 + i) (by omega), et (35 + i) (by omega), et (45 + i) (by omega)]; exact c i hi
  · rw [et (55 + i) (by omega), et (61 + i) (by omega), et (67 + i) (by omega), et (73 + i) (by omega)]; exact d' i hi
  · rw [et (139 + i) (by omega), et (147 + i) (by omega), et (155 + i) (by omega)]; exact f i hi
/-- nothing is told yet -/
theorem DrV.none (e5 : C.1 D 5 = 0) (e6 : C.1 D 6 = 0) (e7 : C.1 D 7 = 0) (e8 : C.1 D 8 = 0) (e9 : C.1 D 9 = 0) (e10 : C.1 D 10 = 0) (hN : ∀ k, k < 305 → N k = eN k) (hT : ∀ k, k < 168 → T k = 0) : DrV C D N T := by
  have z0 : tz T = 0 := by unfold tz; rw [hT 163 (by omega)]; rfl
  have t0 : tt T = 0 := by unfold tt; rw [hT 164 (by omega)]; rfl
  have d0 : td T = 0 := by unfold td; rw [hT 165 (by omega)]; rfl
  have w0 : tw T = 0 := by unfold tw; rw [hT 167 (by omega)]; rfl
  have wn0 : ∀ t d, t < 10 → d < 6 → wn T t d = 0 := fun t d h1 h2 => by unfold wn; rw [hT _ (by omega)]; rfl
  unfold DrV TOk
  rw [z0, t0, d0, w0, hT 163 (by omega), hT 164 (by omega), hT 165 (by omega), hT 167 (by omega), hN 143 (by omega)]
  refine ⟨⟨⟨⟨rfl, by omega⟩, ⟨rfl, by omega⟩, ⟨rfl, by omega⟩, rfl, by omega⟩, fun _ h => absurd h (Nat.not_lt_zero _), fun _ h => absurd h (Nat.not_lt_zero _), fun _ h => absurd h (Nat.not_lt_zero _), fun t d h1 h2 => ?_, fun _ h => absurd h (Nat.not_lt_zero _), fun _ _ h => absurd h (Nat.not_lt_zero _)⟩, ⟨e5, e6, e7, e9, e10, ⟨0, rfl, by omega, by omega⟩⟩, fun _ h => absurd h (Nat.not_lt_zero _), fun _ h => absurd h (Nat.not_lt_zero _), fun _ h => absurd h (Nat.not_lt_zero _), ⟨[], ⟨e8, hT 166 (by omega), Nat.zero_le _⟩, List.Pairwise.nil, fun q => ?_, fun _ h => absurd h (Nat.not_lt_zero _)⟩, fun _ h => absurd h (Nat.not_lt_zero _), fun k h1 _ _ => hN k h1⟩
  · rw [hT _ (by omega)]
    exact ⟨⟨0, rfl, by omega, by omega⟩, fun q => absurd rfl q⟩
  · constructor
    · intro q; exact absurd q List.not_mem_nil
    · rintro ⟨h1, h2, h3⟩
      exact absurd (wn0 _ _ h1 h2) h3
/-! the reference's rows of a plan with nothing told -/
/-- only row a changed -/
def Fa (a : Nat) (R R' : Gm) : Prop := R'.2 = R.2 ∧ ∀ i, i ≠ a → R'.1 i = R.1 i
theorem m_emp1 (h : Ky R) : ∃ R', lp (X12_empties_B2 326 327) FU (0, R) = some R' ∧ Fa 326 R R' ∧ ∀ k, k < 305 → R'.1 326 k = 0 := by
  refine lp_inv (fun j (q : Int32 × Gm) => q.1 = Int32.ofNat j ∧ Fa 326 R q.2 ∧ ∀ k, k < j → q.2.1 326 k = 0) _ 305 ?_ ?_ ⟨rfl, ⟨rfl, fun _ _ => rfl⟩, fun k hk => absurd hk (Nat.not_lt_zero _)⟩ (by omega)
  · rintro j ⟨x, A⟩ hj ⟨h1, ⟨h2, h2'⟩, h3⟩
    replace h1 : x = Int32.ofNat j := h1
    replace h2 : A.2 = R.2 := h2
    subst h1
    refine Or.inl ⟨(Int32.ofNat (j + 1), sI A 326 j 0), ?_, rfl, ⟨h2, fun i hi => ?_⟩, fun k hk => ?_⟩
    · unfold X12_empties_B2
      dsimp only
      rw [if_neg (fun q => by have := (le_n (a := 305) (by omega) (by omega)).mp q; omega), st326 (h.eq h2) _ hj, bs, pl1]
    · exact (sI_ne _ _ _ hi).trans (h2' i hi)
    · show (sI A 326 j 0).1 326 k = 0
      rw [sI_own]
      by_cases c : k = j
      · rw [c, ud_at]
      · rw [ud_ne _ _ c]; exact h3 k (by omega)
  · rintro ⟨x, A⟩ ⟨h1, h2, h3⟩
    replace h1 : x = Int32.ofNat 305 := h1
    subst h1
    exact ⟨A, rfl, h2, h3⟩
theorem m_emp2 (h : Ky R) : ∃ R', lp (X12_empties_B21 326 327) FU (0, R) = some R' ∧ Fa 327 R R' ∧ ∀ k, k < 168 → R'.1 327 k = 0 := by
  refine lp_inv (fun j (q : Int32 × Gm) => q.1 = Int32.ofNat j ∧ Fa 327 R q.2 ∧ ∀ k, k < j → q.2.1 327 k = 0) _ 168 ?_ ?_ ⟨rfl, ⟨rfl, fun _ _ => rfl⟩, fun k hk => absurd hk (Nat.not_lt_zero _)⟩ (by omega)
  · rintro j ⟨x, A⟩ hj ⟨h1, ⟨h2, h2'⟩, h3⟩
    replace h1 : x = Int32.ofNat j := h1
    replace h2 : A.2 = R.2 := h2
    subst h1
    refine Or.inl ⟨(Int32.ofNat (j + 1), sI A 327 j 0), ?_, rfl, ⟨h2, fun i hi => ?_⟩, fun k hk => ?_⟩
    · unfold X12_empties_B21
      dsimp only
      rw [if_neg (fun q => by have := (le_n (a := 168) (by omega) (by omega)).mp q; omega), st327 (h.eq h2) _ hj, bs, pl1]
    · exact (sI_ne _ _ _ hi).trans (h2' i hi)
    · show (sI A 327 j 0).1 327 k = 0
      rw [sI_own]
      by_cases c : k = j
      · rw [c, ud_at]
      · rw [ud_ne _ _ c]; exact h3 k (by omega)
  · rintro ⟨x, A⟩ ⟨h1, h2, h3⟩
    replace h1 : x = Int32.ofNat 168 := h1
    subst h1
    exact ⟨A, rfl, h2, h3⟩
theorem ix_r (z i : Nat) : (30 + 4 * Int32.ofNat z) + Int32.ofNat i = Int32.ofNat (30 + 4 * z + i) := by
  show (Int32.ofNat 30 + Int32.ofNat 4 * Int32.ofNat z) + Int32.ofNat i = _
  rw [← Int32.ofNat_mul, ad_n, ad_n]
theorem m_emp3 (h : Ky R) {z : Nat} (hz : z < 5) : ∃ R', lp (X12_empties_B64 326 (Int32.ofNat z)) FU (0, R) = some R' ∧ Fa 326 R R' ∧ ∀ k, R'.1 326 k = if 30 + 4 * z ≤ k ∧ k < 34 + 4 * z then 200 else R.1 326 k := by
  refine lp_inv (fun j (q : Int32 × Gm) => q.1 = Int32.ofNat j ∧ Fa 326 R q.2 ∧ ∀ k, q.2.1 326 k = if 30 + 4 * z ≤ k ∧ k < 30 + 4 * z + j then 200 else R.1 326 k) _ 4 ?_ ?_ ⟨rfl, ⟨rfl, fun _ _ => rfl⟩, fun k => by rw [if_neg (by omega)]⟩ (by omega)
  · rintro j ⟨x, A⟩ hj ⟨h1, ⟨h2, h2'⟩, h3⟩
    replace h1 : x = Int32.ofNat j := h1
    replace h2 : A.2 = R.2 := h2
    subst h1
    refine Or.inl ⟨(Int32.ofNat (j + 1), sI A 326 (30 + 4 * z + j) 200), ?_, rfl, ⟨h2, fun i hi => ?_⟩, fun k => ?_⟩
    · unfold X12_empties_B64
      dsimp only
      rw [if_neg (fun q => by have := (le_n (a := 4) (by omega) (by omega)).mp q; omega), ix_r, st326 (h.eq h2) _ (by omega), bs, pl1]
    · exact (sI_ne _ _ _ hi).trans (h2' i hi)
    · show (sI A 326 (30 + 4 * z + j) 200).1 326 k = _
      rw [sI_own]
      by_cases c : k = 30 + 4 * z + j
      · rw [c, ud_at, if_pos (by omega)]
      · rw [ud_ne _ _ c, h3 k]
        by_cases c2 : 30 + 4 * z ≤ k ∧ k < 30 + 4 * z + j
        · rw [if_pos c2, if_pos (by omega)]
        · rw [if_neg c2, if_neg (by omega)]
  · rintro ⟨x, A⟩ ⟨h1, h2, h3⟩
    replace h1 : x = Int32.ofNat 4 := h1
    subst h1
    refine ⟨A, rfl, h2, fun k => ?_⟩
    have := h3 k
    by_cases c2 : 30 + 4 * z ≤ k ∧ k < 30 + 4 * z + 4
    · rw [if_pos (by omega)]; rw [if_pos c2] at this; exact this
    · rw [if_neg (by omega)]; rw [if_neg c2] at this; exact this
theorem m_emp4 (h : Ky R) : ∃ R', lp (X12_empties_B40 326) FU (0, R) = some R' ∧ Fa 326 R R' ∧ ∀ k, R'.1 326 k = if k < 5 ∨ (20 ≤ k ∧ k < 25) ∨ (30 ≤ k ∧ k < 50) then 200 else R.1 326 k := by
  refine lp_inv (fun j (q : Int32 × Gm) => q.1 = Int32.ofNat j ∧ Fa 326 R q.2 ∧ ∀ k, q.2.1 326 k = if k < j ∨ (20 ≤ k ∧ k < 20 + j) ∨ (30 ≤ k ∧ k < 30 + 4 * j) then 200 else R.1 326 k) _ 5 ?_ ?_ ⟨rfl, ⟨rfl, fun _ _ => rfl⟩, fun k => by rw [if_neg (by omega)]⟩ (by omega)
  · rintro j ⟨x, A⟩ hj ⟨h1, ⟨h2, h2'⟩, h3⟩
    replace h1 : x = Int32.ofNat j := h1
    replace h2 : A.2 = R.2 := h2
    subst h1
    have kA := h.eq h2
    obtain ⟨B, b1, ⟨b2, b2'⟩, b3⟩ := m_emp3 ((kA.sI 326 (0 + j) 200).sI 326 (20 + j) 200) hj
    refine Or.inl ⟨(Int32.ofNat (j + 1), B), ?_, rfl, ⟨b2.trans h2, fun i hi => ?_⟩, fun k => ?_⟩
    · unfold X12_empties_B40
      dsimp only
      rw [if_neg (fun q => by have := (le_n (a := 5) (by omega) (by omega)).mp q; omega)]
      show ((stA A 0 326 (Int32.ofNat 0 + Int32.ofNat j) 200).bind _) = _
      rw [st326_c kA _ (by omega), bs]
      show ((stA _ 0 326 (Int32.ofNat 20 + Int32.ofNat j) 200).bind _) = _
      rw [st326_c (kA.sI _ _ _) _ (by omega), bs, b1, bs, pl1]
    · exact (b2' i hi).trans ((sI_ne _ _ _ hi).trans ((sI_ne _ _ _ hi).trans (h2' i hi)))
    · show B.1 326 k = _
      rw [b3 k, sI_own, sI_own]
      by_cases c1 : 30 + 4 * j ≤ k ∧ k < 34 + 4 * j
      · rw [if_pos c1, if_pos (by omega)]
      · rw [if_neg c1]
        by_cases c2 : k = 20 + j
        · rw [c2, ud_at, if_pos (by omega)]
        · rw [ud_ne _ _ c2]
          by_cases c3 : k = 0 + j
          · rw [c3, ud_at, if_pos (by omega)]
          · rw [ud_ne _ _ c3, h3 k]
            by_cases c4 : k < j ∨ (20 ≤ k ∧ k < 20 + j) ∨ (30 ≤ k ∧ k < 30 + 4 * j)
            · rw [if_pos c4, if_pos (by omega)]
            · rw [if_neg c4, if_neg (by omega)]
  · rintro ⟨x, A⟩ ⟨h1, h2, h3⟩
    replace h1 : x = Int32.ofNat 5 := h1
    subst h1
    refine ⟨A, rfl, h2, fun k => ?_⟩
    have := h3 k
    by_cases c2 : k < 5 ∨ (20 ≤ k ∧ k < 25) ∨ (30 ≤ k ∧ k < 50)
    · rw [if_pos c2]; rw [if_pos (by omega)] at this; exact this
    · rw [if_neg c2]; rw [if_neg (by omega)] at this; exact this
theorem m_emp5 (h : Ky R) : ∃ R', lp (X12_empties_B96 326) FU (0, R) = some R' ∧ Fa 326 R R' ∧ ∀ k, R'.1 326 k = if 76 ≤ k ∧ k < 82 then -1 else R.1 326 k := by
  refine lp_inv (fun j (q : Int32 × Gm) => q.1 = Int32.ofNat j ∧ Fa 326 R q.2 ∧ ∀ k, q.2.1 326 k = if 76 ≤ k ∧ k < 76 + j then -1 else R.1 326 k) _ 6 ?_ ?_ ⟨rfl, ⟨rfl, fun _ _ => rfl⟩, fun k => by rw [if_neg (by omega)]⟩ (by omega)
  · rintro j ⟨x, A⟩ hj ⟨h1, ⟨h2, h2'⟩, h3⟩
    replace h1 : x = Int32.ofNat j := h1
    replace h2 : A.2 = R.2 := h2
    subst h1
    refine Or.inl ⟨(Int32.ofNat (j + 1), sI A 326 (76 + j) (-1)), ?_, rfl, ⟨h2, fun i hi => ?_⟩, fun k => ?_⟩
    · unfold X12_empties_B96
      dsimp only
      rw [if_neg (fun q => by have := (le_n (a := 6) (by omega) (by omega)).mp q; omega)]
      show ((stA A 0 326 (Int32.ofNat 76 + Int32.ofNat j) (-1)).bind _) = _
      rw [st326_c (h.eq h2) _ (by omega), bs, pl1]
    · exact (sI_ne _ _ _ hi).trans (h2' i hi)
    · show (sI A 326 (76 + j) (-1)).1 326 k = _
      rw [sI_own]
      by_cases c : k = 76 + j
      · rw [c, ud_at, if_pos (by omega)]
      · rw [ud_ne _ _ c, h3 k]
        by_cases c2 : 76 ≤ k ∧ k < 76 + j
        · rw [if_pos c2, if_pos (by omega)]
        · rw [if_neg c2, if_neg (by omega)]
  · rintro ⟨x, A⟩ ⟨h1, h2, h3⟩
    replace h1 : x = Int32.ofNat 6 := h1
    subst h1
    exact ⟨A, rfl, h2, h3⟩
theorem m_empties (h : Ky R) : ∃ R', sh_X12_empties 326 327 R = some R' ∧ R'.2 = R.2 ∧ (∀ a, a ≠ 326 → a ≠ 327 → R'.1 a = R.1 a) ∧ (∀ k, k < 305 → R'.1 326 k = eN k) ∧ ∀ k, k < 168 → R'.1 327 k = 0 := by
  obtain ⟨A, a1, ⟨a2, a3⟩, a4⟩ := m_emp1 h
  have kA := h.eq a2
  obtain ⟨B, b1, ⟨b2, b3⟩, b4⟩ := m_emp2 kA
  have kB := kA.eq b2
  obtain ⟨C, c1, ⟨c2, c3⟩, c4⟩ := m_emp4 kB
  have kC := kB.eq c2
  obtain ⟨E, e1, ⟨e2, e3⟩, e4⟩ := m_emp5 kC
  refine ⟨E, ?_, ?_, fun a h1 h2 => ?_, fun k hk => ?_, fun k hk => ?_⟩
  · unfold sh_X12_empties X12_empties_F
    rw [a1, bs, b1, bs, c1, bs, e1, bs]
  · rw [e2, c2, b2, a2]
  · rw [e3 a h1, c3 a h1, b3 a h2, a3 a h1]
  · unfold eN
    rw [e4 k, c4 k, b3 326 (by decide), a4 k hk]
    by_cases q1 : k < 5 ∨ (20 ≤ k ∧ k < 25) ∨ (30 ≤ k ∧ k < 50)
    · rw [if_pos q1, if_pos q1, if_neg (by omega)]
    · rw [if_neg q1, if_neg q1]
  · rw [e3 327 (by decide), c3 327 (by decide)]; exact b4 k hk
/-- the reference, up to its first CLAUSE -/
theorem m_plan0 (h : Ky R) (h11 : R.1 319 11 = Int32.ofNat tl) (hn : n ≤ tl) (h7 : tl ≤ 700) (hb : BtN (R.1 329) n) : ∃ R7, sh_X12_plan 319 (Int32.ofNat n) R = (lp (X12_plan_B68 319) FU R7).bind (fun r => X12_plan_J89 319 r) ∧ R7.2 = R.2 ∧ (∀ a, a ∉ [319, 326, 327] → R7.1 a = R.1 a) ∧ (∀ k, k < 305 → R7.1 326 k = eN k) ∧ (∀ k, k < 168 → R7.1 327 k = 0) ∧ (∀ k, (k < 11 ∧ k ≠ 4) ∨ 21 < k → R7.1 319 k = R.1 319 k) ∧ (R7.1 319 4 = 0 ∧ R7.1 319 11 = 0 ∧ R7.1 319 13 = Int32.ofNat n ∧ R7.1 319 18 = 0 ∧ R7.1 319 20 = -1 ∧ R7.1 319 21 = 0) ∧ RT R7 (R.1 329) n 0 := by
  have k1 := h.sI 319 4 0
  have k2 := k1.sI 319 11 0
  have k3 := k2.sI 319 13 (Int32.ofNat n)
  have k4 := k3.sI 319 12 0
  have k5 := k4.sI 319 18 0
  have k6 := k5.sI 319 20 (-1)
  have k7 := k6.sI 319 21 0
  have row : (sI (sI (sI (sI (sI (sI (sI R 319 4 0) 319 11 0) 319 13 (Int32.ofNat n)) 319 12 0) 319 18 0) 319 20 (-1)) 319 21 0).1 319 = ud (ud (ud (ud (ud (ud (ud (R.1 319) 4 0) 11 0) 13 (Int32.ofNat n)) 12 0) 18 0) 20 (-1)) 21 0 := by
    rw [sI_own, sI_own, sI_own, sI_own, sI_own, sI_own, sI_own]
  have oth : ∀ a, a ≠ 319 → (sI (sI (sI (sI (sI (sI (sI R 319 4 0) 319 11 0) 319 13 (Int32.ofNat n)) 319 12 0) 319 18 0) 319 20 (-1)) 319 21 0).1 a = R.1 a := fun a ha => by
    rw [sI_ne _ _ _ ha, sI_ne _ _ _ ha, sI_ne _ _ _ ha, sI_ne _ _ _ ha, sI_ne _ _ _ ha, sI_ne _ _ _ ha, sI_ne _ _ _ ha]
  have un : sh_X12_plan 319 (Int32.ofNat n) R = (sh_X12_empties 326 327 (sI (sI (sI (sI (sI (sI (sI R 319 4 0) 319 11 0) 319 13 (Int32.ofNat n)) 319 12 0) 319 18 0) 319 20 (-1)) 319 21 0)).bind fun q21 => (sh_X12_stepOn 319 q21).bind fun q23 => (lp (X12_plan_B68 319) FU q23).bind fun r25 => X12_plan_J89 319 r25 := by
    unfold sh_X12_plan X12_plan_F
    rw [m_O h, bs, m_P h, bs, if_neg (show ¬ Int32.ofNat n < 0 from fun q => by have := (lt_n (b := 0) (by omega) (by omega)).mp q; omega), m_I k1, bs, sI_own, ud_ne _ _ (by decide), h11, if_pos ((le_n (by omega) (by omega)).mpr hn), m_P k1, bs, m_P k2, bs, m_P k3, bs, m_P k4, bs, m_P k5, bs, m_Z k6 _ _ (Or.inl rfl), bs, m_reading k7, bs, m_readTold k7, bs]
  have eA2 : (sI (sI (sI (sI (sI (sI (sI R 319 4 0) 319 11 0) 319 13 (Int32.ofNat n)) 319 12 0) 319 18 0) 319 20 (-1)) 319 21 0).2 = R.2 := rfl
  generalize sI (sI (sI (sI (sI (sI (sI R 319 4 0) 319 11 0) 319 13 (Int32.ofNat n)) 319 12 0) 319 18 0) 319 20 (-1)) 319 21 0 = A at k7 row oth un eA2
  obtain ⟨B, b1, b2, b3, b4, b5⟩ := m_empties k7
  have kB := k7.eq b2
  have rB : B.1 319 = A.1 319 := b3 319 (by decide) (by decide)
  have eb : B.1 329 = R.1 329 := (b3 329 (by decide) (by decide)).trans (oth 329 (by decide))
  obtain ⟨R7, c1, c2, c3, c4⟩ := m_step (n := n) (p := 0) kB eb hb (by rw [rB, row, ud_ne _ _ (by decide), ud_ne _ _ (by decide), ud_ne _ _ (by decide), ud_ne _ _ (by decide), ud_at]) (by rw [rB, row, ud_ne _ _ (by decide), ud_ne _ _ (by decide), ud_ne _ _ (by decide), ud_at]; rfl) (Nat.zero_le _)
  have o7 : ∀ a, a ≠ 319 → R7.1 a = B.1 a := fun a ha => c2.2 a (by simp only [List.mem_singleton]; exact ha)
  refine ⟨R7, ?_, ?_, fun a ha => ?_, fun k hk => ?_, fun k hk => ?_, fun k hk => ?_, ⟨?_, ?_, ?_, ?_, ?_, ?_⟩, c4⟩
  · rw [un, b1, bs, c1, bs]
  · rw [c2.1, b2, eA2]
  · simp only [List.mem_cons, List.not_mem_nil, or_false] at ha
    rw [o7 a (by omega), b3 a (by omega) (by omega), oth a (by omega)]
  · rw [o7 326 (by decide)]; exact b4 k hk
  · rw [o7 327 (by decide)]; exact b5 k hk
  · rw [c3 k (by omega), rB, row, ud_ne _ _ (by omega), ud_ne _ _ (by omega), ud_ne _ _ (by omega), ud_ne _ _ (by omega), ud_ne _ _ (by omega), ud_ne _ _ (by omega), ud_ne _ _ (by omega)]
  · rw [c3 4 (by omega), rB, row, ud_ne _ _ (by decide), ud_ne _ _ (by decide), ud_ne _ _ (by decide), ud_ne _ _ (by decide), ud_ne _ _ (by decide), ud_ne _ _ (by decide), ud_at]
  · rw [c3 11 (by omega), rB, row, ud_ne _ _ (by decide), ud_ne _ _ (by decide), ud_ne _ _ (by decide), ud_ne _ _ (by decide), ud_ne _ _ (by decide), ud_at]
  · exact c4.1
  · rw [c3 18 (by omega), rB, row, ud_ne _ _ (by decide), ud_ne _ _ (by decide), ud_at]
  · rw [c3 20 (by omega), rB, row, ud_ne _ _ (by decide), ud_at]
  · rw [c3 21 (by omega), rB, row, ud_at]
/-- the class, up to its first CLAUSE -/
theorem c_text0 (h : Ky M) (r : RdK M) (pk : PlK M D) (hD : POk D) (tx : Tx M b n) : ∃ C0, sh_X6_readText 66 (Int32.ofNat n) D M = (lp (X6_readText_B34 66 D) FU (0, C0)).bind (fun r => X6_readText_J71 66 D r) ∧ C0.2 = M.2 ∧ (∀ a, a ≠ 66 → a ≠ D → C0.1 a = M.1 a) ∧ C0.1 66 1 = Int32.ofNat n ∧ C0.1 66 5 = 0 ∧ Cz C0 b n 0 ∧ (C0.1 D 5 = 0 ∧ C0.1 D 6 = 0 ∧ C0.1 D 7 = 0 ∧ C0.1 D 8 = 0 ∧ C0.1 D 9 = 0 ∧ C0.1 D 10 = 0 ∧ C0.1 D 11 = 0) := by
  have hn7 := tx.1
  have hD' := hD
  unfold POk at hD'
  have k1 := h.sI 66 1 (Int32.ofNat n)
  have k2 := k1.sI 66 2 0
  have k3 := k2.sI 66 5 0
  have pD : ∀ {X : Gm}, X.2 = M.2 → PlK X D := fun e => pk.eq e
  have w0 : sh_X11_within (Int32.ofNat n) 0 (Int32.ofNat 700) M = some (Int32.ofNat n) := by
    rw [c_within (by decide)]
    unfold heldI
    rw [if_pos (show (0 : Int32) ≤ Int32.ofNat n from (le_n (a := 0) (b := n) (by omega) (by omega)).mpr (Nat.zero_le _)), if_pos ((le_n (by omega) (by omega)).mpr hn7)]
  generalize hX : sI (sI (sI M 66 1 (Int32.ofNat n)) 66 2 0) 66 5 0 = X at k3
  have eX : X.2 = M.2 := by rw [← hX]; rfl
  have rX : X.1 66 = ud (ud (ud (M.1 66) 1 (Int32.ofNat n)) 2 0) 5 0 := by rw [← hX, sI_own, sI_own, sI_own]
  have oX : ∀ a, a ≠ 66 → X.1 a = M.1 a := fun a ha => by rw [← hX, sI_ne _ _ _ ha, sI_ne _ _ _ ha, sI_ne _ _ _ ha]
  have pX := pD eX
  obtain ⟨Y, y1, y2, y3, y4⟩ : ∃ Y, sh_X5_clear D X = some Y ∧ Y.2 = X.2 ∧ (∀ a, a ≠ D → Y.1 a = X.1 a) ∧ (Y.1 D 5 = 0 ∧ Y.1 D 6 = 0 ∧ Y.1 D 7 = 0 ∧ Y.1 D 8 = 0 ∧ Y.1 D 9 = 0 ∧ Y.1 D 10 = 0 ∧ Y.1 D 11 = 0) := by
    refine ⟨sI (sI (sI (sI (sI (sI (sI X D 5 0) D 6 0) D 7 0) D 8 0) D 9 0) D 10 0) D 11 0, ?_, rfl, fun a ha => by rw [sI_ne _ _ _ ha, sI_ne _ _ _ ha, sI_ne _ _ _ ha, sI_ne _ _ _ ha, sI_ne _ _ _ ha, sI_ne _ _ _ ha, sI_ne _ _ _ ha], ?_⟩
    · unfold sh_X5_clear X5_clear_F
      rw [p_O pX, bs, pg_P pX, bs, pg_P (pX.sI _ _ _), bs, pg_P ((pX.sI _ _ _).sI _ _ _), bs, pg_P (((pX.sI _ _ _).sI _ _ _).sI _ _ _), bs, pg_P ((((pX.sI _ _ _).sI _ _ _).sI _ _ _).sI _ _ _), bs, pg_P (((((pX.sI _ _ _).sI _ _ _).sI _ _ _).sI _ _ _).sI _ _ _), bs, p_Z 11 0 (((((((pX.sI _ _ _).sI _ _ _).sI _ _ _).sI _ _ _).sI _ _ _).sI _ _ _).1) (Or.inl rfl), bs]
    · rw [sI_own, sI_own, sI_own, sI_own, sI_own, sI_own, sI_own]
      refine ⟨?_, ?_, ?_, ?_, ?_, ?_, ?_⟩
      · rw [ud_ne _ _ (by decide), ud_ne _ _ (by decide), ud_ne _ _ (by decide), ud_ne _ _ (by decide), ud_ne _ _ (by decide), ud_ne _ _ (by decide), ud_at]
      · rw [ud_ne _ _ (by decide), ud_ne _ _ (by decide), ud_ne _ _ (by decide), ud_ne _ _ (by decide), ud_ne _ _ (by decide), ud_at]
      · rw [ud_ne _ _ (by decide), ud_ne _ _ (by decide), ud_ne _ _ (by decide), ud_ne _ _ (by decide), ud_at]
      · rw [ud_ne _ _ (by decide), ud_ne _ _ (by decide), ud_ne _ _ (by decide), ud_at]
      · rw [ud_ne _ _ (by decide), ud_ne _ _ (by decide), ud_at]
      · rw [ud_ne _ _ (by decide), ud_at]
      · rw [ud_at]
  have kY := k3.eq y2
  have r66 : Y.1 66 = X.1 66 := y3 66 (by omega)
  obtain ⟨C0, c1, c2, ⟨⟨c3, c4, c5, c6⟩, c7, c8, c9⟩⟩ := c_next (b := b) (n := n) (p := 0) kY (by unfold RdK at *; rw [y2, eX]; exact r) ⟨hn7, fun i hi => by rw [y3 65 (by omega), oX 65 (by omega)]; exact tx.2 i hi⟩ ⟨by rw [r66, rX, ud_ne _ _ (by decide), ud_ne _ _ (by decide), ud_at], by rw [r66, rX, ud_ne _ _ (by decide), ud_at]; rfl, by rw [r66, rX, ud_at], Nat.zero_le _⟩
  have o0 : ∀ a, a ≠ 66 → C0.1 a = Y.1 a := fun a ha => c2.2 a (by simp only [List.mem_singleton]; exact ha)
  refine ⟨C0, ?_, ?_, fun a h1 h2 => by rw [o0 a h1, y3 a h2, oX a h1], c3, c5, ⟨c4, c7, c8, c9⟩, by rw [o0 D (by omega)]; exact y4⟩
  · unfold sh_X6_readText X6_readText_F
    rw [rd_O h, bs, rd_R h r, bs, al65 h, bs, w0, bs, rd_P h, bs, rd_P k1, bs, rd_P k2, bs, hX, y1, bs, c1, bs]
  · rw [c2.1, y2, eX]
/-- both stand at the first TOKEN -/
theorem Lk.start (hM : Ky M) (r : RdK M) (tx : Tx M b n) (pk : PlK M D) (ds : DsK M.2.1) (hD : POk D) (hR : Ky R) (wk : WkK R.2.1) (eb : R.1 329 = b) (e0 : C.2 = M.2) (o0 : ∀ a, a ≠ 66 → a ≠ D → C.1 a = M.1 a) (c1 : C.1 66 1 = Int32.ofNat n) (c5 : C.1 66 5 = 0) (cz : Cz C b n 0) (cd : C.1 D 5 = 0 ∧ C.1 D 6 = 0 ∧ C.1 D 7 = 0 ∧ C.1 D 8 = 0 ∧ C.1 D 9 = 0 ∧ C.1 D 10 = 0 ∧ C.1 D 11 = 0)
    (r2 : R'.2 = R.2) (rr : ∀ a, a ∉ [319, 326, 327] → R'.1 a = R.1 a) (r326 : ∀ k, k < 305 → R'.1 326 k = eN k) (r327 : ∀ k, k < 168 → R'.1 327 k = 0) (r18 : R'.1 319 18 = 0) (r21 : R'.1 319 21 = 0) (rt : RT R' b n 0) : Lk C R' b n D 0 := by
  unfold POk at hD
  obtain ⟨d5, d6, d7, d8, d9, d10, d11⟩ := cd
  refine ⟨⟨⟨hM.eq e0, by unfold RdK at *; rw [e0]; exact r, ⟨tx.1, fun i hi => by rw [o0 65 (by omega) (by omega)]; exact tx.2 i hi⟩, c1⟩, hR.eq r2, by rw [r2]; exact wk, (rr 329 (by decide)).trans eb, rt.1⟩, ⟨cz, rt, by rw [r18, c5], fun q => absurd c5 q⟩, ⟨pk.eq e0, by rw [e0]; exact ds⟩, fun _ => ⟨DrV.none d5 d6 d7 d8 d9 d10 r326 r327, by rw [r21, d11]⟩, Or.inl r21, 0, 0, by omega, by omega, d6, d8⟩
end
