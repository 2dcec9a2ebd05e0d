/-! ===== BEGIN: a State at a new plan ===== -/
section
variable {M M' : Gm} {S P P0 a n z d : Nat} {N T : Nat → Int32}
theorem c_fill (ha : kd M a = (32, n)) (hn : n < 20000) (x : Int32) : sh_J7_fill_53178 a x M = some (wR M a (mixR n (fun _ => x) (M.1 a))) := by
  have key : lp (J7_fill_53178_B5 a x (Int32.ofNat n)) FU (0, M) = some (wR M a (mixR n (fun _ => x) (M.1 a))) := by
    have h0 : (0, M) = (fun j => (Int32.ofNat j, wR M a (mixR j (fun _ => x) (M.1 a)))) 0 := by
      show _ = (Int32.ofNat 0, wR M a (mixR 0 (fun _ => x) (M.1 a)))
      rw [show mixR 0 (fun _ => x) (M.1 a) = M.1 a from funext fun k => mixR_ge (Nat.zero_le k), wR_self]
      rfl
    rw [h0]
    refine lp_for (fun j => (Int32.ofNat j, wR M a (mixR j (fun _ => x) (M.1 a)))) _ n (fun j hj => ?_) ?_ hn
    · unfold J7_fill_53178_B5
      have e3 : stA (wR M a (mixR j (fun _ => x) (M.1 a))) 0 a (Int32.ofNat j) x = some (sI (wR M a (mixR j (fun _ => x) (M.1 a))) a j x) := s_A x ha hj (by omega)
      simp (disch := omega) only [e3, Option.bind_some, le_n, suc_n]
      rw [if_neg (by omega), sI_wR, wR_own, wR_wR]
      congr 4
      funext k
      unfold ud mixR
      by_cases c : k = j
      · rw [if_pos c, if_pos (by omega)]
      · rw [if_neg c]
        by_cases c2 : k < j
        · rw [if_pos c2, if_pos (by omega)]
        · rw [if_neg c2, if_neg (by omega)]
    · unfold J7_fill_53178_B5
      simp (disch := omega) only [le_n]
      rw [if_pos (Nat.le_refl _)]
  unfold sh_J7_fill_53178 J7_fill_53178_F
  rw [a_len (t := 0) ha (by omega), bs, key, bs]
theorem c_beg1 (hS : StK M S P0) (pk : PlK M P) (hd : S + 14 < P ∨ P + 94 < S) (hz : z ≤ 5) (e5 : M.1 P 5 = Int32.ofNat z) : ∃ M', lp (X7_begin_B20 S P) FU (0, M) = some M' ∧ M'.2 = M.2 ∧ (∀ a, (a ≤ S ∨ S + 6 < a) → M'.1 a = M.1 a) ∧ ∀ i, i < z → M'.1 (S + 1) i = 200 ∧ M'.1 (S + 2) i = M.1 (P + 6 + i) 0 ∧ M'.1 (S + 3) i = M.1 (P + 6 + i) 1 ∧ M'.1 (S + 4) i = 200 ∧ M'.1 (S + 5) i = 0 ∧ M'.1 (S + 6) i = 0 := by
  refine lp_inv (fun j (q : Int32 × Gm) => q.1 = Int32.ofNat j ∧ q.2.2 = M.2 ∧ (∀ a, (a ≤ S ∨ S + 6 < a) → q.2.1 a = M.1 a) ∧ ∀ i, i < j → q.2.1 (S + 1) i = 200 ∧ q.2.1 (S + 2) i = M.1 (P + 6 + i) 0 ∧ q.2.1 (S + 3) i = M.1 (P + 6 + i) 1 ∧ q.2.1 (S + 4) i = 200 ∧ q.2.1 (S + 5) i = 0 ∧ q.2.1 (S + 6) i = 0) _ z ?_ ?_ ⟨rfl, rfl, fun _ _ => rfl, fun i h => absurd h (Nat.not_lt_zero _)⟩ (by omega)
  · rintro j ⟨x, A⟩ hj ⟨h1, h2, h3, h4⟩
    replace h1 : x = Int32.ofNat j := h1
    replace h2 : A.2 = M.2 := h2
    replace h3 : ∀ a, (a ≤ S ∨ S + 6 < a) → A.1 a = M.1 a := h3
    subst h1
    have sA := hS.eq h2
    have pA := pk.eq h2
    have s1 := sA.sI (S + 1) j 200
    have s2 := s1.sI (S + 4) j 200
    have s3 := s2.sI (S + 5) j 0
    have s4 := s3.sI (S + 6) j 0
    have p4 : PlK (sI (sI (sI (sI A (S + 1) j 200) (S + 4) j 200) (S + 5) j 0) (S + 6) j 0) P := pA
    have zr : (sI (sI (sI (sI A (S + 1) j 200) (S + 4) j 200) (S + 5) j 0) (S + 6) j 0).1 (P + 6 + j) = M.1 (P + 6 + j) := by
      rw [sI_ne _ _ _ (by omega), sI_ne _ _ _ (by omega), sI_ne _ _ _ (by omega), sI_ne _ _ _ (by omega), h3 _ (by omega)]
    have s5 := s4.sI (S + 2) j (M.1 (P + 6 + j) 0)
    have p5 : PlK (sI (sI (sI (sI (sI A (S + 1) j 200) (S + 4) j 200) (S + 5) j 0) (S + 6) j 0) (S + 2) j (M.1 (P + 6 + j) 0)) P := pA
    have zr5 : (sI (sI (sI (sI (sI A (S + 1) j 200) (S + 4) j 200) (S + 5) j 0) (S + 6) j 0) (S + 2) j (M.1 (P + 6 + j) 0)).1 (P + 6 + j) = M.1 (P + 6 + j) := by rw [sI_ne _ _ _ (by omega), zr]
    refine Or.inl ⟨(Int32.ofNat (j + 1), sI (sI (sI (sI (sI (sI A (S + 1) j 200) (S + 4) j 200) (S + 5) j 0) (S + 6) j 0) (S + 2) j (M.1 (P + 6 + j) 0)) (S + 3) j (M.1 (P + 6 + j) 1)), ?_, rfl, h2, fun a ha => ?_, fun i hi => ?_⟩
    · unfold X7_begin_B20
      dsimp only
      rw [pg_I pA, bs, h3 P (by omega), e5, if_neg (fun q => by have := (le_n (by omega) (by omega)).mp q; omega), s_heat sA, bs, ss1 sA _ (by omega), bs, s_temp s1, bs, ss4 s1 _ (by omega), bs, s_slope s2, bs, ss5 s2 _ (by omega), bs, s_why s3, bs, ss6 s3 _ (by omega), bs, s_load s4, bs, p_zones p4, bs, p_zone p4 (by omega), bs, pz_I p4 (by omega), bs, zr, ss2 s4 _ (by omega), bs, s_leak s5, bs, p_zones p5, bs, p_zone p5 (by omega), bs, pz_I p5 (by omega), bs, zr5, ss3 s5 _ (by omega), bs, pl1]
    · show (sI (sI (sI (sI (sI (sI A (S + 1) j 200) (S + 4) j 200) (S + 5) j 0) (S + 6) j 0) (S + 2) j (M.1 (P + 6 + j) 0)) (S + 3) j (M.1 (P + 6 + j) 1)).1 a = _
      rw [sI_ne _ _ _ (by omega), sI_ne _ _ _ (by omega), sI_ne _ _ _ (by omega), sI_ne _ _ _ (by omega), sI_ne _ _ _ (by omega), sI_ne _ _ _ (by omega), h3 a ha]
    · have r1 : (sI (sI (sI (sI (sI (sI A (S + 1) j 200) (S + 4) j 200) (S + 5) j 0) (S + 6) j 0) (S + 2) j (M.1 (P + 6 + j) 0)) (S + 3) j (M.1 (P + 6 + j) 1)).1 (S + 1) = ud (A.1 (S + 1)) j 200 := by
        rw [sI_ne _ _ _ (by omega), sI_ne _ _ _ (by omega), sI_ne _ _ _ (by omega), sI_ne _ _ _ (by omega), sI_ne _ _ _ (by omega), sI_own]
      have r4 : (sI (sI (sI (sI (sI (sI A (S + 1) j 200) (S + 4) j 200) (S + 5) j 0) (S + 6) j 0) (S + 2) j (M.1 (P + 6 + j) 0)) (S + 3) j (M.1 (P + 6 + j) 1)).1 (S + 4) = ud (A.1 (S + 4)) j 200 := by
        rw [sI_ne _ _ _ (by omega), sI_ne _ _ _ (by omega), sI_ne _ _ _ (by omega), sI_ne _ _ _ (by omega), sI_own, sI_ne _ _ _ (by omega)]
      have r5 : (sI (sI (sI (sI (sI (sI A (S + 1) j 200) (S + 4) j 200) (S + 5) j 0) (S + 6) j 0) (S + 2) j (M.1 (P + 6 + j) 0)) (S + 3) j (M.1 (P + 6 + j) 1)).1 (S + 5) = ud (A.1 (S + 5)) j 0 := by
        rw [sI_ne _ _ _ (by omega), sI_ne _ _ _ (by omega), sI_ne _ _ _ (by omega), sI_own, sI_ne _ _ _ (by omega), sI_ne _ _ _ (by omega)]
      have r6 : (sI (sI (sI (sI (sI (sI A (S + 1) j 200) (S + 4) j 200) (S + 5) j 0) (S + 6) j 0) (S + 2) j (M.1 (P + 6 + j) 0)) (S + 3) j (M.1 (P + 6 + j) 1)).1 (S + 6) = ud (A.1 (S + 6)) j 0 := by
        rw [sI_ne _ _ _ (by omega), sI_ne _ _ _ (by omega), sI_own, sI_ne _ _ _ (by omega), sI_ne _ _ _ (by omega), sI_ne _ _ _ (by omega)]
      have r2 : (sI (sI (sI (sI (sI (sI A (S + 1) j 200) (S + 4) j 200) (S + 5) j 0) (S + 6) j 0) (S + 2) j (M.1 (P + 6 + j) 0)) (S + 3) j (M.1 (P + 6 + j) 1)).1 (S + 2) = ud (A.1 (S + 2)) j (M.1 (P + 6 + j) 0) := by
        rw [sI_ne _ _ _ (by omega), sI_own, sI_ne _ _ _ (by omega), sI_ne _ _ _ (by omega), sI_ne _ _ _ (by omega), sI_ne _ _ _ (by omega)]
      have r3 : (sI (sI (sI (sI (sI (sI A (S + 1) j 200) (S + 4) j 200) (S + 5) j 0) (S + 6) j 0) (S + 2) j (M.1 (P + 6 + j) 0)) (S + 3) j (M.1 (P + 6 + j) 1)).1 (S + 3) = ud (A.1 (S + 3)) j (M.1 (P + 6 + j) 1) := by
        rw [sI_own, sI_ne _ _ _ (by omega), sI_ne _ _ _ (by omega), sI_ne _ _ _ (by omega), sI_ne _ _ _ (by omega), sI_ne _ _ _ (by omega)]
      show _ ∧ _ ∧ _ ∧ _ ∧ _ ∧ _
      dsimp only
      rw [r1, r2, r3, r4, r5, r6]
      by_cases c : i = j
      · subst c
        rw [ud_at, ud_at, ud_at, ud_at, ud_at, ud_at]
        exact ⟨rfl, rfl, rfl, rfl, rfl, rfl⟩
      · rw [ud_ne _ _ c, ud_ne _ _ c, ud_ne _ _ c, ud_ne _ _ c, ud_ne _ _ c, ud_ne _ _ c]
        exact h4 i (by omega)
  · rintro ⟨x, A⟩ ⟨h1, h2, h3, h4⟩
    replace h1 : x = Int32.ofNat z := h1
    replace h2 : A.2 = M.2 := h2
    replace h3 : ∀ a, (a ≤ S ∨ S + 6 < a) → A.1 a = M.1 a := h3
    subst h1
    refine ⟨A, ?_, h2, h3, h4⟩
    unfold X7_begin_B20
    dsimp only
    rw [pg_I (pk.eq h2), bs, h3 P (by omega), e5, if_pos (Int32.le_refl _)]
theorem c_beg2 (hS : StK M S P0) (pk : PlK M P) (hd : S + 14 < P ∨ P + 94 < S) (hz : d ≤ 6) (e5 : M.1 P 7 = Int32.ofNat d) : ∃ M', lp (X7_begin_B124 S P) FU (0, M) = some M' ∧ M'.2 = M.2 ∧ (∀ a, (a ≤ S + 9 ∨ S + 12 < a) → M'.1 a = M.1 a) ∧ ∀ i, i < d → M'.1 (S + 10) i = 0 ∧ M'.1 (S + 11) i = -1 ∧ M'.1 (S + 12) i = M.1 (P + 21 + i) 3 := by
  refine lp_inv (fun j (q : Int32 × Gm) => q.1 = Int32.ofNat j ∧ q.2.2 = M.2 ∧ (∀ a, (a ≤ S + 9 ∨ S + 12 < a) → q.2.1 a = M.1 a) ∧ ∀ i, i < j → q.2.1 (S + 10) i = 0 ∧ q.2.1 (S + 11) i = -1 ∧ q.2.1 (S + 12) i = M.1 (P + 21 + i) 3) _ d ?_ ?_ ⟨rfl, rfl, fun _ _ => rfl, fun i h => absurd h (Nat.not_lt_zero _)⟩ (by omega)
  · rintro j ⟨x, A⟩ hj ⟨h1, h2, h3, h4⟩
    replace h1 : x = Int32.ofNat j := h1
    replace h2 : A.2 = M.2 := h2
    replace h3 : ∀ a, (a ≤ S + 9 ∨ S + 12 < a) → A.1 a = M.1 a := h3
    subst h1
    have sA := hS.eq h2
    have pA := pk.eq h2
    have s1 := sA.sI (S + 10) j 0
    have s2 := s1.sI (S + 11) j (-1)
    have p2 : PlK (sI (sI A (S + 10) j 0) (S + 11) j (-1)) P := pA
    have zr : (sI (sI A (S + 10) j 0) (S + 11) j (-1)).1 (P + 21 + j) = M.1 (P + 21 + j) := by
      rw [sI_ne _ _ _ (by omega), sI_ne _ _ _ (by omega), h3 _ (by omega)]
    refine Or.inl ⟨(Int32.ofNat (j + 1), sI (sI (sI A (S + 10) j 0) (S + 11) j (-1)) (S + 12) j (M.1 (P + 21 + j) 3)), ?_, rfl, h2, fun a ha => ?_, fun i hi => ?_⟩
    · unfold X7_begin_B124
      dsimp only
      rw [pg_I pA, bs, h3 P (by omega), e5, if_neg (fun q => by have := (le_n (by omega) (by omega)).mp q; omega), s_position sA, bs, ss10 sA _ (by omega), bs, s_held s1, bs, ss11 s1 _ (by omega), bs, s_cool s2, bs, p_devices p2, bs, p_device p2 (by omega), bs, pd_I p2 (by omega), bs, zr, ss12 s2 _ (by omega), bs, pl1]
    · show (sI (sI (sI A (S + 10) j 0) (S + 11) j (-1)) (S + 12) j (M.1 (P + 21 + j) 3)).1 a = _
      rw [sI_ne _ _ _ (by omega), sI_ne _ _ _ (by omega), sI_ne _ _ _ (by omega), h3 a ha]
    · have r1 : (sI (sI (sI A (S + 10) j 0) (S + 11) j (-1)) (S + 12) j (M.1 (P + 21 + j) 3)).1 (S + 10) = ud (A.1 (S + 10)) j 0 := by
        rw [sI_ne _ _ _ (by omega), sI_ne _ _ _ (by omega), sI_own]
      have r2 : (sI (sI (sI A (S + 10) j 0) (S + 11) j (-1)) (S + 12) j (M.1 (P + 21 + j) 3)).1 (S + 11) = ud (A.1 (S + 11)) j (-1) := by
        rw [sI_ne _ _ _ (by omega), sI_own, sI_ne _ _ _ (by omega)]
      have r3 : (sI (sI (sI A (S + 10) j 0) (S + 11) j (-1)) (S + 12) j (M.1 (P + 21 + j) 3)).1 (S + 12) = ud (A.1 (S + 12)) j (M.1 (P + 21 + j) 3) := by
        rw [sI_own, sI_ne _ _ _ (by omega), sI_ne _ _ _ (by omega)]
      dsimp only
      rw [r1, r2, r3]
      by_cases c : i = j
      · subst c
        rw [ud_at, ud_at, ud_at]
        exact ⟨rfl, rfl, rfl⟩
      · rw [ud_ne _ _ c, ud_ne _ _ c, ud_ne _ _ c]
        exact h4 i (by omega)
  · rintro ⟨x, A⟩ ⟨h1, h2, h3, h4⟩
    replace h1 : x = Int32.ofNat d := h1
    replace h2 : A.2 = M.2 := h2
    replace h3 : ∀ a, (a ≤ S + 9 ∨ S + 12 < a) → A.1 a = M.1 a := h3
    subst h1
    refine ⟨A, ?_, h2, h3, h4⟩
    unfold X7_begin_B124
    dsimp only
    rw [pg_I (pk.eq h2), bs, h3 P (by omega), e5, if_pos (Int32.le_refl _)]
theorem c_begin (hS : StK M S P0) (pk : PlK M P) (hd : S + 14 < P ∨ P + 94 < S) (hz : z ≤ 5) (e5 : M.1 P 5 = Int32.ofNat z) (hdd : d ≤ 6) (e7 : M.1 P 7 = Int32.ofNat d) :
    ∃ M', sh_X7_begin S P M = some M' ∧ M'.2 = (sR M S 0 P).2 ∧ StK M' S P ∧ (∀ a, (a < S ∨ S + 14 < a) → M'.1 a = M.1 a) ∧
      (M'.1 S 1 = 0 ∧ M'.1 S 2 = M.1 P 10 ∧ M'.1 S 17 = 0 ∧ M'.1 S 18 = 0 ∧ M'.1 S 19 = 0) ∧
      (∀ i, i < z → M'.1 (S + 1) i = 200 ∧ M'.1 (S + 2) i = M.1 (P + 6 + i) 0 ∧ M'.1 (S + 3) i = M.1 (P + 6 + i) 1 ∧ M'.1 (S + 4) i = 200 ∧ M'.1 (S + 5) i = 0 ∧ M'.1 (S + 6) i = 0) ∧
      (∀ i, i < 20 → M'.1 (S + 7) i = 200) ∧ (∀ i, i < 10 → M'.1 (S + 8) i = 0 ∧ M'.1 (S + 9) i = 0) ∧
      (∀ i, i < d → M'.1 (S + 10) i = 0 ∧ M'.1 (S + 11) i = -1 ∧ M'.1 (S + 12) i = M.1 (P + 21 + i) 3) ∧ ∀ i, i < 60 → M'.1 (S + 13) i = 0 := by
  have z2 : StK (sR M S 0 P) S P := ⟨hS.1, upA M.2.1 S 0 P, fun i hi => ⟨(upN M.2.1 (by omega)).trans (hS.2.2 i hi).1, (hS.2.2 i hi).2⟩⟩
  have pk2 : PlK (sR M S 0 P) P := pk.ext (fun _ _ _ => rfl) (fun a k _ _ => upN M.2.1 (by omega))
  have h3 : pfR M S 7 0 P = some (sR M S 0 P) := p_R 0 P hS.1
  have r0 : (sR M S 0 P).1 = M.1 := rfl
  generalize hM0 : sR M S 0 P = M0 at z2 pk2 r0 h3
  have z4 := (z2.sI S 1 0).sI S 2 (M.1 P 10)
  have pk4 : PlK (sI (sI M0 S 1 0) S 2 (M.1 P 10)) P := pk2
  have r4 : ∀ a, a ≠ S → (sI (sI M0 S 1 0) S 2 (M.1 P 10)).1 a = M.1 a := fun a ha => by rw [sI_ne _ _ _ ha, sI_ne _ _ _ ha, r0]
  obtain ⟨A, a1, a2, a3, a4⟩ := c_beg1 z4 pk4 hd hz (by rw [r4 P (by omega)]; exact e5)
  have zA := z4.eq a2
  have pA := pk4.eq a2
  have f7 := c_fill (zA.2.2 6 (by decide)).2 (by decide) 200
  have zB := zA.wR (S + 7) (mixR 20 (fun _ => 200) (A.1 (S + 7)))
  have f8 := c_fill (zB.2.2 7 (by decide)).2 (by decide) 0
  replace f7 : sh_J7_fill_53178 (S + 7) 200 A = some (wR A (S + 7) (mixR 20 (fun _ => 200) (A.1 (S + 7)))) := f7
  generalize hB : wR A (S + 7) (mixR 20 (fun _ => 200) (A.1 (S + 7))) = B at f7 zB f8
  replace f8 : sh_J7_fill_53178 (S + 8) 0 B = some (wR B (S + 8) (mixR 10 (fun _ => 0) (B.1 (S + 8)))) := f8
  have zC := zB.wR (S + 8) (mixR 10 (fun _ => 0) (B.1 (S + 8)))
  generalize hC : wR B (S + 8) (mixR 10 (fun _ => 0) (B.1 (S + 8))) = C at f8 zC
  have f9 := c_fill (zC.2.2 8 (by decide)).2 (by decide) 0
  replace f9 : sh_J7_fill_53178 (S + 9) 0 C = some (wR C (S + 9) (mixR 10 (fun _ => 0) (C.1 (S + 9)))) := f9
  have zD := zC.wR (S + 9) (mixR 10 (fun _ => 0) (C.1 (S + 9)))
  generalize hDd : wR C (S + 9) (mixR 10 (fun _ => 0) (C.1 (S + 9))) = E at f9 zD
  have eE : E.2 = M0.2 := by rw [← hDd, ← hC, ← hB]; exact a2
  have rE : ∀ a, a ≠ S + 7 → a ≠ S + 8 → a ≠ S + 9 → E.1 a = A.1 a := fun a h1 h2 h3 => by rw [← hDd, wR_ne _ _ h3, ← hC, wR_ne _ _ h2, ← hB, wR_ne _ _ h1]
  have pE := pk2.eq eE
  have c7 : ∀ i, i < 20 → E.1 (S + 7) i = 200 := fun i hi => by rw [← hDd, wR_ne _ _ (by omega), ← hC, wR_ne _ _ (by omega), ← hB, wR_own, mixR_lt hi]
  have c8 : ∀ i, i < 10 → E.1 (S + 8) i = 0 := fun i hi => by rw [← hDd, wR_ne _ _ (by omega), ← hC, wR_own, mixR_lt hi]
  have c9 : ∀ i, i < 10 → E.1 (S + 9) i = 0 := fun i hi => by rw [← hDd, wR_own, mixR_lt hi]
  obtain ⟨F, b1, b2, b3, b4⟩ := c_beg2 zD pE hd hdd (by rw [rE P (by omega) (by omega) (by omega), a3 P (by omega), r4 P (by omega)]; exact e7)
  have zF := zD.eq b2
  have f13 := c_fill (zF.2.2 12 (by decide)).2 (by decide) 0
  replace f13 : sh_J7_fill_53178 (S + 13) 0 F = some (wR F (S + 13) (mixR 60 (fun _ => 0) (F.1 (S + 13)))) := f13
  have zG := zF.wR (S + 13) (mixR 60 (fun _ => 0) (F.1 (S + 13)))
  generalize hG : wR F (S + 13) (mixR 60 (fun _ => 0) (F.1 (S + 13))) = G at f13 zG
  have eG : G.2 = M0.2 := by rw [← hG]; exact b2.trans eE
  have rG : ∀ a, a ≠ S + 13 → G.1 a = F.1 a := fun a h => by rw [← hG, wR_ne _ _ h]
  have lowA : ∀ a, (a < S ∨ S + 14 < a) → G.1 a = M.1 a := fun a ha => by rw [rG a (by omega), b3 a (by omega), rE a (by omega) (by omega) (by omega), a3 a (by omega), r4 a (by omega)]
  have atF : ∀ a, a ≠ S → (sI (sI (sI G S 17 0) S 18 0) S 19 0).1 a = G.1 a := fun a ha => by rw [sI_ne _ _ _ ha, sI_ne _ _ _ ha, sI_ne _ _ _ ha]
  have gS : G.1 S = ud (ud (M.1 S) 1 0) 2 (M.1 P 10) := by
    rw [rG S (by omega), b3 S (by omega), rE S (by omega) (by omega) (by omega), a3 S (by omega), sI_own, sI_own, r0]
  refine ⟨sI (sI (sI G S 17 0) S 18 0) S 19 0, ?_, eG, ((zG.sI _ _ _).sI _ _ _).sI _ _ _, fun a ha => ?_, ⟨?_, ?_, ?_, ?_, ?_⟩, fun i hi => ?_, fun i hi => ?_, fun i hi => ⟨?_, ?_⟩, fun i hi => ?_, fun i hi => ?_⟩
  · unfold sh_X7_begin X7_begin_F
    rw [s_O hS, bs, h3, bs, s_P z2, bs, pg_I (show PlK (sI M0 S 1 0) P from pk2), bs, sI_ne _ _ _ (show P ≠ S by omega), r0, s_P (z2.sI _ _ _), bs, a1, bs, s_readings zA, bs, f7, bs, s_on zB, bs, f8, bs, s_crossed zC, bs, f9, bs, b1, bs, s_wanted zF, bs, f13, bs, s_P zG, bs, s_P (zG.sI _ _ _), bs, s_P ((zG.sI _ _ _).sI _ _ _), bs]
  · rw [atF a (by omega)]; exact lowA a ha
  · rw [sI_own, ud_ne _ _ (by decide), sI_own, ud_ne _ _ (by decide), sI_own, ud_ne _ _ (by decide), gS, ud_ne _ _ (by decide), ud_at]
  · rw [sI_own, ud_ne _ _ (by decide), sI_own, ud_ne _ _ (by decide), sI_own, ud_ne _ _ (by decide), gS, ud_at]
  · rw [sI_own, ud_ne _ _ (by decide), sI_own, ud_ne _ _ (by decide), sI_own, ud_at]
  · rw [sI_own, ud_ne _ _ (by decide), sI_own, ud_at]
  · rw [sI_own, ud_at]
  · have := a4 i hi
    rw [r4 (P + 6 + i) (by omega)] at this
    rw [atF _ (by omega), atF _ (by omega), atF _ (by omega), atF _ (by omega), atF _ (by omega), atF _ (by omega), rG _ (by omega), rG _ (by omega), rG _ (by omega), rG _ (by omega), rG _ (by omega), rG _ (by omega), b3 _ (by omega), b3 _ (by omega), b3 _ (by omega), b3 _ (by omega), b3 _ (by omega), b3 _ (by omega), rE _ (by omega) (by omega) (by omega), rE _ (by omega) (by omega) (by omega), rE _ (by omega) (by omega) (by omega), rE _ (by omega) (by omega) (by omega), rE _ (by omega) (by omega) (by omega), rE _ (by omega) (by omega) (by omega)]
    exact this
  · rw [atF _ (by omega), rG _ (by omega), b3 _ (by omega)]; exact c7 i hi
  · rw [atF _ (by omega), rG _ (by omega), b3 _ (by omega)]; exact c8 i hi
  · rw [atF _ (by omega), rG _ (by omega), b3 _ (by omega)]; exact c9 i hi
  · have := b4 i hi
    rw [rE (P + 21 + i) (by omega) (by omega) (by omega), a3 _ (by omega), r4 _ (by omega)] at this
    rw [atF _ (by omega), atF _ (by omega), atF _ (by omega), rG _ (by omega), rG _ (by omega), rG _ (by omega)]
    exact this
  · rw [atF _ (by omega), ← hG, wR_own, mixR_lt hi]
end
