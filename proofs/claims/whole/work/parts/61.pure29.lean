/-! ===== PURE 29: a State is copied ===== -/
theorem c_copyRow {M : Gm} {a b n : Nat} (ha : kd M a = (32, n)) (hb : kd M b = (32, n)) (hn : n < 1000) : sh_X7_copyRow a b M = some (cpM M a b 0 0 n) := by
  unfold sh_X7_copyRow X7_copyRow_F
  rw [a_len (t := 0) ha (by decide), a_len (t := 0) hb (by decide)]
  simp only [Option.bind_some, m_min]
  have e : minI (Int32.ofNat n) (Int32.ofNat n) = Int32.ofNat n := by unfold minI; split <;> rfl
  rw [e]
  unfold cpI
  rw [if_pos ⟨⟨by rw [ha], by rw [hb]⟩, ⟨by decide, by decide, nneg (by omega)⟩, by rw [ha, nn n (by omega)]; show 0 + n ≤ n; omega, by rw [hb, nn n (by omega)]; show 0 + n ≤ n; omega⟩, nn n (by omega)]
  rfl
theorem cpM_own (M : Gm) (a b n : Nat) {j : Nat} (hj : j < n) : (cpM M a b 0 0 n).1 b j = M.1 a j := by
  unfold cpM va_cpy
  show (if b = b then _ else _) = _
  rw [if_pos rfl, if_pos ⟨by omega, by omega⟩, Nat.zero_add, Nat.sub_zero]
theorem cpM_ne (M : Gm) (a b n : Nat) {c : Nat} (h : c ≠ b) : (cpM M a b 0 0 n).1 c = M.1 c := by
  funext j
  unfold cpM
  show (if c = b then _ else _) = _
  rw [if_neg h]
/-- what a State's copying leaves: the rows of S at S', and the plan -/
def CpQ (M : Gm) (S S' : Nat) (i : Nat) (M1 : Gm) : Prop :=
  M1.2 = M.2 ∧ (∀ b, (b ≤ S' ∨ S' + i < b) → M1.1 b = M.1 b) ∧ ∀ i' j, i' < i → j < sLen.getD i' 0 → M1.1 (S' + (1 + i')) j = M.1 (S + (1 + i')) j
theorem cp_step {M : Gm} {S S' P P' : Nat} (hS : StK M S P) (hS' : StK M S' P') (hd : S + 14 < S' ∨ S' + 14 < S) {i : Nat} (hi : i < 14) {M1 : Gm} (q : CpQ M S S' i M1) :
    ∃ M2, gfR M1 S 7 (3 + i) = some (S + (1 + i)) ∧ gfR M1 S' 7 (3 + i) = some (S' + (1 + i)) ∧ sh_X7_copyRow (S + (1 + i)) (S' + (1 + i)) M1 = some M2 ∧ CpQ M S S' (i + 1) M2 := by
  obtain ⟨q1, q2, q3⟩ := q
  have k1 := hS.eq q1
  have k2 := hS'.eq q1
  have hl : ∀ i, i < 14 → sLen.getD i 0 < 1000 := by decide
  refine ⟨_, (g_R _ k1.1).trans (congrArg some (k1.2.2 i hi).1), (g_R _ k2.1).trans (congrArg some (k2.2.2 i hi).1), c_copyRow (k1.2.2 i hi).2 (k2.2.2 i hi).2 (hl i hi), q1, fun b hb => ?_, fun i' j hi' hj => ?_⟩
  · rw [cpM_ne _ _ _ _ (by omega)]; exact q2 b (by omega)
  · by_cases e : i' = i
    · subst e
      rw [cpM_own _ _ _ _ hj, q2 _ (by omega)]
    · rw [cpM_ne _ _ _ _ (by omega)]; exact q3 i' j (by omega) hj
theorem c_copyFrom {M : Gm} {S S' P P' : Nat} (hS : StK M S P) (hS' : StK M S' P') (hd : S + 14 < S' ∨ S' + 14 < S) :
    ∃ M', sh_X7_copyFrom S' S M = some M' ∧ M'.2 = (sR M S' 0 P).2 ∧ (∀ b, (b < S' ∨ S' + 14 < b) → M'.1 b = M.1 b) ∧
      (M'.1 S' 1 = M.1 S 1 ∧ M'.1 S' 2 = M.1 S 2 ∧ M'.1 S' 17 = M.1 S 17 ∧ M'.1 S' 18 = M.1 S 18 ∧ M'.1 S' 19 = M.1 S 19) ∧
      ∀ i j, i < 14 → j < sLen.getD i 0 → M'.1 (S' + (1 + i)) j = M.1 (S + (1 + i)) j := by
  have hS0 := hS
  have z1 : StK (sR M S' 0 P) S P := ⟨hS.1, (upN M.2.1 (by omega)).trans hS.2.1, fun i hi => ⟨(upN M.2.1 (by omega)).trans (hS.2.2 i hi).1, (hS.2.2 i hi).2⟩⟩
  have z2 : StK (sR M S' 0 P) S' P := ⟨hS'.1, upA M.2.1 S' 0 P, fun i hi => ⟨(upN M.2.1 (by omega)).trans (hS'.2.2 i hi).1, (hS'.2.2 i hi).2⟩⟩
  have r0 : (sR M S' 0 P).1 = M.1 := rfl
  generalize hM0 : sR M S' 0 P = M0 at z1 z2 r0
  have y1 := (z1.sI S' 1 (M0.1 S 1)).sI S' 2 (M0.1 S 2)
  have y2 := (z2.sI S' 1 (M0.1 S 1)).sI S' 2 (M0.1 S 2)
  have g1 := s_I z1 1
  have g2 := s_P z2 1 (M0.1 S 1)
  have g3 : gfI (sI M0 S' 1 (M0.1 S 1)) S 7 2 = some (M0.1 S 2) := by rw [s_I (z1.sI _ _ _) 2, sI_ne _ _ _ (by omega)]
  have g4 := s_P (z2.sI S' 1 (M0.1 S 1)) 2 (M0.1 S 2)
  have e0 : ∀ b, b ≠ S' → (sI (sI M0 S' 1 (M0.1 S 1)) S' 2 (M0.1 S 2)).1 b = M.1 b := fun b hb => by rw [sI_ne _ _ _ hb, sI_ne _ _ _ hb, r0]
  have e1 : (sI (sI M0 S' 1 (M0.1 S 1)) S' 2 (M0.1 S 2)).1 S' 1 = M.1 S 1 := by rw [sI_own, ud_ne _ _ (by decide), sI_own, ud_at, r0]
  have e2 : (sI (sI M0 S' 1 (M0.1 S 1)) S' 2 (M0.1 S 2)).1 S' 2 = M.1 S 2 := by rw [sI_own, ud_at, r0]
  have e3 : (sI (sI M0 S' 1 (M0.1 S 1)) S' 2 (M0.1 S 2)).2 = M0.2 := rfl
  generalize sI (sI M0 S' 1 (M0.1 S 1)) S' 2 (M0.1 S 2) = M2 at y1 y2 g4 e0 e1 e2 e3
  obtain ⟨A0, b0, c0, d0, q0⟩ := cp_step y1 y2 hd (i := 0) (by decide) (M1 := M2) ⟨rfl, fun _ _ => rfl, fun _ _ h => absurd h (by omega)⟩
  obtain ⟨A1, b1, c1, d1, q1⟩ := cp_step y1 y2 hd (i := 1) (by decide) q0
  obtain ⟨A2, b2, c2, d2, q2⟩ := cp_step y1 y2 hd (i := 2) (by decide) q1
  obtain ⟨A3, b3, c3, d3, q3⟩ := cp_step y1 y2 hd (i := 3) (by decide) q2
  obtain ⟨A4, b4, c4, d4, q4⟩ := cp_step y1 y2 hd (i := 4) (by decide) q3
  obtain ⟨A5, b5, c5, d5, q5⟩ := cp_step y1 y2 hd (i := 5) (by decide) q4
  obtain ⟨A6, b6, c6, d6, q6⟩ := cp_step y1 y2 hd (i := 6) (by decide) q5
  obtain ⟨A7, b7, c7, d7, q7⟩ := cp_step y1 y2 hd (i := 7) (by decide) q6
  obtain ⟨A8, b8, c8, d8, q8⟩ := cp_step y1 y2 hd (i := 8) (by decide) q7
  obtain ⟨A9, b9, c9, d9, q9⟩ := cp_step y1 y2 hd (i := 9) (by decide) q8
  obtain ⟨A10, b10, c10, d10, q10⟩ := cp_step y1 y2 hd (i := 10) (by decide) q9
  obtain ⟨A11, b11, c11, d11, q11⟩ := cp_step y1 y2 hd (i := 11) (by decide) q10
  obtain ⟨A12, b12, c12, d12, q12⟩ := cp_step y1 y2 hd (i := 12) (by decide) q11
  obtain ⟨A13, b13, c13, d13, q13⟩ := cp_step y1 y2 hd (i := 13) (by decide) q12
  obtain ⟨p1, p2, p3⟩ := q13
  have x1 := y1.eq p1
  have x2 := y2.eq p1
  refine ⟨sI (sI (sI A13 S' 17 (A13.1 S 17)) S' 18 (A13.1 S 18)) S' 19 (A13.1 S 19), ?_, ?_, fun b hb => ?_, ⟨?_, ?_, ?_, ?_, ?_⟩, fun i j hi hj => ?_⟩
  · unfold sh_X7_copyFrom X7_copyFrom_F
    have h1 : gfI (sI A13 S' 17 (A13.1 S 17)) S 7 18 = some (A13.1 S 18) := by rw [s_I (x1.sI _ _ _), sI_ne _ _ _ (by omega)]
    have h2 : gfI (sI (sI A13 S' 17 (A13.1 S 17)) S' 18 (A13.1 S 18)) S 7 19 = some (A13.1 S 19) := by rw [s_I ((x1.sI _ _ _).sI _ _ _), sI_ne _ _ _ (by omega), sI_ne _ _ _ (by omega)]
    have h3 : pfR M S' 7 0 P = some M0 := by rw [p_R 0 P hS'.1, hM0]
    simp only [s_O hS', s_plan hS, Option.bind_some, h3, g1, g2, g3, g4]
    simp only [Nat.reduceAdd] at b0 c0 d0 b1 c1 d1 b2 c2 d2 b3 c3 d3 b4 c4 d4 b5 c5 d5 b6 c6 d6 b7 c7 d7 b8 c8 d8 b9 c9 d9 b10 c10 d10 b11 c11 d11 b12 c12 d12 b13 c13 d13
    simp only [Option.bind_some, b0, c0, d0, b1, c1, d1, b2, c2, d2, b3, c3, d3, b4, c4, d4, b5, c5, d5, b6, c6, d6, b7, c7, d7, b8, c8, d8, b9, c9, d9, b10, c10, d10, b11, c11, d11, b12, c12, d12, b13, c13, d13, s_I x1, s_P x2, h1, s_P (x2.sI _ _ _), h2, s_P ((x2.sI _ _ _).sI _ _ _)]
  · show A13.2 = _
    rw [p1, e3, ← hM0]
  · rw [sI_ne _ _ _ (by omega), sI_ne _ _ _ (by omega), sI_ne _ _ _ (by omega), p2 b (by omega), e0 b (by omega)]
  · rw [sI_own, ud_ne _ _ (by decide), sI_own, ud_ne _ _ (by decide), sI_own, ud_ne _ _ (by decide), p2 _ (by omega), e1]
  · rw [sI_own, ud_ne _ _ (by decide), sI_own, ud_ne _ _ (by decide), sI_own, ud_ne _ _ (by decide), p2 _ (by omega), e2]
  · rw [sI_own, ud_ne _ _ (by decide), sI_own, ud_ne _ _ (by decide), sI_own, ud_at, p2 _ (by omega), e0 _ (by omega)]
  · rw [sI_own, ud_ne _ _ (by decide), sI_own, ud_at, p2 _ (by omega), e0 _ (by omega)]
  · rw [sI_own, ud_at, p2 _ (by omega), e0 _ (by omega)]
  · rw [sI_ne _ _ _ (by omega), sI_ne _ _ _ (by omega), sI_ne _ _ _ (by omega), p3 i j hi hj, e0 _ (by omega)]
/-- what a copy stands for -/
theorem StV.cp {M M' : Gm} {S S' : Nat} {N T : Nat → Int32} (sv : StV M S N T) (hT : TOk T)
    (h0 : M'.1 S' 1 = M.1 S 1 ∧ M'.1 S' 2 = M.1 S 2 ∧ M'.1 S' 17 = M.1 S 17 ∧ M'.1 S' 18 = M.1 S 18 ∧ M'.1 S' 19 = M.1 S 19)
    (h : ∀ i j, i < 14 → j < sLen.getD i 0 → M'.1 (S' + (1 + i)) j = M.1 (S + (1 + i)) j) : StV M' S' N T := by
  have h10 := hT.t.2
  have h5 := hT.z.2
  have h6 := hT.d.2
  obtain ⟨⟨a1, a2, a3, a4, a5⟩, b, c, d, e, f, g⟩ := sv
  have H : ∀ i n, i < 14 → sLen.getD i 0 = n → ∀ j, j < n → M'.1 (S' + (1 + i)) j = M.1 (S + (1 + i)) j := fun i n hi hn j hj => h i j hi (by rw [hn]; exact hj)
  have w1 := H 0 5 (by decide) rfl
  have w2 := H 1 5 (by decide) rfl
  have w3 := H 2 5 (by decide) rfl
  have w4 := H 3 5 (by decide) rfl
  have w5 := H 4 5 (by decide) rfl
  have w6 := H 5 5 (by decide) rfl
  have w7 := H 6 20 (by decide) rfl
  have w8 := H 7 10 (by decide) rfl
  have w9 := H 8 10 (by decide) rfl
  have w10 := H 9 6 (by decide) rfl
  have w11 := H 10 6 (by decide) rfl
  have w12 := H 11 6 (by decide) rfl
  have w13 := H 12 60 (by decide) rfl
  have w14 := H 13 160 (by decide) rfl
  simp only [Nat.reduceAdd] at w1 w2 w3 w4 w5 w6 w7 w8 w9 w10 w11 w12 w13 w14
  refine ⟨⟨h0.1.trans a1, h0.2.1.trans a2, h0.2.2.1.trans a3, h0.2.2.2.1.trans a4, h0.2.2.2.2.trans a5⟩, fun z hz => ?_, fun z i hz hi => ?_, fun t ht => ?_, fun d' hd => ?_, fun t i ht hi => ?_, fun j hj => ?_⟩
  · rw [w1 z (by omega), w2 z (by omega), w3 z (by omega), w4 z (by omega), w5 z (by omega), w6 z (by omega)]; exact b z hz
  · rw [w7 _ (by omega)]; exact c z i hz hi
  · rw [w8 _ (by omega), w9 _ (by omega)]; exact d t ht
  · rw [w10 _ (by omega), w11 _ (by omega), w12 _ (by omega)]; exact e d' hd
  · have q1 := fb_60 hT
    have q2 := fb_mono T (i := t + 1) (j := tt T) (by omega)
    have q3 : fb T (t + 1) = fb T t + (dl T t).length := rfl
    rw [w13 _ (by omega)]; exact f t i ht hi
  · have : min 40 (lg N) ≤ 40 := Nat.min_le_left _ _
    rw [w14 _ (by omega)]; exact g j hj
