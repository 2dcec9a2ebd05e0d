/-! ===== PURE 47: a new State; an act's row ===== -/
/-- i of the arrays of a new State at L stand -/
def Nwi (M0 : Gm) (L i : Nat) (M : Gm) : Prop := M.2.2 = M0.2.2 ++ (sLen.take i).map (fun n => (32, n)) ∧ (∀ b, b < L → M.1 b = M0.1 b ∧ M.2.1 b = M0.2.1 b) ∧ ∀ i', i' < i → M.2.1 L (3 + i') = L + (1 + i')
theorem sLen_len : sLen.length = 14 := rfl
theorem Nwi.len {M0 M : Gm} {L i : Nat} (h : Nwi M0 L i M) (hL : M0.2.2.length = L + 1) (hi : i ≤ 14) : M.2.2.length = L + 1 + i := by
  rw [h.1, List.length_append, hL, List.length_map, List.length_take, sLen_len]
  omega
theorem Nwi.kL {M0 M : Gm} {L i : Nat} (h : Nwi M0 L i M) (hL : M0.2.2.length = L + 1) (hk : kd M0 L = (7, 0)) : kd M L = (7, 0) := by
  unfold kd at *
  rw [h.1, List.getD_eq_getElem?_getD, List.getElem?_append_left (by omega), ← List.getD_eq_getElem?_getD]
  exact hk
theorem nwi_step {M0 M : Gm} {L i : Nat} (hL : M0.2.2.length = L + 1) (hk : kd M0 L = (7, 0)) (h : Nwi M0 L i M) (hi : i < 14) {n : Int32} (hn : n = Int32.ofNat (sLen.getD i 0)) : ∃ M1 M2, mkA M 0 n = some M1 ∧ pfR M1 L 7 (3 + i) M.2.2.length = some M2 ∧ Nwi M0 L (i + 1) M2 := by
  have hl : ∀ i, i < 14 → sLen.getD i 0 ≤ 160 := by decide
  have h160 := hl i hi
  have len := h.len hL (by omega)
  have e1 : mkA M 0 n = some (nwM M (32, sLen.getD i 0)) := by
    unfold mkA
    rw [hn, if_pos ⟨nneg (by omega), by rw [nn _ (by omega)]; omega⟩, nn _ (by omega)]
  have k1 : kd (nwM M (32, sLen.getD i 0)) L = (7, 0) := by rw [kd_nwl _ (by omega)]; exact h.kL hL hk
  refine ⟨_, _, e1, p_R _ _ k1, ?_, fun b hb => ⟨?_, ?_⟩, fun i' hi' => ?_⟩
  · show M.2.2 ++ [(32, sLen.getD i 0)] = _
    rw [h.1, List.append_assoc]
    congr 1
    have : ∀ i, i < 14 → (sLen.take i).map (fun n => ((32, n) : Nat × Nat)) ++ [(32, sLen.getD i 0)] = (sLen.take (i + 1)).map (fun n => (32, n)) := by decide
    exact this i hi
  · rw [← (h.2.1 b hb).1]
    funext k
    show (if b = M.2.2.length then 0 else M.1 b k) = _
    rw [if_neg (by omega)]
  · rw [← (h.2.1 b hb).2]
    funext k
    show up2 (nwM M (32, sLen.getD i 0)).2.1 L (3 + i) M.2.2.length b k = _
    rw [upN _ (by omega)]
    show (if b = M.2.2.length then 0 else M.2.1 b k) = _
    rw [if_neg (by omega)]
  · show up2 (nwM M (32, sLen.getD i 0)).2.1 L (3 + i) M.2.2.length L (3 + i') = _
    by_cases e : i' = i
    · rw [e, upA]; omega
    · rw [upN _ (by omega)]
      show (if L = M.2.2.length then 0 else M.2.1 L (3 + i')) = _
      rw [if_neg (by omega)]
      exact h.2.2 i' (by omega)
/-- the kinds of a State's cells -/
def stKs : List (Nat × Nat) := (7, 0) :: sLen.map (fun n => (32, n))
theorem c_newState (M : Gm) (P : Nat) : ∃ M', sh_X7_init M.2.2.length P (nwM M (7, 0)) = some M' ∧ M'.2.2 = M.2.2 ++ stKs ∧ (∀ b, b < M.2.2.length → M'.1 b = M.1 b ∧ M'.2.1 b = M.2.1 b) ∧ StK M' M.2.2.length P := by
  generalize hLe : M.2.2.length = L
  have b0 : ∀ b, b < L → (nwM M (7, 0)).1 b = M.1 b ∧ (nwM M (7, 0)).2.1 b = M.2.1 b := fun b hb => by
    refine ⟨funext fun k => ?_, funext fun k => ?_⟩
    · show (if b = M.2.2.length then 0 else M.1 b k) = _
      rw [if_neg (by omega)]
    · show (if b = M.2.2.length then 0 else M.2.1 b k) = _
      rw [if_neg (by omega)]
  have k0 : kd (nwM M (7, 0)) L = (7, 0) := by rw [← hLe]; exact kd_nw_own M _
  have l0 : (nwM M (7, 0)).2.2.length = L + 1 := by
    show (M.2.2 ++ [(7, 0)]).length = _
    rw [List.length_append, hLe]; rfl
  have e0 : (nwM M (7, 0)).2.2 = M.2.2 ++ [(7, 0)] := rfl
  generalize nwM M (7, 0) = M0 at b0 k0 l0 e0
  have y0 : Nwi (sI (sI M0 L 1 0) L 2 0) L 0 (sI (sI M0 L 1 0) L 2 0) := ⟨(List.append_nil _).symm, fun _ _ => ⟨rfl, rfl⟩, fun i h => absurd h (Nat.not_lt_zero _)⟩
  have l1 : (sI (sI M0 L 1 0) L 2 0).2.2.length = L + 1 := l0
  have k1 : kd (sI (sI M0 L 1 0) L 2 0) L = (7, 0) := k0
  have r1 : ∀ b, b < L → (sI (sI M0 L 1 0) L 2 0).1 b = M0.1 b := fun b hb => by rw [sI_ne _ _ _ (by omega), sI_ne _ _ _ (by omega)]
  have r2 : (sI (sI M0 L 1 0) L 2 0).2 = M0.2 := rfl
  have q1 : pfI M0 L 7 1 0 = some (sI M0 L 1 0) := p_I 1 0 k0
  have q2 : pfI (sI M0 L 1 0) L 7 2 0 = some (sI (sI M0 L 1 0) L 2 0) := p_I 2 0 k0
  generalize sI (sI M0 L 1 0) L 2 0 = M1 at y0 l1 k1 r1 r2 q2
  obtain ⟨A0, B0, a0, c0, y1⟩ := nwi_step l1 k1 y0 (by decide) (n := 5) rfl
  obtain ⟨A1, B1, a1, c1, y2⟩ := nwi_step l1 k1 y1 (by decide) (n := 5) rfl
  obtain ⟨A2, B2, a2, c2, y3⟩ := nwi_step l1 k1 y2 (by decide) (n := 5) rfl
  obtain ⟨A3, B3, a3, c3, y4⟩ := nwi_step l1 k1 y3 (by decide) (n := 5) rfl
  obtain ⟨A4, B4, a4, c4, y5⟩ := nwi_step l1 k1 y4 (by decide) (n := 5) rfl
  obtain ⟨A5, B5, a5, c5, y6⟩ := nwi_step l1 k1 y5 (by decide) (n := 5) rfl
  obtain ⟨A6, B6, a6, c6, y7⟩ := nwi_step l1 k1 y6 (by decide) (n := 20) rfl
  obtain ⟨A7, B7, a7, c7, y8⟩ := nwi_step l1 k1 y7 (by decide) (n := 10) rfl
  obtain ⟨A8, B8, a8, c8, y9⟩ := nwi_step l1 k1 y8 (by decide) (n := 10) rfl
  obtain ⟨A9, B9, a9, c9, y10⟩ := nwi_step l1 k1 y9 (by decide) (n := 6) rfl
  obtain ⟨A10, B10, a10, c10, y11⟩ := nwi_step l1 k1 y10 (by decide) (n := 6) rfl
  obtain ⟨A11, B11, a11, c11, y12⟩ := nwi_step l1 k1 y11 (by decide) (n := 6) rfl
  obtain ⟨A12, B12, a12, c12, y13⟩ := nwi_step l1 k1 y12 (by decide) (n := 60) rfl
  obtain ⟨A13, B13, a13, c13, y14⟩ := nwi_step l1 k1 y13 (by decide) (n := 160) rfl
  have kf := y14.kL l1 k1
  have s1 : pfI B13 L 7 17 0 = some (sI B13 L 17 0) := p_I 17 0 kf
  have s2 : pfI (sI B13 L 17 0) L 7 18 0 = some (sI (sI B13 L 17 0) L 18 0) := p_I 18 0 kf
  have s3 : pfI (sI (sI B13 L 17 0) L 18 0) L 7 19 0 = some (sI (sI (sI B13 L 17 0) L 18 0) L 19 0) := p_I 19 0 kf
  have s4 : pfR (sI (sI (sI B13 L 17 0) L 18 0) L 19 0) L 7 0 P = some (sR (sI (sI (sI B13 L 17 0) L 18 0) L 19 0) L 0 P) := p_R 0 P kf
  have e22 : B13.2.2 = M.2.2 ++ stKs := by
    rw [y14.1, show M1.2.2 = M0.2.2 by rw [r2], e0, List.append_assoc]
    exact congrArg (fun l => M.2.2 ++ l) (show [(7, 0)] ++ (sLen.take 14).map (fun n => ((32, n) : Nat × Nat)) = stKs by decide)
  refine ⟨sR (sI (sI (sI B13 L 17 0) L 18 0) L 19 0) L 0 P, ?_, e22, fun b hb => ⟨?_, ?_⟩, ?_, ?_, fun i hi => ⟨?_, ?_⟩⟩
  · unfold sh_X7_init X7_init_F
    simp only [Nat.reduceAdd] at c0 c1 c2 c3 c4 c5 c6 c7 c8 c9 c10 c11 c12 c13
    simp only [i_O k0, q1, q2, a0, c0, a1, c1, a2, c2, a3, c3, a4, c4, a5, c5, a6, c6, a7, c7, a8, c8, a9, c9, a10, c10, a11, c11, a12, c12, a13, c13, s1, s2, s3, s4, bs]
  · show (sI (sI (sI B13 L 17 0) L 18 0) L 19 0).1 b = _
    rw [sI_ne _ _ _ (by omega), sI_ne _ _ _ (by omega), sI_ne _ _ _ (by omega), (y14.2.1 b hb).1, r1 b hb, (b0 b hb).1]
  · funext k
    show up2 B13.2.1 L 0 P b k = _
    rw [upN _ (by omega), (y14.2.1 b hb).2, show M1.2.1 = M0.2.1 by rw [r2], (b0 b hb).2]
  · exact kf
  · exact upA _ _ _ _
  · show up2 B13.2.1 L 0 P L (3 + i) = _
    rw [upN _ (by omega)]
    exact y14.2.2 i hi
  · show B13.2.2.getD (L + (1 + i)) (31, 0) = _
    rw [e22, List.getD_eq_getElem?_getD, List.getElem?_append_right (by omega), hLe, show L + (1 + i) - L = i + 1 by omega]
    have : ∀ i, i < 14 → (stKs[i + 1]?).getD (31, 0) = (32, sLen.getD i 0) := by decide
    exact this i hi
/-- an act's row is there, or is made -/
theorem c_rowOfAct {M : Gm} {Q p P' : Nat} (hM : Ky M) (hl : 346 ≤ M.2.2.length) (mk : MmK M Q) (sk : StK M (Q + 6) P') (ak : AcK M) (hp : p < 40) : ∃ M', sh_X4_rowOfAct Q (Int32.ofNat p) M = some (eA M' Q p, M') ∧
    ((eA M Q p ≠ 0 ∧ M' = M) ∨ (eA M Q p = 0 ∧ eA M' Q p = M.2.2.length ∧ M'.2.2 = M.2.2 ++ stKs ∧ (∀ b, b < M.2.2.length → M'.1 b = M.1 b) ∧ (∀ b k, b < M.2.2.length → (b ≠ Q + 1 ∨ k ≠ p) → M'.2.1 b k = M.2.1 b k) ∧ StK M' M.2.2.length P')) := by
  have hQ := mk.2
  have kk := mm_kd hM mk
  have l1 : ldR M 9 (Q + 1) (Int32.ofNat p) = some (eA M Q p) := l_R kk.2.1 hp (by decide)
  by_cases c : eA M Q p = 0
  · obtain ⟨M1, a1, a2, a3, a4⟩ := c_newState M P'
    have kd1 : ∀ b, b < M.2.2.length → kd M1 b = kd M b := fun b hb => by
      unfold kd
      rw [a2, List.getD_eq_getElem?_getD, List.getD_eq_getElem?_getD, List.getElem?_append_left hb]
    have k41 : kd M1 (Q + 1) = (41, 40) := by rw [kd1 _ (by omega)]; exact kk.2.1
    have k4 : kd M1 Q = (4, 0) := by rw [kd1 _ (by omega)]; exact kk.1
    have st : stR M1 9 7 (Q + 1) (Int32.ofNat p) M.2.2.length = some (sR M1 (Q + 1) p M.2.2.length) := s_R k41 hp (by decide) a4.1
    have g1 : gfR (nwM M (7, 0)) Q 4 0 = some (Q + 6) := by
      rw [g_R 0 (by rw [kd_nwl _ (by omega)]; exact kk.1)]
      show some (if Q = M.2.2.length then 0 else M.2.1 Q 0) = _
      rw [if_neg (by omega), mk.1.1]
    have g2 : gfR (nwM M (7, 0)) (Q + 6) 7 0 = some P' := by
      rw [g_R 0 (by rw [kd_nwl _ (by omega)]; exact sk.1)]
      show some (if Q + 6 = M.2.2.length then 0 else M.2.1 (Q + 6) 0) = _
      rw [if_neg (by omega), sk.2.1]
    have g3 : gfR M1 Q 4 1 = some (Q + 1) := by rw [g_R 1 k4, (a3 Q (by omega)).2, mk.1.2.1]
    refine ⟨sR M1 (Q + 1) p M.2.2.length, ?_, Or.inr ⟨c, ?_, a2, fun b hb => (a3 b hb).1, fun b k hb hk => ?_, a4.1, ?_, fun i hi => ⟨?_, (a4.2.2 i hi).2⟩⟩⟩
    · have eE : eA (sR M1 (Q + 1) p M.2.2.length) Q p = M.2.2.length := upA _ _ _ _
      rw [eE]
      unfold sh_X4_rowOfAct X4_rowOfAct_F X4_rowOfAct_J33
      rw [mm_O hM mk, bs, mm_acts hM mk, bs, l1, bs, if_pos c, bs, g1, bs, g2, bs, a1, bs, g3, bs, st, bs]
    · exact upA _ _ _ _
    · show up2 M1.2.1 (Q + 1) p M.2.2.length b k = _
      rw [upN _ hk, (a3 b hb).2]
    · show up2 M1.2.1 (Q + 1) p M.2.2.length M.2.2.length 0 = _
      rw [upN _ (by omega)]; exact a4.2.1
    · show up2 M1.2.1 (Q + 1) p M.2.2.length M.2.2.length (3 + i) = _
      rw [upN _ (by omega)]; exact (a4.2.2 i hi).1
  · refine ⟨M, ?_, Or.inl ⟨c, rfl⟩⟩
    unfold sh_X4_rowOfAct X4_rowOfAct_F X4_rowOfAct_J33
    rw [mm_O hM mk, bs, mm_acts hM mk, bs, l1, bs, if_neg c]
