/-! ===== PURE 26: the class's rounds; wantShares; wantAll ===== -/
section Rnd
variable {M : Gm} {S P : Nat} {N T : Nat → Int32}
theorem give_le (T : Nat → Int32) (t : Nat) : ∀ (s : List Nat) (q : Nat × (Nat → Int32)), (s.foldl (giveOne T t) q).1 ≤ q.1 := by
  intro s
  induction s with
  | nil => intro q; exact Nat.le_refl _
  | cons d s ih =>
    intro q
    show (s.foldl (giveOne T t) (giveOne T t q d)).1 ≤ _
    refine Nat.le_trans (ih _) ?_
    unfold giveOne
    split
    · exact Nat.sub_le _ _
    · exact Nat.le_refl _
theorem c_round (hS : StK M S P) (hP : PlK M P) (hT : TOk T) (pv : PlV M P T) (sv : StV M S N T) (so : SOk S) (po : POk P) {t : Nat} (ht : t < tt T) {left : Nat} (hl : left ≤ 54) (r : Int32) : ∃ e, lp (X1_wantShares_B155 S (P + 11 + t) P r) FU (Int32.ofNat left, Int32.ofNat (fb T t), M) = some e ∧ e.1 = Int32.ofNat ((dl T t).foldl (giveOne T t) (left, N)).1 ∧ Fm [S + 13] M e.2 ∧ StV e.2 S ((dl T t).foldl (giveOne T t) (left, N)).2 T := by
  have ht10 : t < 10 := by have := hT.t.2; omega
  have so' := so
  unfold SOk at so'
  have f0 : fb T (t + 1) = fb T t + (dl T t).length := rfl
  have f1 := fb_mono T (show t + 1 ≤ tt T by omega)
  have f2 := fb_60 hT
  have hlen := (dl_ok hT ht10).len hT ht10
  refine lp_inv (fun j q => ∃ (l : Nat) (N1 : Nat → Int32), l ≤ 54 ∧ q.1 = Int32.ofNat l ∧ q.2.1 = Int32.ofNat (fb T t + j) ∧ Fm [S + 13] M q.2.2 ∧ StV q.2.2 S N1 T ∧ ((dl T t).drop j).foldl (giveOne T t) (l, N1) = (dl T t).foldl (giveOne T t) (left, N)) _ (dl T t).length ?_ ?_ ⟨left, N, hl, rfl, rfl, Fm.rfl' _ _, sv, rfl⟩ (by omega)
  · rintro j ⟨l0, i, M1⟩ hj ⟨l, N1, hl1, h0, h1, h2, h3, h4⟩
    replace h0 : l0 = Int32.ofNat l := h0
    replace h1 : i = Int32.ofNat (fb T t + j) := h1
    replace h2 : Fm [S + 13] M M1 := h2
    replace h3 : StV M1 S N1 T := h3
    subst h0 h1
    have hS1 := hS.fm h2
    have hP1 := hP.fm h2
    have pv1 := pv.fm' hP hT po h2 (by simp <;> omega)
    have q5 := (pv1.2.2.1 t ht).2.2.2.2.2
    obtain ⟨h60, g1, -, -, g3⟩ := bind_at hP1 hT pv1 ht hj
    have d := di_ok hT ht10 hj
    have hv := h3.2.2.2.2.2.1 t j ht hj
    have hdr : (dl T t).drop j = di T t j :: (dl T t).drop (j + 1) := by rw [List.drop_eq_getElem_cons hj, di_get hj]
    rw [hdr] at h4
    replace h4 : ((dl T t).drop (j + 1)).foldl (giveOne T t) (giveOne T t (l, N1) (di T t j)) = (dl T t).foldl (giveOne T t) (left, N) := h4
    have hl0 := n_le0 (a := l) (by omega)
    have hB : X1_wantShares_B155 S (P + 11 + t) P r (Int32.ofNat l, Int32.ofNat (fb T t + j), M1) = if l = 0 then some (.inr (Int32.ofNat l, M1)) else if T (67 + di T t j) ≤ N1 (82 + 6 * t + di T t j) then some (.inl (Int32.ofNat l, Int32.ofNat (fb T t + (j + 1)), M1)) else some (.inl (Int32.ofNat l + (-1), Int32.ofNat (fb T t + (j + 1)), sI M1 (S + 13) (fb T t + j) (N1 (82 + 6 * t + di T t j) + 1))) := by
      unfold X1_wantShares_B155 X1_wantShares_J213
      simp (disch := omega) only [pt_I hP1, q5, Option.bind_some, le_n, s_wanted hS1, sl13 hS1, hv, p_devices hP1, p_binds hP1, p_bind hP1, g1, p_device hP1, g3, ss13 hS1, suc_n]
      rw [if_neg (by omega)]
      by_cases c : l = 0
      · rw [if_pos (hl0.mpr c), if_pos c]
      · rw [if_neg (fun q => c (hl0.mp q)), if_neg c]
        rfl
    rw [hB]
    by_cases c : l = 0
    · subst c
      rw [if_pos rfl]
      right
      have hg : giveOne T t (0, N1) (di T t j) = (0, N1) := if_neg (fun q => absurd q.1 (Nat.lt_irrefl 0))
      rw [hg, give_none] at h4
      refine ⟨_, rfl, ?_⟩
      rw [← h4]
      exact ⟨rfl, h2, h3⟩
    · rw [if_neg c]
      left
      by_cases c2 : T (67 + di T t j) ≤ N1 (82 + 6 * t + di T t j)
      · rw [if_pos c2]
        have hg : giveOne T t (l, N1) (di T t j) = (l, N1) := if_neg (fun q => by have := q.2; rw [← Int32.not_le] at this; exact this c2)
        rw [hg] at h4
        exact ⟨_, rfl, l, N1, hl1, rfl, rfl, h2, h3, h4⟩
      · rw [if_neg c2]
        have hg : giveOne T t (l, N1) (di T t j) = (l - 1, ud N1 (82 + 6 * t + di T t j) (N1 (82 + 6 * t + di T t j) + 1)) := if_pos ⟨by omega, by rw [Int32.not_le] at c2; exact c2⟩
        rw [hg] at h4
        refine ⟨_, rfl, l - 1, _, by omega, ?_, rfl, h2.set (by simp) _ _, h3.want1 hT ht hj _, h4⟩
        show Int32.ofNat l + (-1) = Int32.ofNat (l - 1)
        rw [Int32.ofNat_sub _ _ (by omega), Int32.sub_eq_add_neg]; rfl
  · rintro ⟨l0, i, M1⟩ ⟨l, N1, hl1, h0, h1, h2, h3, h4⟩
    replace h1 : i = Int32.ofNat (fb T t + (dl T t).length) := h1
    replace h0 : l0 = Int32.ofNat l := h0
    replace h2 : Fm [S + 13] M M1 := h2
    subst h0 h1
    have hP1 := hP.fm h2
    have q5 := ((pv.fm' hP hT po h2 (by simp <;> omega)).2.2.1 t ht).2.2.2.2.2
    rw [List.drop_length] at h4
    replace h4 : (l, N1) = (dl T t).foldl (giveOne T t) (left, N) := h4
    refine ⟨(Int32.ofNat l, M1), ?_, ?_⟩
    · unfold X1_wantShares_B155
      simp (disch := omega) only [pt_I hP1, q5, Option.bind_some, le_n]
      rw [if_pos (by omega)]
    · rw [← h4]
      exact ⟨rfl, h2, h3⟩
theorem give_zero (T : Nat → Int32) (t : Nat) (L : List Nat) (N : Nat → Int32) : ∀ j, giveAll T t L j (0, N) = (0, N) := by
  intro j
  induction j with
  | zero => rfl
  | succ j ih => show giveAll T t L j (L.foldl (giveOne T t) (0, N)) = _; rw [give_none, ih]
theorem c_rounds (hS : StK M S P) (hP : PlK M P) (hT : TOk T) (pv : PlV M P T) (sv : StV M S N T) (so : SOk S) (po : POk P) {t : Nat} (ht : t < tt T) {left : Nat} (hl : left ≤ 54) : ∃ e, lp (X1_wantShares_B137 S (P + 11 + t) P) FU (Int32.ofNat left, 0, M) = some e ∧ Fm [S + 13] M e ∧ StV e S (giveAll T t (dl T t) 9 (left, N)).2 T := by
  have ht10 : t < 10 := by have := hT.t.2; omega
  have so' := so
  unfold SOk at so'
  refine lp_inv (fun j q => ∃ (l : Nat) (N1 : Nat → Int32), l ≤ 54 ∧ q.1 = Int32.ofNat l ∧ q.2.1 = Int32.ofNat j ∧ Fm [S + 13] M q.2.2 ∧ StV q.2.2 S N1 T ∧ giveAll T t (dl T t) (9 - j) (l, N1) = giveAll T t (dl T t) 9 (left, N)) _ 9 ?_ ?_ ⟨left, N, hl, rfl, rfl, Fm.rfl' _ _, sv, rfl⟩ (by decide)
  · rintro j ⟨l0, i, M1⟩ hj ⟨l, N1, hl1, h0, h1, h2, h3, h4⟩
    replace h0 : l0 = Int32.ofNat l := h0
    replace h1 : i = Int32.ofNat j := h1
    replace h2 : Fm [S + 13] M M1 := h2
    replace h3 : StV M1 S N1 T := h3
    subst h0 h1
    have hS1 := hS.fm h2
    have hP1 := hP.fm h2
    have pv1 := pv.fm' hP hT po h2 (by simp <;> omega)
    have q4 := (pv1.2.2.1 t ht).2.2.2.2.1
    have hl0 := n_le0 (a := l) (by omega)
    obtain ⟨e, a1, a2, a3, a4⟩ := c_round hS1 hP1 hT pv1 h3 so po ht hl1 (Int32.ofNat j)
    have hge := give_le T t (dl T t) (l, N1)
    have hB : X1_wantShares_B137 S (P + 11 + t) P (Int32.ofNat l, Int32.ofNat j, M1) = if l = 0 then some (.inr M1) else some (.inl (e.1, Int32.ofNat (j + 1), e.2)) := by
      unfold X1_wantShares_B137 X1_wantShares_J219
      rw [if_neg (show ¬ (9 : Int32) ≤ Int32.ofNat j by rw [show (9 : Int32) = Int32.ofNat 9 from rfl, le_n (by omega) (by omega)]; omega)]
      simp (disch := omega) only [pt_I hP1, q4, Option.bind_some, a1, suc_n]
      by_cases c : l = 0
      · rw [if_pos (hl0.mpr c), if_pos c]
      · rw [if_neg (fun q => c (hl0.mp q)), if_neg c]
    rw [hB]
    by_cases c : l = 0
    · subst c
      rw [if_pos rfl]
      rw [give_zero] at h4
      right
      refine ⟨_, rfl, h2, ?_⟩
      rw [← h4]; exact h3
    · rw [if_neg c]
      left
      rw [show 9 - j = (9 - (j + 1)) + 1 by omega] at h4
      replace h4 : giveAll T t (dl T t) (9 - (j + 1)) ((dl T t).foldl (giveOne T t) (l, N1)) = giveAll T t (dl T t) 9 (left, N) := h4
      exact ⟨_, rfl, ((dl T t).foldl (giveOne T t) (l, N1)).1, ((dl T t).foldl (giveOne T t) (l, N1)).2, Nat.le_trans hge hl1, a2, rfl, h2.trans a3 (fun _ q => q) (fun _ q => q), a4, h4⟩
  · rintro ⟨l0, i, M1⟩ ⟨l, N1, hl1, h0, h1, h2, h3, h4⟩
    replace h1 : i = Int32.ofNat 9 := h1
    subst h1
    replace h4 : (l, N1) = giveAll T t (dl T t) 9 (left, N) := h4
    refine ⟨M1, ?_, h2, by rw [← h4]; exact h3⟩
    unfold X1_wantShares_B137
    exact if_pos (show (9 : Int32) ≤ Int32.ofNat 9 by decide)
theorem c_wantShares (hM : Ky M) (hS : StK M S P) (hP : PlK M P) (hT : TOk T) (pv : PlV M P T) (sv : StV M S N T) (so : SOk S) (po : POk P) {t : Nat} (ht : t < tt T) : ∃ M', sh_X1_wantShares 299 S (P + 11 + t) (mAsked T N t) M = some M' ∧ Fm [S + 13] M M' ∧ StV M' S (mShare T N t) T := by
  have ht10 : t < 10 := by have := hT.t.2; omega
  have hd6 := hT.d.2
  have so' := so
  unfold SOk at so'
  obtain ⟨b1, b2⟩ := asked_n (N := N) hT ht10
  have hSm := mS_le hT t (td T) (Nat.le_refl _)
  have p4 := (pv.2.2.1 t ht).2.2.2.2.1
  obtain ⟨e, a1, a2, a3, a4⟩ := c_share0 hS hP hT pv sv so po (a := an T N t) ht (by omega)
  have hl1 := shTo_1 T N t (an T N t) (td T) (Nat.le_refl _)
  obtain ⟨M', c1, c2, c3⟩ := c_rounds (hS.fm a3) (hP.fm a3) hT (pv.fm' hP hT po a3 (by simp <;> omega)) a4 so po ht (left := (shTo T N t (an T N t) (td T)).1) (by omega)
  refine ⟨M', ?_, a3.trans c2 (fun _ q => q) (fun _ q => q), c3⟩
  unfold sh_X1_wantShares X1_wantShares_F X1_wantShares_J225
  simp (disch := omega) only [k_O hM, s_plan hS, pt_I hP, p4, Option.bind_some, b1, c_wsum hP hT pv ht, a1, a2, c1]
end Rnd
