/-! ===== PURE 22: the class's greatestWanted ===== -/
section Gre
variable {M : Gm} {S P : Nat} {N T : Nat → Int32}
theorem dl_take {t j : Nat} (hj : j < (dl T t).length) : (dl T t).take (j + 1) = (dl T t).take j ++ [di T t j] := by
  unfold di
  rw [List.take_add_one, List.getD_eq_getElem?_getD, List.getElem?_eq_getElem hj]
  rfl
theorem c_greatest (hS : StK M S P) (hP : PlK M P) (hT : TOk T) (pv : PlV M P T) (sv : StV M S N T) {d : Nat} (hd : d < 6) : sh_X7_greatestWanted S (Int32.ofNat d) M = some (mostW T N d (tt T)) := by
  have ht10 := hT.t.2
  have f2 := fb_60 hT
  have inner : ∀ t, t < tt T → ∀ i, i ≤ (dl T t).length → ∀ m e, lp (X7_greatestWanted_B4 S (Int32.ofNat d) M) m (if d ∈ (dl T t).take i then maxI (mostW T N d t) (N (82 + 6 * t + d)) else mostW T N d t, Int32.ofNat (fb T t + i)) = some e → lp (X7_greatestWanted_B4 S (Int32.ofNat d) M) (m + i) (mostW T N d t, Int32.ofNat (fb T t)) = some e := by
    intro t ht i
    induction i with
    | zero => intro _ m e h; simpa using h
    | succ i ih =>
      intro hi m e h
      obtain ⟨h60, g1, -, -, -⟩ := bind_at hP hT pv ht (show i < (dl T t).length by omega)
      have dd := di_ok hT (t := t) (i := i) (by omega) (by omega)
      have hv := sv.2.2.2.2.2.1 t i ht (by omega)
      have f0 : fb T (t + 1) = fb T t + (dl T t).length := rfl
      have f1 := fb_mono T (show t + 1 ≤ tt T by omega)
      have hnd := (dl_ok hT (t := t) (by omega)).nodup
      have hn : di T t i ∉ (dl T t).take i := fun q => by
        have h2 : ((dl T t).take (i + 1)).Nodup := List.Sublist.nodup (List.take_sublist _ _) hnd
        rw [dl_take (by omega), List.nodup_append] at h2
        exact h2.2.2 _ q _ (by simp) rfl
      rw [show m + (i + 1) = (m + 1) + i by omega]
      refine ih (by omega) (m + 1) e ?_
      rw [lp_succ]
      have hB : X7_greatestWanted_B4 S (Int32.ofNat d) M (if d ∈ (dl T t).take i then maxI (mostW T N d t) (N (82 + 6 * t + d)) else mostW T N d t, Int32.ofNat (fb T t + i)) = some (.inl (if d ∈ (dl T t).take (i + 1) then maxI (mostW T N d t) (N (82 + 6 * t + d)) else mostW T N d t, Int32.ofNat (fb T t + (i + 1)))) := by
        unfold X7_greatestWanted_B4 X7_greatestWanted_J42
        simp (disch := omega) only [s_plan hS, pg_I hP, pv.1.2.2.2.1, Option.bind_some, le_n, p_binds hP, p_bind hP, g1, eq_n, s_wanted hS, sl13 hS, hv, m_max, suc_n]
        rw [if_neg (show ¬ fb T (tt T) ≤ fb T t + i by omega), dl_take (by omega)]
        by_cases c : di T t i = d
        · subst c
          rw [if_pos rfl, if_neg hn, if_pos (by simp)]
          rfl
        · rw [if_neg c]
          have : d ∈ (dl T t).take i ++ [di T t i] ↔ d ∈ (dl T t).take i := by
            simp only [List.mem_append, List.mem_singleton]
            exact ⟨fun q => q.elim id (fun q => absurd q.symm c), Or.inl⟩
          by_cases c2 : d ∈ (dl T t).take i
          · rw [if_pos c2, if_pos (this.mpr c2)]; rfl
          · rw [if_neg c2, if_neg (fun q => c2 (this.mp q))]; rfl
      rw [hB]
      exact h
  have outer : ∀ t, t ≤ tt T → ∀ m e, lp (X7_greatestWanted_B4 S (Int32.ofNat d) M) m (mostW T N d t, Int32.ofNat (fb T t)) = some e → lp (X7_greatestWanted_B4 S (Int32.ofNat d) M) (m + fb T t) (0, 0) = some e := by
    intro t
    induction t with
    | zero => intro _ m e h; exact h
    | succ t ih =>
      intro ht m e h
      have hw := hT.wN (t := t) (d := d) (by omega) hd
      have hmem := (dl_ok hT (t := t) (by omega)).2 d
      have hl0 := n_le0 (a := wn T t d) (by omega)
      have em : mostW T N d (t + 1) = if d ∈ (dl T t).take (dl T t).length then maxI (mostW T N d t) (N (82 + 6 * t + d)) else mostW T N d t := by
        show (if T (79 + 6 * t + d) ≤ 0 then mostW T N d t else maxI (mostW T N d t) (N (82 + 6 * t + d))) = _
        rw [List.take_length, hw.1]
        by_cases c : wn T t d = 0
        · rw [if_pos (hl0.mpr c), if_neg (fun q => (hmem.mp q).2 c)]
        · rw [if_neg (fun q => c (hl0.mp q)), if_pos (hmem.mpr ⟨hd, c⟩)]
      rw [em] at h
      have a := inner t (by omega) (dl T t).length (Nat.le_refl _) m e h
      have b := ih (by omega) (m + (dl T t).length) e a
      show lp _ (m + (fb T t + (dl T t).length)) _ = _
      rw [show m + (fb T t + (dl T t).length) = m + (dl T t).length + fb T t by omega]
      exact b
  have hend : X7_greatestWanted_B4 S (Int32.ofNat d) M (mostW T N d (tt T), Int32.ofNat (fb T (tt T))) = some (.inr (mostW T N d (tt T))) := by
    unfold X7_greatestWanted_B4
    simp (disch := omega) only [s_plan hS, pg_I hP, pv.1.2.2.2.1, Option.bind_some, le_n]
    rw [if_pos (Nat.le_refl _)]
  have hl : lp (X7_greatestWanted_B4 S (Int32.ofNat d) M) FU (0, 0) = some (mostW T N d (tt T)) :=
    lp_more _ (1 + fb T (tt T)) FU _ _ (by rw [FU_eq]; omega) (outer (tt T) (Nat.le_refl _) 1 _ (by rw [lp_succ, hend]; rfl))
  unfold sh_X7_greatestWanted X7_greatestWanted_F
  simp only [s_O hS, Option.bind_some, hl]
end Gre

