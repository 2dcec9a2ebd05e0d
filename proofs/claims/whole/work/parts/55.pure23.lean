/-! ===== PURE 23: bounds under moves; the class's moveDevices ===== -/
theorem mostW_n {N T : Nat → Int32} (hT : TOk T) (h : NOk N T) {d : Nat} (hd : d < td T) : ∀ t, t ≤ tt T → isN (mostW T N d t) 0 (mn T d) := by
  have hd6 := hT.d.2
  have ht10 := hT.t.2
  intro t
  induction t with
  | zero => intro _; exact ⟨0, rfl, Nat.le_refl _, Nat.zero_le _⟩
  | succ t ih =>
    intro ht
    have a := ih (by omega)
    have hw := hT.wN (t := t) (d := d) (by omega) (by omega)
    have hl0 := n_le0 (a := wn T t d) (by omega)
    show isN (if T (79 + 6 * t + d) ≤ 0 then mostW T N d t else maxI (mostW T N d t) (N (82 + 6 * t + d))) 0 (mn T d)
    rw [hw.1]
    by_cases c : wn T t d = 0
    · rw [if_pos (hl0.mpr c)]; exact a
    · rw [if_neg (fun q => c (hl0.mp q))]
      unfold maxI
      split
      · exact (h.2.2.2.2.1 t d (by omega) (by omega)).2.2 c
      · exact a
theorem goal_n {N T : Nat → Int32} (hT : TOk T) (h : NOk N T) {d : Nat} (hd : d < td T) : isN (goalD T N d) 0 (mn T d) := by
  unfold goalD
  split
  · exact mostW_n hT h hd (tt T) (Nat.le_refl _)
  · rename_i c
    obtain ⟨-, h1, h2⟩ := h.2.2.2.1 d hd
    have hm : (-1 : Int32).toInt = -1 := rfl
    refine isN_of ?_ h2
    rcases Int.lt_or_le (N (76 + d)).toInt 0 with g | g
    · exact absurd (tI_eq (by rw [hm]; omega)) c
    · exact g
theorem NOk.move {N T : Nat → Int32} (hT : TOk T) (h : NOk N T) {d : Nat} (hd : d < td T) : NOk (mMove T N d) T := by
  have hz5 := hT.z.2
  have ht10 := hT.t.2
  have hd6 := hT.d.2
  have k : ∀ j, j ≠ 70 + d → mMove T N d j = N j := fun j h => mMove_ne h
  have hm := hT.mN hd
  have a := isN_tI (h.2.2.2.1 d hd).1 (by omega)
  have b := isN_tI (goal_n hT h hd) (by omega)
  have h1' : (1 : Int32).toInt = 1 := rfl
  have key : isN (moveI (T (55 + d)) (N (70 + d)) (goalD T N d)) 0 (mn T d) := by
    unfold moveI
    split
    · exact goal_n hT h hd
    · split
      · split
        · exact (h.2.2.2.1 d hd).1
        · rename_i c1 c2
          rw [tI_le] at c1 c2
          have e : (N (70 + d) - 1).toInt = (N (70 + d)).toInt - 1 := by rw [tI_sub (by omega) (by omega), h1']
          exact isN_of (by rw [e]; omega) (by rw [e]; omega)
      · rename_i c1
        rw [tI_le] at c1
        have e : (N (70 + d) + 1).toInt = (N (70 + d)).toInt + 1 := by rw [tI_add (by omega) (by omega), h1']
        exact isN_of (by rw [e]; omega) (by rw [e]; omega)
  refine ⟨fun z hz => ?_, fun z i hz hi => ?_, fun u hu => ?_, fun y hy => ?_, fun u y hu hy => ?_, ?_⟩
  · rw [k z (by omega), k (5 + z) (by omega), k (20 + z) (by omega), k (25 + z) (by omega), k (15 + z) (by omega), k (10 + z) (by omega)]; exact h.1 z hz
  · rw [k _ (by omega)]; exact h.2.1 z i hz hi
  · rw [k _ (by omega)]; exact h.2.2.1 u hu
  · rw [k (76 + y) (by omega)]
    refine ⟨?_, (h.2.2.2.1 y hy).2⟩
    by_cases e : y = d
    · subst e
      unfold mMove
      rw [ud_at]; exact key
    · rw [k _ (by omega)]; exact (h.2.2.2.1 y hy).1
  · rw [k _ (by omega)]; exact h.2.2.2.2.1 u y hu hy
  · rw [k _ (by omega)]; exact h.2.2.2.2.2
theorem NOk.moves {N T : Nat → Int32} (hT : TOk T) (h : NOk N T) : ∀ j, j ≤ td T → NOk (itR (mMove T) N j) T := by
  intro j
  induction j with
  | zero => intro _; exact h
  | succ j ih => intro hj; exact (ih (by omega)).move hT (by omega)
theorem c_move1 {M : Gm} {S P : Nat} {N T : Nat → Int32} (hS : StK M S P) (hP : PlK M P) (hT : TOk T) (pv : PlV M P T) (sv : StV M S N T) (hN : NOk N T) {d : Nat} (hd : d < td T) : X1_moveDevices_B2 S (Int32.ofNat d, M) = some (.inl (Int32.ofNat (d + 1), sI M (S + 10) d (moveI (T (55 + d)) (N (70 + d)) (goalD T N d)))) := by
  have hd' := hT.d
  obtain ⟨v1, v2, -⟩ := sv.2.2.2.2.1 d hd
  obtain ⟨w0, -, -⟩ := pv.2.2.2.1 d hd
  have hm := hT.mN hd
  have hmk := (hT.2.2.2.1 d hd).1
  have hs : isN (N (70 + d)) 0 9 := isN_w (hN.2.2.2.1 d hd).1 (Nat.le_refl _) hm.2.2
  have hJ : ∀ to, X1_moveDevices_J37 S (Int32.ofNat d) to M = some (.inl (Int32.ofNat (d + 1), sI M (S + 10) d (moveI (T (55 + d)) (N (70 + d)) to))) := fun to => by
    unfold X1_moveDevices_J37
    simp (disch := omega) only [s_position hS, s_plan hS, p_devices hP, p_device hP, pd_I hP, w0, sl10 hS, v1, Option.bind_some, c_moved hmk hs, ss10 hS, suc_n]
  unfold X1_moveDevices_B2 goalD
  simp (disch := omega) only [s_plan hS, pg_I hP, pv.1.2.2.1, hd'.1, Option.bind_some, le_n, s_held hS, sl11 hS, v2, c_greatest hS hP hT pv sv, hJ]
  rw [if_neg (show ¬ td T ≤ d by omega)]
  split <;> rfl

