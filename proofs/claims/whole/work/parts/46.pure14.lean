/-! ===== PURE 14: one place of a State written; the class's flipTrips ===== -/
section Put
variable {M : Gm} {S P : Nat} {N T : Nat → Int32}
theorem StV.load (sv : StV M S N T) (hT : TOk T) {i : Nat} (hi : i < tz T) (x : Int32) : StV (sI M (S + 2) i x) S (ud N (5 + i) x) T := by
  have hz5 := hT.z.2
  have ht10 := hT.t.2
  have hd6 := hT.d.2
  have ne : ∀ a, a ≠ S + 2 → (sI M (S + 2) i x).1 a = M.1 a := fun a h => sI_ne _ _ _ h
  have k : ∀ j, j ≠ 5 + i → ud N (5 + i) x j = N j := fun j h => ud_ne _ _ h
  have eg : lg (ud N (5 + i) x) = lg N := by unfold lg; rw [k 144 (by omega)]
  unfold StV
  rw [ne S (by omega), ne (S + 1) (by omega), ne (S + 3) (by omega), ne (S + 4) (by omega), ne (S + 5) (by omega), ne (S + 6) (by omega), ne (S + 7) (by omega), ne (S + 8) (by omega), ne (S + 9) (by omega), ne (S + 10) (by omega), ne (S + 11) (by omega), ne (S + 12) (by omega), ne (S + 13) (by omega), ne (S + 14) (by omega), sI_own, eg, k 142 (by omega), k 143 (by omega), k 144 (by omega)]
  refine ⟨sv.1, fun z hz => ?_, fun z j hz hj => ?_, fun t ht => ?_, fun d hd => ?_, fun t j ht hj => ?_, fun j hj => ?_⟩
  · obtain ⟨w1, w2, w3, w4, w5, w6⟩ := sv.2.1 z hz
    rw [k (z) (by omega), k (20 + z) (by omega), k (25 + z) (by omega), k (15 + z) (by omega)]
    refine ⟨w1, ?_, w3, w4, w5, w6⟩
    by_cases e : z = i
    · subst e; rw [ud_at, ud_at]
    · rw [ud_ne _ _ e, ud_ne _ _ (by omega)]; exact w2
  · rw [k _ (by omega)]; exact sv.2.2.1 z j hz hj
  · rw [k (50 + t) (by omega), k (60 + t) (by omega)]; exact sv.2.2.2.1 t ht
  · rw [k (70 + d) (by omega), k (76 + d) (by omega)]; exact sv.2.2.2.2.1 d hd
  · rw [k _ (by omega)]; exact sv.2.2.2.2.2.1 t j ht hj
  · rw [k _ (by omega)]; exact sv.2.2.2.2.2.2 j hj
theorem StV.why (sv : StV M S N T) (hT : TOk T) {i : Nat} (hi : i < tz T) (x : Int32) : StV (sI M (S + 6) i x) S (ud N (15 + i) x) T := by
  have hz5 := hT.z.2
  have ht10 := hT.t.2
  have hd6 := hT.d.2
  have ne : ∀ a, a ≠ S + 6 → (sI M (S + 6) i x).1 a = M.1 a := fun a h => sI_ne _ _ _ h
  have k : ∀ j, j ≠ 15 + i → ud N (15 + i) x j = N j := fun j h => ud_ne _ _ h
  have eg : lg (ud N (15 + i) x) = lg N := by unfold lg; rw [k 144 (by omega)]
  unfold StV
  rw [ne S (by omega), ne (S + 1) (by omega), ne (S + 2) (by omega), ne (S + 3) (by omega), ne (S + 4) (by omega), ne (S + 5) (by omega), ne (S + 7) (by omega), ne (S + 8) (by omega), ne (S + 9) (by omega), ne (S + 10) (by omega), ne (S + 11) (by omega), ne (S + 12) (by omega), ne (S + 13) (by omega), ne (S + 14) (by omega), sI_own, eg, k 142 (by omega), k 143 (by omega), k 144 (by omega)]
  refine ⟨sv.1, fun z hz => ?_, fun z j hz hj => ?_, fun t ht => ?_, fun d hd => ?_, fun t j ht hj => ?_, fun j hj => ?_⟩
  · obtain ⟨w1, w2, w3, w4, w5, w6⟩ := sv.2.1 z hz
    rw [k (z) (by omega), k (5 + z) (by omega), k (20 + z) (by omega), k (25 + z) (by omega)]
    refine ⟨w1, w2, w3, w4, w5, ?_⟩
    by_cases e : z = i
    · subst e; rw [ud_at, ud_at]
    · rw [ud_ne _ _ e, ud_ne _ _ (by omega)]; exact w6
  · rw [k _ (by omega)]; exact sv.2.2.1 z j hz hj
  · rw [k (50 + t) (by omega), k (60 + t) (by omega)]; exact sv.2.2.2.1 t ht
  · rw [k (70 + d) (by omega), k (76 + d) (by omega)]; exact sv.2.2.2.2.1 d hd
  · rw [k _ (by omega)]; exact sv.2.2.2.2.2.1 t j ht hj
  · rw [k _ (by omega)]; exact sv.2.2.2.2.2.2 j hj
theorem StV.on (sv : StV M S N T) (hT : TOk T) {i : Nat} (hi : i < tt T) (x : Int32) : StV (sI M (S + 8) i x) S (ud N (50 + i) x) T := by
  have hz5 := hT.z.2
  have ht10 := hT.t.2
  have hd6 := hT.d.2
  have ne : ∀ a, a ≠ S + 8 → (sI M (S + 8) i x).1 a = M.1 a := fun a h => sI_ne _ _ _ h
  have k : ∀ j, j ≠ 50 + i → ud N (50 + i) x j = N j := fun j h => ud_ne _ _ h
  have eg : lg (ud N (50 + i) x) = lg N := by unfold lg; rw [k 144 (by omega)]
  unfold StV
  rw [ne S (by omega), ne (S + 1) (by omega), ne (S + 2) (by omega), ne (S + 3) (by omega), ne (S + 4) (by omega), ne (S + 5) (by omega), ne (S + 6) (by omega), ne (S + 7) (by omega), ne (S + 9) (by omega), ne (S + 10) (by omega), ne (S + 11) (by omega), ne (S + 12) (by omega), ne (S + 13) (by omega), ne (S + 14) (by omega), sI_own, eg, k 142 (by omega), k 143 (by omega), k 144 (by omega)]
  refine ⟨sv.1, fun z hz => ?_, fun z j hz hj => ?_, fun t ht => ?_, fun d hd => ?_, fun t j ht hj => ?_, fun j hj => ?_⟩
  · rw [k (z) (by omega), k (5 + z) (by omega), k (20 + z) (by omega), k (25 + z) (by omega), k (15 + z) (by omega)]; exact sv.2.1 z hz
  · rw [k _ (by omega)]; exact sv.2.2.1 z j hz hj
  · obtain ⟨w8, w9⟩ := sv.2.2.2.1 t ht
    rw [k (60 + t) (by omega)]
    refine ⟨?_, w9⟩
    by_cases e : t = i
    · subst e; rw [ud_at, ud_at]
    · rw [ud_ne _ _ e, ud_ne _ _ (by omega)]; exact w8
  · rw [k (70 + d) (by omega), k (76 + d) (by omega)]; exact sv.2.2.2.2.1 d hd
  · rw [k _ (by omega)]; exact sv.2.2.2.2.2.1 t j ht hj
  · rw [k _ (by omega)]; exact sv.2.2.2.2.2.2 j hj
theorem StV.crossed (sv : StV M S N T) (hT : TOk T) {i : Nat} (hi : i < tt T) (x : Int32) : StV (sI M (S + 9) i x) S (ud N (60 + i) x) T := by
  have hz5 := hT.z.2
  have ht10 := hT.t.2
  have hd6 := hT.d.2
  have ne : ∀ a, a ≠ S + 9 → (sI M (S + 9) i x).1 a = M.1 a := fun a h => sI_ne _ _ _ h
  have k : ∀ j, j ≠ 60 + i → ud N (60 + i) x j = N j := fun j h => ud_ne _ _ h
  have eg : lg (ud N (60 + i) x) = lg N := by unfold lg; rw [k 144 (by omega)]
  unfold StV
  rw [ne S (by omega), ne (S + 1) (by omega), ne (S + 2) (by omega), ne (S + 3) (by omega), ne (S + 4) (by omega), ne (S + 5) (by omega), ne (S + 6) (by omega), ne (S + 7) (by omega), ne (S + 8) (by omega), ne (S + 10) (by omega), ne (S + 11) (by omega), ne (S + 12) (by omega), ne (S + 13) (by omega), ne (S + 14) (by omega), sI_own, eg, k 142 (by omega), k 143 (by omega), k 144 (by omega)]
  refine ⟨sv.1, fun z hz => ?_, fun z j hz hj => ?_, fun t ht => ?_, fun d hd => ?_, fun t j ht hj => ?_, fun j hj => ?_⟩
  · rw [k (z) (by omega), k (5 + z) (by omega), k (20 + z) (by omega), k (25 + z) (by omega), k (15 + z) (by omega)]; exact sv.2.1 z hz
  · rw [k _ (by omega)]; exact sv.2.2.1 z j hz hj
  · obtain ⟨w8, w9⟩ := sv.2.2.2.1 t ht
    rw [k (50 + t) (by omega)]
    refine ⟨w8, ?_⟩
    by_cases e : t = i
    · subst e; rw [ud_at, ud_at]
    · rw [ud_ne _ _ e, ud_ne _ _ (by omega)]; exact w9
  · rw [k (70 + d) (by omega), k (76 + d) (by omega)]; exact sv.2.2.2.2.1 d hd
  · rw [k _ (by omega)]; exact sv.2.2.2.2.2.1 t j ht hj
  · rw [k _ (by omega)]; exact sv.2.2.2.2.2.2 j hj
theorem StV.position (sv : StV M S N T) (hT : TOk T) {i : Nat} (hi : i < td T) (x : Int32) : StV (sI M (S + 10) i x) S (ud N (70 + i) x) T := by
  have hz5 := hT.z.2
  have ht10 := hT.t.2
  have hd6 := hT.d.2
  have ne : ∀ a, a ≠ S + 10 → (sI M (S + 10) i x).1 a = M.1 a := fun a h => sI_ne _ _ _ h
  have k : ∀ j, j ≠ 70 + i → ud N (70 + i) x j = N j := fun j h => ud_ne _ _ h
  have eg : lg (ud N (70 + i) x) = lg N := by unfold lg; rw [k 144 (by omega)]
  unfold StV
  rw [ne S (by omega), ne (S + 1) (by omega), ne (S + 2) (by omega), ne (S + 3) (by omega), ne (S + 4) (by omega), ne (S + 5) (by omega), ne (S + 6) (by omega), ne (S + 7) (by omega), ne (S + 8) (by omega), ne (S + 9) (by omega), ne (S + 11) (by omega), ne (S + 12) (by omega), ne (S + 13) (by omega), ne (S + 14) (by omega), sI_own, eg, k 142 (by omega), k 143 (by omega), k 144 (by omega)]
  refine ⟨sv.1, fun z hz => ?_, fun z j hz hj => ?_, fun t ht => ?_, fun d hd => ?_, fun t j ht hj => ?_, fun j hj => ?_⟩
  · rw [k (z) (by omega), k (5 + z) (by omega), k (20 + z) (by omega), k (25 + z) (by omega), k (15 + z) (by omega)]; exact sv.2.1 z hz
  · rw [k _ (by omega)]; exact sv.2.2.1 z j hz hj
  · rw [k (50 + t) (by omega), k (60 + t) (by omega)]; exact sv.2.2.2.1 t ht
  · obtain ⟨w10, w11, w12⟩ := sv.2.2.2.2.1 d hd
    rw [k (76 + d) (by omega)]
    refine ⟨?_, w11, w12⟩
    by_cases e : d = i
    · subst e; rw [ud_at, ud_at]
    · rw [ud_ne _ _ e, ud_ne _ _ (by omega)]; exact w10
  · rw [k _ (by omega)]; exact sv.2.2.2.2.2.1 t j ht hj
  · rw [k _ (by omega)]; exact sv.2.2.2.2.2.2 j hj
theorem StV.held (sv : StV M S N T) (hT : TOk T) {i : Nat} (hi : i < td T) (x : Int32) : StV (sI M (S + 11) i x) S (ud N (76 + i) x) T := by
  have hz5 := hT.z.2
  have ht10 := hT.t.2
  have hd6 := hT.d.2
  have ne : ∀ a, a ≠ S + 11 → (sI M (S + 11) i x).1 a = M.1 a := fun a h => sI_ne _ _ _ h
  have k : ∀ j, j ≠ 76 + i → ud N (76 + i) x j = N j := fun j h => ud_ne _ _ h
  have eg : lg (ud N (76 + i) x) = lg N := by unfold lg; rw [k 144 (by omega)]
  unfold StV
  rw [ne S (by omega), ne (S + 1) (by omega), ne (S + 2) (by omega), ne (S + 3) (by omega), ne (S + 4) (by omega), ne (S + 5) (by omega), ne (S + 6) (by omega), ne (S + 7) (by omega), ne (S + 8) (by omega), ne (S + 9) (by omega), ne (S + 10) (by omega), ne (S + 12) (by omega), ne (S + 13) (by omega), ne (S + 14) (by omega), sI_own, eg, k 142 (by omega), k 143 (by omega), k 144 (by omega)]
  refine ⟨sv.1, fun z hz => ?_, fun z j hz hj => ?_, fun t ht => ?_, fun d hd => ?_, fun t j ht hj => ?_, fun j hj => ?_⟩
  · rw [k (z) (by omega), k (5 + z) (by omega), k (20 + z) (by omega), k (25 + z) (by omega), k (15 + z) (by omega)]; exact sv.2.1 z hz
  · rw [k _ (by omega)]; exact sv.2.2.1 z j hz hj
  · rw [k (50 + t) (by omega), k (60 + t) (by omega)]; exact sv.2.2.2.1 t ht
  · obtain ⟨w10, w11, w12⟩ := sv.2.2.2.2.1 d hd
    rw [k (70 + d) (by omega)]
    refine ⟨w10, ?_, w12⟩
    by_cases e : d = i
    · subst e; rw [ud_at, ud_at]
    · rw [ud_ne _ _ e, ud_ne _ _ (by omega)]; exact w11
  · rw [k _ (by omega)]; exact sv.2.2.2.2.2.1 t j ht hj
  · rw [k _ (by omega)]; exact sv.2.2.2.2.2.2 j hj
/-- a place that no State holds -/
theorem StV.free (sv : StV M S N T) (hT : TOk T) {i : Nat} (hi : i < 5) (x : Int32) : StV M S (ud N (10 + i) x) T := by
  have hz5 := hT.z.2
  have k : ∀ j, j ≠ 10 + i → ud N (10 + i) x j = N j := fun j h => ud_ne _ _ h
  have eg : lg (ud N (10 + i) x) = lg N := by unfold lg; rw [k 144 (by omega)]
  unfold StV
  rw [eg, k 142 (by omega), k 143 (by omega), k 144 (by omega)]
  refine ⟨sv.1, fun z hz => ?_, fun z j hz hj => ?_, fun t ht => ?_, fun d hd => ?_, fun t j ht hj => ?_, fun j hj => ?_⟩
  · rw [k z (by omega), k (5 + z) (by omega), k (20 + z) (by omega), k (25 + z) (by omega), k (15 + z) (by omega)]; exact sv.2.1 z hz
  · rw [k _ (by omega)]; exact sv.2.2.1 z j hz hj
  · rw [k _ (by omega), k _ (by omega)]; exact sv.2.2.2.1 t ht
  · rw [k _ (by omega), k _ (by omega)]; exact sv.2.2.2.2.1 d hd
  · rw [k _ (by omega)]; exact sv.2.2.2.2.2.1 t j ht hj
  · rw [k _ (by omega)]; exact sv.2.2.2.2.2.2 j hj
theorem StV.fm {L : List Nat} {M' : Gm} (sv : StV M S N T) (e : Fm L M M') (h : ∀ a, a ∈ L → a < S ∨ S + 14 < a) : StV M' S N T := by
  have ne : ∀ a, S ≤ a → a ≤ S + 14 → M'.1 a = M.1 a := fun a h1 h2 => e.2 a (fun q => by have := h a q; omega)
  unfold StV at *
  rw [ne S (by omega) (by omega), ne (S + 1) (by omega) (by omega), ne (S + 2) (by omega) (by omega), ne (S + 3) (by omega) (by omega), ne (S + 4) (by omega) (by omega), ne (S + 5) (by omega) (by omega), ne (S + 6) (by omega) (by omega), ne (S + 7) (by omega) (by omega), ne (S + 8) (by omega) (by omega), ne (S + 9) (by omega) (by omega), ne (S + 10) (by omega) (by omega), ne (S + 11) (by omega) (by omega), ne (S + 12) (by omega) (by omega), ne (S + 13) (by omega) (by omega), ne (S + 14) (by omega) (by omega)]
  exact sv
theorem c_turn (hS : StK M S P) (hP : PlK M P) (hT : TOk T) (pv : PlV M P T) (sv : StV M S N T) (so : SOk S) (po : POk P) {k : Nat} (hL : LgOk N k) (hk : k < 2147483600) {t : Nat} (ht : t < tt T) :
    ∃ M', X1_flipTrips_B2 S (Int32.ofNat t, M) = some (.inl (Int32.ofNat (t + 1), M')) ∧ Fm [S, S + 8, S + 9, S + 14] M M' ∧ StV M' S (mTurn T N t) T := by
  have ht' := hT.t
  have ht10 : t < 10 := by omega
  have hz5 := hT.z.2
  have so' := so
  have po' := po
  unfold SOk at so'
  unfold POk at po'
  obtain ⟨⟨z, hz, ez⟩, -⟩ := hT.2.2.1 t ht
  have nz : (T (15 + t)).toNatClampNeg = z := by rw [ez]; exact nn z (by omega)
  obtain ⟨p0, -, p2, p3, -, -⟩ := pv.2.2.1 t ht
  rw [ez] at p0
  obtain ⟨von, vcr⟩ := sv.2.2.2.1 t ht
  obtain ⟨-, -, -, vtemp, -, -⟩ := sv.2.1 z hz
  have hSu := hS.sI (S + 8) t 1
  have hPu := hP.sI (S + 8) t 1
  have hSu2 := hSu.sI (S + 9) t (N (60 + t) + 1)
  have hPu2 := hPu.sI (S + 9) t (N (60 + t) + 1)
  have hSd := hS.sI (S + 8) t 0
  have hPd := hP.sI (S + 8) t 0
  have sv1 := ((sv.on hT ht 1).crossed hT ht (N (60 + t) + 1))
  have sv2 := sv.on hT ht 0
  obtain ⟨Mu, u1, u2, u3⟩ := c_addLog hSu2 sv1 so hT (k := k) ((hL.ud _ (by omega)).ud _ (by omega)) hk 1 (Int32.ofNat z) (Int32.ofNat t)
  obtain ⟨Md, d1, d2, d3⟩ := c_addLog hSd sv2 so hT (k := k) (hL.ud _ (by omega)) hk 2 (Int32.ofNat z) (Int32.ofNat t)
  have hJ : X1_flipTrips_J82 S (Int32.ofNat t) (P + 11 + t) (N (20 + z)) M = if N (50 + t) = 1 ∧ ¬ T (35 + t) - T (45 + t) ≤ N (20 + z) then some (.inl (Int32.ofNat (t + 1), Md)) else some (.inl (Int32.ofNat (t + 1), M)) := by
    unfold X1_flipTrips_J82 X1_flipTrips_J123
    simp (disch := omega) only [s_on hS, sl8 hS, von, Option.bind_some, pt_I hP, p2, p3, ss8 hS, pt_I hPd, sI_ne, p0, d1, suc_n]
    by_cases c1 : N (50 + t) = 1
    · rw [if_pos c1]
      by_cases c2 : T (35 + t) - T (45 + t) ≤ N (20 + z)
      · rw [if_pos c2, if_neg (fun q => q.2 c2)]
      · rw [if_neg c2, if_pos ⟨c1, c2⟩]
    · rw [if_neg c1, if_neg (fun q => c1 q.1)]
  have hB : X1_flipTrips_B2 S (Int32.ofNat t, M) = if N (50 + t) = 0 ∧ ¬ N (20 + z) < T (35 + t) then some (.inl (Int32.ofNat (t + 1), Mu)) else if N (50 + t) = 1 ∧ ¬ T (35 + t) - T (45 + t) ≤ N (20 + z) then some (.inl (Int32.ofNat (t + 1), Md)) else some (.inl (Int32.ofNat (t + 1), M)) := by
    unfold X1_flipTrips_B2 X1_flipTrips_J123
    simp (disch := omega) only [s_plan hS, pg_I hP, pv.1.2.1, ht'.1, Option.bind_some, le_n, p_trips hP, p_trip hP, s_temp hS, pt_I hP, p0, sl4 hS, vtemp, s_on hS, sl8 hS, von, p2, ss8 hS, s_crossed hSu, sl9 hSu, sI_ne, vcr, ss9 hSu, pt_I hPu2, u1, suc_n, hJ]
    rw [if_neg (show ¬ tt T ≤ t by omega)]
    by_cases c0 : N (50 + t) = 0
    · rw [if_pos c0]
      by_cases c1 : N (20 + z) < T (35 + t)
      · rw [if_pos c1, if_neg (c := N (50 + t) = 0 ∧ ¬ N (20 + z) < T (35 + t)) (fun q => q.2 c1)]
      · rw [if_neg c1, if_pos (c := N (50 + t) = 0 ∧ ¬ N (20 + z) < T (35 + t)) ⟨c0, c1⟩]
    · rw [if_neg c0, if_neg (c := N (50 + t) = 0 ∧ ¬ N (20 + z) < T (35 + t)) (fun q => c0 q.1)]
  rw [hB]
  unfold mTurn
  rw [nz, ez]
  have fu : Fm [S, S + 8, S + 9, S + 14] M Mu := ((((Fm.rfl' [S, S + 8, S + 9, S + 14] M).set (a := S + 8) (by simp) t 1).set (a := S + 9) (by simp) t (N (60 + t) + 1))).trans u2 (fun _ q => q) (by simp <;> omega)
  have fd : Fm [S, S + 8, S + 9, S + 14] M Md := (((Fm.rfl' [S, S + 8, S + 9, S + 14] M).set (a := S + 8) (by simp) t 0)).trans d2 (fun _ q => q) (by simp <;> omega)
  by_cases c0 : N (50 + t) = 0 ∧ ¬ N (20 + z) < T (35 + t)
  · rw [if_pos c0, if_pos c0]
    exact ⟨Mu, rfl, fu, u3⟩
  · rw [if_neg c0, if_neg c0]
    by_cases c1 : N (50 + t) = 1 ∧ ¬ T (35 + t) - T (45 + t) ≤ N (20 + z)
    · rw [if_pos c1, if_pos c1]
      exact ⟨Md, rfl, fd, d3⟩
    · rw [if_neg c1, if_neg c1]
      exact ⟨M, rfl, Fm.rfl' _ _, sv⟩
theorem c_flipTrips (hM : Ky M) (hS : StK M S P) (hP : PlK M P) (hT : TOk T) (pv : PlV M P T) (sv : StV M S N T) (so : SOk S) (po : POk P) {k : Nat} (hL : LgOk N k) (hk : k < 2147483500) : ∃ M', sh_X1_flipTrips 299 S M = some M' ∧ Fm [S, S + 8, S + 9, S + 14] M M' ∧ StV M' S (itR (mTurn T) N (tt T)) T := by
  have ht := hT.t
  have so' := so
  unfold SOk at so'
  have key : ∃ M', lp (X1_flipTrips_B2 S) FU (0, M) = some M' ∧ (Fm [S, S + 8, S + 9, S + 14] M M' ∧ StV M' S (itR (mTurn T) N (tt T)) T) := by
    refine lp_inv (fun j q => q.1 = Int32.ofNat j ∧ Fm [S, S + 8, S + 9, S + 14] M q.2 ∧ StV q.2 S (itR (mTurn T) N j) T) _ (tt T) ?_ ?_ ⟨rfl, Fm.rfl' _ _, sv⟩ (by omega)
    · rintro j ⟨i, M1⟩ hj ⟨h1, h2, h3⟩
      replace h1 : i = Int32.ofNat j := h1
      subst h1
      obtain ⟨M2, a1, a2, a3⟩ := c_turn (hS.fm h2) (hP.fm h2) hT (pv.fm' hP hT po h2 (by simp <;> omega)) h3 so po (k := k + j) (Lg_turns hT hL (by omega) j (by omega)) (by omega) hj
      exact Or.inl ⟨_, a1, rfl, h2.trans a2 (fun _ q => q) (fun _ q => q), a3⟩
    · rintro ⟨i, M1⟩ ⟨h1, h2, h3⟩
      replace h1 : i = Int32.ofNat (tt T) := h1
      subst h1
      refine ⟨M1, ?_, h2, h3⟩
      have hP1 := hP.fm h2
      have e15 : M1.1 P 6 = Int32.ofNat (tt T) := (pv.fm' hP hT po h2 (by simp <;> omega)).1.2.1.trans ht.1
      unfold X1_flipTrips_B2
      simp (disch := omega) only [s_plan (hS.fm h2), pg_I hP1, e15, Option.bind_some, le_n]
      rw [if_pos (Nat.le_refl _)]
  obtain ⟨M', k1, k2, k3⟩ := key
  refine ⟨M', ?_, k2, k3⟩
  unfold sh_X1_flipTrips X1_flipTrips_F
  simp only [k_O hM, Option.bind_some, k1]
end Put

