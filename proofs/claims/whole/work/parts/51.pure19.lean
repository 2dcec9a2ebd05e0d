/-! ===== PURE 19: the class's shutZones, ended ===== -/
section Shut2
variable {M : Gm} {S P : Nat} {N T : Nat → Int32}
theorem c_shutZone (hS : StK M S P) (hT : TOk T) (sv : StV M S N T) (so : SOk S) {k : Nat} (hL : LgOk N k) (hk : k < 2147483600) {z : Nat} (hz : z < tz T) (t : Int32) (r : Int32) : ∃ M', sh_X7_shutZone S (Int32.ofNat z) t r M = some M' ∧ Fm [S, S + 6, S + 14] M M' ∧ StV M' S (mLogs (ud (ud N (10 + z) 1) (15 + z) r) (if r = 1 then 3 else 4) (Int32.ofNat z) t) T := by
  have hz5 := hT.z.2
  have sv1 := (sv.free hT (i := z) (by omega) 1).why hT hz r
  have hS1 := hS.sI (S + 6) z r
  obtain ⟨M', a1, a2, a3⟩ := c_addLog hS1 sv1 so hT (k := k) ((hL.ud _ (by omega)).ud _ (by omega)) hk (if r = 1 then 3 else 4) (Int32.ofNat z) t
  refine ⟨M', ?_, ((Fm.rfl' [S, S + 6, S + 14] M).set (a := S + 6) (by simp) z r).trans a2 (fun _ q => q) (by simp <;> omega), a3⟩
  unfold sh_X7_shutZone X7_shutZone_F X7_shutZone_J18
  simp (disch := omega) only [s_O hS, s_why hS, ss6 hS, Option.bind_some]
  by_cases c : r = 1
  · rw [if_pos c] at a1 ⊢
    rw [a1]; rfl
  · rw [if_neg c] at a1 ⊢
    rw [a1]; rfl
theorem c_shut1 (hS : StK M S P) (hP : PlK M P) (hT : TOk T) (pv : PlV M P T) (sv : StV M S N T) (hN : NOk N T) (so : SOk S) {k : Nat} (hL : LgOk N k) (hk : k < 2147483600) {t : Nat} (ht : t < tt T) :
    ∃ M', X1_shutZones_B2 S (Int32.ofNat t, M) = some (.inl (Int32.ofNat (t + 1), M')) ∧ Fm [S, S + 6, S + 14] M M' ∧ StV M' S (mShut T N t) T := by
  have ht' := hT.t
  have ht10 : t < 10 := by omega
  have hz5 := hT.z.2
  obtain ⟨⟨z, hz, ez⟩, -⟩ := hT.2.2.1 t ht
  have nz : (T (15 + t)).toNatClampNeg = z := by rw [ez]; exact nn z (by omega)
  obtain ⟨p0, p1, -, -, -, -⟩ := pv.2.2.1 t ht
  rw [ez] at p0
  have von := (sv.2.2.2.1 t ht).1
  have vwhy := (sv.2.1 z hz).2.2.2.2.2
  have n6 := (hN.1 z hz).2.2.2.2.2
  have bon := hN.2.2.1 t ht
  obtain ⟨x, x1, x2⟩ := c_isForeseen hS hP hT pv sv hN ht
  obtain ⟨Ma, a1, a2, a3⟩ := c_shutZone hS hT sv so hL hk hz (Int32.ofNat t) 1
  obtain ⟨Mb, b1, b2, b3⟩ := c_shutZone hS hT sv so hL hk hz (Int32.ofNat t) 2
  have hB : X1_shutZones_B2 S (Int32.ofNat t, M) = if T (25 + t) = 3 then (if N (15 + z) = 0 then (if N (50 + t) = 1 then some (.inl (Int32.ofNat (t + 1), Ma)) else if x = 0 then some (.inl (Int32.ofNat (t + 1), M)) else some (.inl (Int32.ofNat (t + 1), Mb))) else some (.inl (Int32.ofNat (t + 1), M))) else some (.inl (Int32.ofNat (t + 1), M)) := by
    unfold X1_shutZones_B2 X1_shutZones_J86
    simp (disch := omega) only [s_plan hS, pg_I hP, pv.1.2.1, ht'.1, Option.bind_some, le_n, p_trips hP, p_trip hP, pt_I hP, p1, p0, c_isShut hS, vwhy, s_on hS, sl8 hS, von, x1, a1, b1, suc_n]
    rw [if_neg (show ¬ tt T ≤ t by omega)]
    by_cases c : N (15 + z) = 0
    · simp only [if_pos c]
      rfl
    · simp only [if_neg c]
      rfl
  rw [hB]
  unfold mShut
  rw [nz]
  by_cases c3 : T (25 + t) = 3
  · rw [if_pos c3, if_pos c3]
    by_cases c1 : N (15 + z) = 0
    · rw [if_pos c1] at n6 ⊢
      rw [n6, if_neg (show ¬ (0 : Int32) = 1 by decide)]
      by_cases c2 : N (50 + t) = 1
      · rw [if_pos c2, if_neg (fun q => by rw [c2] at q; exact absurd q.1 (by decide))]
        refine ⟨Ma, rfl, a2, ?_⟩
        unfold shutNow
        rw [nz, if_pos c2, if_pos c2, ez]
        exact a3
      · rw [if_neg c2]
        have c0 : N (50 + t) = 0 := by
          obtain ⟨n, e, -, h1⟩ := bon
          have hn : n = 0 ∨ n = 1 := by omega
          rcases hn with q | q
          · subst q; exact e
          · subst q; exact absurd e c2
        by_cases cx : x = 0
        · rw [if_pos cx, if_pos ⟨c0, x2.mp cx⟩]
          exact ⟨M, rfl, Fm.rfl' _ _, sv⟩
        · rw [if_neg cx, if_neg (fun q => cx (x2.mpr q.2))]
          refine ⟨Mb, rfl, b2, ?_⟩
          unfold shutNow
          rw [nz, if_neg c2, if_neg c2, ez]
          exact b3
    · rw [if_neg c1] at n6 ⊢
      rw [if_pos n6]
      exact ⟨M, rfl, Fm.rfl' _ _, sv⟩
  · rw [if_neg c3, if_neg c3]
    exact ⟨M, rfl, Fm.rfl' _ _, sv⟩
end Shut2

