/-! ===== PURE 24: moveDevices as a loop ===== -/
theorem c_moveDevices {M : Gm} {S P : Nat} {N T : Nat → Int32} (hM : Ky M) (hS : StK M S P) (hP : PlK M P) (hT : TOk T) (pv : PlV M P T) (sv : StV M S N T) (hN : NOk N T) (so : SOk S) (po : POk P) : ∃ M', sh_X1_moveDevices 299 S M = some M' ∧ Fm [S + 10] M M' ∧ StV M' S (itR (mMove T) N (td T)) T := by
  have hd := hT.d
  have so' := so
  unfold SOk at so'
  have key : ∃ M', lp (X1_moveDevices_B2 S) FU (0, M) = some M' ∧ (Fm [S + 10] M M' ∧ StV M' S (itR (mMove T) N (td T)) T) := by
    refine lp_inv (fun j q => q.1 = Int32.ofNat j ∧ Fm [S + 10] M q.2 ∧ StV q.2 S (itR (mMove T) N j) T) _ (td T) ?_ ?_ ⟨rfl, Fm.rfl' _ _, sv⟩ (by omega)
    · rintro j ⟨i, M1⟩ hj ⟨h1, h2, h3⟩
      replace h1 : i = Int32.ofNat j := h1
      subst h1
      have a1 := c_move1 (hS.fm h2) (hP.fm h2) hT (pv.fm' hP hT po h2 (by simp <;> omega)) h3 (hN.moves hT j (by omega)) hj
      exact Or.inl ⟨_, a1, rfl, h2.set (by simp) _ _, StV.position h3 hT hj _⟩
    · rintro ⟨i, M1⟩ ⟨h1, h2, h3⟩
      replace h1 : i = Int32.ofNat (td T) := h1
      subst h1
      refine ⟨M1, ?_, h2, h3⟩
      have hP1 := hP.fm h2
      have e15 : M1.1 P 7 = Int32.ofNat (td T) := (pv.fm' hP hT po h2 (by simp <;> omega)).1.2.2.1.trans hd.1
      unfold X1_moveDevices_B2
      simp (disch := omega) only [s_plan (hS.fm h2), pg_I hP1, e15, Option.bind_some, le_n]
      rw [if_pos (Nat.le_refl _)]
  obtain ⟨M', k1, k2, k3⟩ := key
  refine ⟨M', ?_, k2, k3⟩
  unfold sh_X1_moveDevices X1_moveDevices_F
  simp only [k_O hM, Option.bind_some, k1]
