/-! ===== PURE 20: bounds under shuts; shutZones as a loop ===== -/
theorem NOk.shut {N T : Nat → Int32} (hT : TOk T) (h : NOk N T) {t : Nat} (ht : t < tt T) : NOk (mShut T N t) T := by
  have hz5 := hT.z.2
  have ht10 := hT.t.2
  have hd6 := hT.d.2
  have hzn := (hT.zn ht).2
  have k : ∀ j, (j < 10 ∨ 20 ≤ j) → j < 144 → mShut T N t j = N j := fun j h1 h2 => mShut_ne (by omega) (by omega) h2
  have pair : ∀ y, y < tz T → isN (mShut T N t (15 + y)) 0 2 ∧ (mShut T N t (10 + y) = if mShut T N t (15 + y) = 0 then 0 else 1) := fun y hy => by
    by_cases e : y = (T (15 + t)).toNatClampNeg
    · obtain ⟨-, -, -, -, a5, a6⟩ := h.1 y hy
      unfold mShut
      split
      · split
        · exact ⟨a5, a6⟩
        · split
          · exact ⟨a5, a6⟩
          · unfold shutNow
            rw [mLogs_ne (by omega), mLogs_ne (by omega), ← e, ud_at, ud_ne _ _ (by omega), ud_at]
            by_cases c : N (50 + t) = 1
            · rw [if_pos c]; exact ⟨⟨1, rfl, by decide, by decide⟩, rfl⟩
            · rw [if_neg c]; exact ⟨⟨2, rfl, by decide, by decide⟩, rfl⟩
      · exact ⟨a5, a6⟩
    · obtain ⟨-, -, -, -, a5, a6⟩ := h.1 y hy
      rw [mShut_ne (by omega) (by omega) (by omega), mShut_ne (k := 10 + y) (by omega) (by omega) (by omega)]
      exact ⟨a5, a6⟩
  refine ⟨fun z hz => ?_, fun z i hz hi => ?_, fun u hu => ?_, fun d hd => ?_, fun u d hu hd => ?_, ?_⟩
  · obtain ⟨a1, a2, a3, a4, -, -⟩ := h.1 z hz
    rw [k z (by omega) (by omega), k (5 + z) (by omega) (by omega), k (20 + z) (by omega) (by omega), k (25 + z) (by omega) (by omega)]
    exact ⟨a1, a2, a3, a4, pair z hz⟩
  · rw [k _ (by omega) (by omega)]; exact h.2.1 z i hz hi
  · rw [k _ (by omega) (by omega)]; exact h.2.2.1 u hu
  · rw [k _ (by omega) (by omega), k _ (by omega) (by omega)]; exact h.2.2.2.1 d hd
  · rw [k _ (by omega) (by omega)]; exact h.2.2.2.2.1 u d hu hd
  · rw [k _ (by omega) (by omega)]; exact h.2.2.2.2.2
theorem NOk.shuts {N T : Nat → Int32} (hT : TOk T) (h : NOk N T) : ∀ j, j ≤ tt T → NOk (itR (mShut T) N j) T := by
  intro j
  induction j with
  | zero => intro _; exact h
  | succ j ih => intro hj; exact (ih (by omega)).shut hT (by omega)
theorem c_shutZones {M : Gm} {S P : Nat} {N T : Nat → Int32} (hM : Ky M) (hS : StK M S P) (hP : PlK M P) (hT : TOk T) (pv : PlV M P T) (sv : StV M S N T) (hN : NOk N T) (so : SOk S) (po : POk P) {k : Nat} (hL : LgOk N k) (hk : k < 2147483500) : ∃ M', sh_X1_shutZones 299 S M = some M' ∧ Fm [S, S + 6, S + 14] M M' ∧ StV M' S (itR (mShut T) N (tt T)) T := by
  have ht := hT.t
  have so' := so
  unfold SOk at so'
  have key : ∃ M', lp (X1_shutZones_B2 S) FU (0, M) = some M' ∧ (Fm [S, S + 6, S + 14] M M' ∧ StV M' S (itR (mShut T) N (tt T)) T) := by
    refine lp_inv (fun j q => q.1 = Int32.ofNat j ∧ Fm [S, S + 6, S + 14] M q.2 ∧ StV q.2 S (itR (mShut T) N j) T) _ (tt T) ?_ ?_ ⟨rfl, Fm.rfl' _ _, sv⟩ (by omega)
    · rintro j ⟨i, M1⟩ hj ⟨h1, h2, h3⟩
      replace h1 : i = Int32.ofNat j := h1
      subst h1
      obtain ⟨M2, a1, a2, a3⟩ := c_shut1 (hS.fm h2) (hP.fm h2) hT (pv.fm' hP hT po h2 (by simp <;> omega)) h3 (hN.shuts hT j (by omega)) so (k := k + j) (Lg_shuts hT hL (by omega) j (by omega)) (by omega) hj
      exact Or.inl ⟨_, a1, rfl, h2.trans a2 (fun _ q => q) (fun _ q => q), a3⟩
    · rintro ⟨i, M1⟩ ⟨h1, h2, h3⟩
      replace h1 : i = Int32.ofNat (tt T) := h1
      subst h1
      refine ⟨M1, ?_, h2, h3⟩
      have hP1 := hP.fm h2
      have e15 : M1.1 P 6 = Int32.ofNat (tt T) := (pv.fm' hP hT po h2 (by simp <;> omega)).1.2.1.trans ht.1
      unfold X1_shutZones_B2
      simp (disch := omega) only [s_plan (hS.fm h2), pg_I hP1, e15, Option.bind_some, le_n]
      rw [if_pos (Nat.le_refl _)]
  obtain ⟨M', k1, k2, k3⟩ := key
  refine ⟨M', ?_, k2, k3⟩
  unfold sh_X1_shutZones X1_shutZones_F
  simp only [k_O hM, Option.bind_some, k1]

