/-! ===== PURE 18: the class's shutZones ===== -/
theorem spent_stay {T N : Nat → Int32} {z : Int32} {j n : Nat} (h : j ≤ n) (e : spentTo T N z j = 0) : spentTo T N z n = 0 := by
  induction n with
  | zero => have : j = 0 := by omega
            subst this; exact e
  | succ n ih =>
    by_cases q : j = n + 1
    · subst q; exact e
    · unfold spentTo
      rw [if_pos (ih (by omega))]
section Shut
variable {M : Gm} {S P : Nat} {N T : Nat → Int32}
theorem c_allAtMost (hS : StK M S P) (hP : PlK M P) (hT : TOk T) (pv : PlV M P T) (sv : StV M S N T) (hN : NOk N T) (z : Int32) : sh_X7_allAtMost S z M = some (spentTo T N z (td T)) := by
  have hd := hT.d
  have key : ∃ e, lp (X7_allAtMost_B2 S z M) FU (0 : Int32) = some e ∧ (Sum.elim (fun _ => (zck 1).bind fun z4 => some z4) (fun _ => (zck 0).bind fun z7 => some z7) e : Option Int32) = some (spentTo T N z (td T)) := by
    refine lp_inv (fun j q => q = Int32.ofNat j ∧ spentTo T N z j = 1) _ (td T) ?_ ?_ ⟨rfl, rfl⟩ (by omega)
    · rintro j q hj ⟨rfl, h2⟩
      obtain ⟨v1, -, -⟩ := sv.2.2.2.2.1 j hj
      obtain ⟨-, w1, w2⟩ := pv.2.2.2.1 j hj
      obtain ⟨a, ea, -, la⟩ := (hN.2.2.2.1 j hj).1
      have hm := hT.mN hj
      have hle : T (67 + j) ≤ N (70 + j) ↔ N (70 + j) = T (67 + j) := by
        rw [ea, hm.1, le_n (by omega) (by omega), eq_n (by omega) (by omega)]; omega
      have hs : spentTo T N z (j + 1) = if spentTo T N z j = 0 then 0 else if T (61 + j) = z then (if N (70 + j) = T (67 + j) then 1 else 0) else 1 := rfl
      rw [h2, if_neg (by decide)] at hs
      have hB : X7_allAtMost_B2 S z M (Int32.ofNat j) = if T (61 + j) = z then (if T (67 + j) ≤ N (70 + j) then some (.inl (Int32.ofNat (j + 1))) else some (.inr (.inr ()))) else some (.inl (Int32.ofNat (j + 1))) := by
        unfold X7_allAtMost_B2 X7_allAtMost_J46
        simp (disch := omega) only [s_plan hS, pg_I hP, pv.1.2.2.1, hd.1, Option.bind_some, le_n, p_devices hP, p_device hP, pd_I hP, w1, s_position hS, sl10 hS, v1, w2, suc_n]
        rw [if_neg (by omega)]
      rw [hB]
      by_cases c : T (61 + j) = z
      · rw [if_pos c] at hs ⊢
        by_cases c2 : T (67 + j) ≤ N (70 + j)
        · rw [if_pos (hle.mp c2)] at hs
          rw [if_pos c2]
          exact Or.inl ⟨_, rfl, rfl, hs⟩
        · rw [if_neg (fun q => c2 (hle.mpr q))] at hs
          rw [if_neg c2]
          refine Or.inr ⟨_, rfl, ?_⟩
          rw [spent_stay (show j + 1 ≤ td T by omega) hs]
          rfl
      · rw [if_neg c] at hs ⊢
        exact Or.inl ⟨_, rfl, rfl, hs⟩
    · rintro q ⟨rfl, h2⟩
      refine ⟨.inl (), ?_, by rw [h2]; rfl⟩
      unfold X7_allAtMost_B2
      simp (disch := omega) only [s_plan hS, pg_I hP, pv.1.2.2.1, hd.1, Option.bind_some, le_n]
      rw [if_pos (Nat.le_refl _)]
  obtain ⟨e, k1, k2⟩ := key
  unfold sh_X7_allAtMost X7_allAtMost_F
  simp only [s_O hS, Option.bind_some, k1]
  exact k2
theorem c_isForeseen (hS : StK M S P) (hP : PlK M P) (hT : TOk T) (pv : PlV M P T) (sv : StV M S N T) (hN : NOk N T) {t : Nat} (ht : t < tt T) : ∃ x, sh_X1_isForeseen S (P + 11 + t) M = some x ∧ (x = 0 ↔ ¬ soonT T N t) := by
  have ht10 : t < 10 := by have := hT.t.2; omega
  have hz5 := hT.z.2
  obtain ⟨⟨z, hz, ez⟩, -⟩ := hT.2.2.1 t ht
  have nz : (T (15 + t)).toNatClampNeg = z := by rw [ez]; exact nn z (by omega)
  obtain ⟨p0, p1, p2, -, -, -⟩ := pv.2.2.1 t ht
  rw [ez] at p0
  obtain ⟨-, -, -, vtemp, vslope, -⟩ := sv.2.1 z hz
  have vf := sv.1.2.1
  have hs : soonT T N t ↔ (¬ N 143 ≤ 0 ∧ ¬ N (25 + z) ≤ 0 ∧ ¬ spentTo T N (Int32.ofNat z) (td T) = 0 ∧ ¬ N (20 + z) + N (25 + z) * N 143 < T (35 + t)) := by
    unfold soonT
    rw [nz, ez]
  rw [hs]
  have h0 : (zck 0).bind (fun z1 => some z1) = some (0 : Int32) := rfl
  have h1 : (zck 1).bind (fun z1 => some z1) = some (1 : Int32) := rfl
  unfold sh_X1_isForeseen X1_isForeseen_F X1_isForeseen_J59 X1_isForeseen_J60
  simp (disch := omega) only [s_slope hS, pt_I hP, p0, sl5 hS, vslope, s_I hS, vf, Option.bind_some, s_temp hS, sl4 hS, vtemp, p2, c_allAtMost hS hP hT pv sv hN, h0, h1]
  by_cases d1 : N 143 ≤ 0
  · rw [if_pos d1]; exact ⟨0, rfl, fun _ q => q.1 d1, fun _ => rfl⟩
  · rw [if_neg d1]
    by_cases d2 : N (25 + z) ≤ 0
    · rw [if_pos d2]; exact ⟨0, rfl, fun _ q => q.2.1 d2, fun _ => rfl⟩
    · rw [if_neg d2]
      by_cases d4 : N (20 + z) + N (25 + z) * N 143 < T (35 + t)
      · rw [if_pos d4]; exact ⟨0, rfl, fun _ q => q.2.2.2 d4, fun _ => rfl⟩
      · rw [if_neg d4]
        by_cases d3 : spentTo T N (Int32.ofNat z) (td T) = 0
        · rw [if_pos d3]; exact ⟨0, rfl, fun _ q => q.2.2.1 d3, fun _ => rfl⟩
        · rw [if_neg d3]; exact ⟨1, rfl, fun q => absurd q (by decide), fun q => absurd ⟨d1, d2, d3, d4⟩ q⟩
end Shut

