/-! ===== PURE 11: the class's sensors ===== -/
theorem sumR_n {r : Nat → Int32} : ∀ n, n ≤ 4 → (∀ i, i < n → isN (r i) 0 1500) → 0 ≤ (sumR r n).toInt ∧ (sumR r n).toInt ≤ 1500 * n := by
  intro n
  induction n with
  | zero => intro _ _; exact ⟨Int.le_refl _, Int.le_refl _⟩
  | succ n ih =>
    intro hn h
    have a := ih (by omega) (fun i hi => h i (by omega))
    have b := isN_tI (h n (by omega)) (by decide)
    show 0 ≤ (sumR r n + r n).toInt ∧ (sumR r n + r n).toInt ≤ _
    rw [tI_add (by omega) (by omega)]
    omega
section Sens
variable {M : Gm} {S P : Nat} {N T : Nat → Int32}
theorem c_sum (hM : Ky M) (hS : StK M S P) {z n : Nat} (hz : z < 5) (hn : n ≤ 4) {r : Nat → Int32} (hr : ∀ i, i < 4 → M.1 (S + 7) (4 * z + i) = r i) : sh_X1_sumOfReadings 299 S (Int32.ofNat z) (Int32.ofNat n) M = some (sumR r n) := by
  have hl : lp (X1_sumOfReadings_B6 S (Int32.ofNat z) (Int32.ofNat n) M) FU (0, 0) = some (sumR r n) := by
    refine lp_for (s := fun j => (sumR r j, Int32.ofNat j)) _ n (fun j hj => ?_) ?_ (by omega)
    · unfold X1_sumOfReadings_B6
      simp (disch := omega) only [le_n, s_readings hS, ml4, ad_n, sl7 hS, hr, Option.bind_some, suc_n]
      rw [if_neg (by omega)]
      rfl
    · unfold X1_sumOfReadings_B6
      simp (disch := omega) only [le_n]
      rw [if_pos (Nat.le_refl _)]
  unfold sh_X1_sumOfReadings X1_sumOfReadings_F
  simp only [k_O hM, Option.bind_some, hl]
theorem c_filtered (hM : Ky M) (hC : CkK M) (hS : StK M S P) (hP : PlK M P) (hT : TOk T) (so : SOk S) {z : Nat} (hz : z < tz T) (p2 : M.1 (P + 6 + z) 2 = T (5 + z)) (p3 : M.1 (P + 6 + z) 3 = T (10 + z))
    (hr : ∀ i, i < 4 → M.1 (S + 7) (4 * z + i) = N (30 + 4 * z + i)) (hh : M.1 (S + 1) z = N (30 + 4 * z + 0)) (ht : M.1 (S + 4) z = N (20 + z)) (br : ∀ i, i < 4 → isN (N (30 + 4 * z + i)) 0 1500) (bt : isN (N (20 + z)) 0 1500) :
    ∃ M', sh_X1_filtered 299 S (Int32.ofNat z) M = some (mTemp T N z, M') ∧ Fm [301] M M' := by
  have hz5 : z < 5 := by have := hT.z.2; omega
  obtain ⟨-, ⟨f, ef, -, f3⟩, ⟨n, en, n1, n4⟩, -⟩ := hT.2.1 z hz
  have hdp : isN (T (10 + z)) 1 1000 := ⟨n, en, n1, by omega⟩
  have nn' : (T (10 + z)).toNatClampNeg = n := by rw [en]; exact nn n (by omega)
  have hsum := c_sum hM hS (z := z) (n := n) hz5 n4 hr
  obtain ⟨M', d1, d2⟩ := c_median hM hC hS so (z := z) (n := n) hz5 n1 n4 hr
  rw [← en] at hsum d1
  have bs' := sumR_n (r := fun i => N (30 + 4 * z + i)) n n4 (fun i hi => br i (by omega))
  have bq := (isN_sub (br 0 (by decide)) bt (by decide) (by decide)).2
  unfold mTemp
  rw [nn']
  have hrd : rdR N z = fun i => N (30 + 4 * z + i) := rfl
  rw [hrd]
  unfold sh_X1_filtered X1_filtered_F
  simp (disch := omega) only [k_O hM, Option.bind_some, s_plan hS, p_zones hP, p_zone hP, s_heat hS, sl1 hS, hh, pz_I hP, p2, p3, hsum, d1, s_temp hS, sl4 hS, ht, c_quot hdp (show -1000000 ≤ (sumR (fun i => N (30 + 4 * z + i)) n).toInt by omega) (show (sumR (fun i => N (30 + 4 * z + i)) n).toInt ≤ 1000000 by omega), c_quot hdp bq.1 bq.2]
  have hf : f = 0 ∨ f = 1 ∨ f = 2 ∨ f = 3 := by omega
  rcases hf with q | q | q | q <;> subst q <;> rw [ef]
  · exact ⟨M, rfl, Fm.rfl' _ _⟩
  · exact ⟨M, rfl, Fm.rfl' _ _⟩
  · exact ⟨M', rfl, d2⟩
  · exact ⟨M, rfl, Fm.rfl' _ _⟩
theorem c_shift (hS : StK M S P) {z : Nat} (hz : z < 5) : lp (X1_readSensors_B24 299 S (Int32.ofNat z) (Int32.ofNat (4 * z))) FU (Int32.ofNat (4 * z + 3), M) = some (wR M (S + 7) (ud (ud (ud (M.1 (S + 7)) (4 * z + 3) (M.1 (S + 7) (4 * z + 2))) (4 * z + 2) (M.1 (S + 7) (4 * z + 1))) (4 * z + 1) (M.1 (S + 7) (4 * z + 0)))) := by
  have hB : ∀ (k : Nat) (M1 : Gm), StK M1 S P → k < 3 → X1_readSensors_B24 299 S (Int32.ofNat z) (Int32.ofNat (4 * z)) (Int32.ofNat (4 * z + (k + 1)), M1) = some (.inl (Int32.ofNat (4 * z + k), sI M1 (S + 7) (4 * z + (k + 1)) (M1.1 (S + 7) (4 * z + k)))) := fun k M1 hS1 hk => by
    have e1 : Int32.ofNat (4 * z + (k + 1)) - 1 = Int32.ofNat (4 * z + k) := by rw [← Nat.add_assoc, Int32.ofNat_add _ 1]; exact Int32.add_sub_cancel _ _
    have e2 : Int32.ofNat (4 * z + (k + 1)) + (-1) = Int32.ofNat (4 * z + k) := by rw [← e1]; rw [Int32.sub_eq_add_neg]
    unfold X1_readSensors_B24
    simp (disch := omega) only [e1, e2, le_n, s_readings hS1, sl7 hS1, Option.bind_some, ss7 hS1]
    rw [if_neg (by omega)]
  have h3 : ∀ M1 : Gm, X1_readSensors_B24 299 S (Int32.ofNat z) (Int32.ofNat (4 * z)) (Int32.ofNat (4 * z + 0), M1) = some (.inr M1) := fun M1 => by
    unfold X1_readSensors_B24
    simp (disch := omega) only [le_n]
    rw [if_pos (by omega)]
  refine (lp_u4 (hB 2 M hS (by decide)) (hB 1 _ (hS.sI _ _ _) (by decide)) (hB 0 _ ((hS.sI _ _ _).sI _ _ _) (by decide)) (h3 _)).trans ?_
  simp (disch := omega) only [sI_wR, wR_wR, wR_own, ud_ne]
/-- one ZONE is read -/
theorem c_read1 (hM : Ky M) (hC : CkK M) (hS : StK M S P) (hP : PlK M P) (hT : TOk T) (pv : PlV M P T) (sv : StV M S N T) (so : SOk S) (po : POk P) {z : Nat} (hz : z < tz T)
    (bh : isN (N z) 0 1500) (br : ∀ i, i < 4 → isN (N (30 + 4 * z + i)) 0 1500) (bt : isN (N (20 + z)) 0 1500) :
    ∃ M', X1_readSensors_B2 299 S (Int32.ofNat z, M) = some (.inl (Int32.ofNat (z + 1), M')) ∧ Fm [S + 4, S + 5, S + 7, 301] M M' ∧ StV M' S (mRead1 T N z) T := by
  have hz' := hT.z
  have hz5 : z < 5 := by omega
  have so' := so
  have po' := po
  unfold SOk at so'
  unfold POk at po'
  obtain ⟨v1, v2, v3, v4, v5, v6⟩ := sv.2.1 z hz
  have vr := sv.2.2.1
  obtain ⟨p2, p3⟩ := pv.2.1 z hz
  have hsh := c_shift hS hz5
  generalize hR1 : ud (ud (ud (M.1 (S + 7)) (4 * z + 3) (M.1 (S + 7) (4 * z + 2))) (4 * z + 2) (M.1 (S + 7) (4 * z + 1))) (4 * z + 1) (M.1 (S + 7) (4 * z + 0)) = R1 at hsh
  have hS1 := hS.wR (S + 7) R1
  have hM2 := hM.wR (S + 7) (ud R1 (4 * z) (N z))
  have hS2 := hS.wR (S + 7) (ud R1 (4 * z) (N z))
  have hP2 : PlK (wR M (S + 7) (ud R1 (4 * z) (N z))) P := hP.eq rfl
  have hC2 : CkK (wR M (S + 7) (ud R1 (4 * z) (N z))) := hC
  have hrow : ∀ y i, y < tz T → i < 4 → (ud R1 (4 * z) (N z)) (4 * y + i) = mShift N z (30 + 4 * y + i) := fun y i hy hi => by
    by_cases e : y = z
    · subst e
      subst hR1
      have hi' : i = 0 ∨ i = 1 ∨ i = 2 ∨ i = 3 := by omega
      unfold mShift
      rcases hi' with q | q | q | q <;> subst q
      · exact (ud_at _ _ _).trans (ud_at _ _ _).symm
      · rw [ud_ne _ _ (by omega), ud_at, ud_ne _ _ (by omega), ud_at]; exact vr y 0 hy (by decide)
      · rw [ud_ne _ _ (by omega), ud_ne _ _ (by omega), ud_at, ud_ne _ _ (by omega), ud_ne _ _ (by omega), ud_at]; exact vr y 1 hy (by decide)
      · rw [ud_ne _ _ (by omega), ud_ne _ _ (by omega), ud_ne _ _ (by omega), ud_at, ud_ne _ _ (by omega), ud_ne _ _ (by omega), ud_ne _ _ (by omega), ud_at]; exact vr y 2 hy (by decide)
    · subst hR1
      rw [ud_ne _ _ (by omega), ud_ne _ _ (by omega), ud_ne _ _ (by omega), ud_ne _ _ (by omega), mShift_ne (by omega)]
      exact vr y i hy hi
  have m20 : mShift N z (20 + z) = N (20 + z) := mShift_ne (by omega)
  have m30 : mShift N z (30 + 4 * z + 0) = N z := by
    rw [← hrow z 0 hz (by decide), Nat.add_zero, ud_at]
  obtain ⟨M3, d1, d2⟩ := c_filtered (N := mShift N z) hM2 hC2 hS2 hP2 hT so hz (by rw [wR_ne _ _ (by omega)]; exact p2) (by rw [wR_ne _ _ (by omega)]; exact p3)
    (fun i hi => by rw [wR_own]; exact hrow z i hz hi) (by rw [wR_ne _ _ (by omega), v1, m30]) (by rw [wR_ne _ _ (by omega), v4, m20])
    (fun i hi => by
      have hi' : i = 0 ∨ i = 1 ∨ i = 2 ∨ i = 3 := by omega
      rcases hi' with q | q | q | q <;> subst q
      · rw [m30]; exact bh
      · rw [show mShift N z (30 + 4 * z + 1) = N (30 + 4 * z + 0) by unfold mShift; rw [ud_ne _ _ (by omega), ud_at]]; exact br 0 (by decide)
      · rw [show mShift N z (30 + 4 * z + 2) = N (30 + 4 * z + 1) by unfold mShift; rw [ud_ne _ _ (by omega), ud_ne _ _ (by omega), ud_at]]; exact br 1 (by decide)
      · rw [show mShift N z (30 + 4 * z + 3) = N (30 + 4 * z + 2) by unfold mShift; rw [ud_ne _ _ (by omega), ud_ne _ _ (by omega), ud_ne _ _ (by omega), ud_at]]; exact br 2 (by decide)) (by rw [m20]; exact bt)
  have hS3 := hS2.fm d2
  have ne3 : ∀ a, a ≠ 301 → a ≠ S + 7 → M3.1 a = M.1 a := fun a h1 h2 => (d2.2 a (by simp [h1])).trans (wR_ne _ _ h2)
  have e37 : M3.1 (S + 7) = ud R1 (4 * z) (N z) := (d2.2 (S + 7) (by simp; omega)).trans (wR_own _ _ _)
  have hS4 := hS3.sI (S + 4) z (mTemp T (mShift N z) z)
  refine ⟨sI (sI M3 (S + 4) z (mTemp T (mShift N z) z)) (S + 5) z (mTemp T (mShift N z) z - N (20 + z)), ?_, ?_, ?_⟩
  · unfold X1_readSensors_B2
    have e1 : (Int32.ofNat z * 4 + 4) - 1 = Int32.ofNat (4 * z + 3) := by
      rw [ml4, show (4 : Int32) = Int32.ofNat 4 from rfl, ad_n, show (1 : Int32) = Int32.ofNat 1 from rfl, ← Int32.ofNat_sub _ _ (by omega)]
      rfl
    simp (disch := omega) only [e1]
    simp (disch := omega) only [s_plan hS, pg_I hP, pv.1.1, hz'.1, Option.bind_some, le_n, ml4, hsh, s_readings hS1, s_heat hS1, sl1 hS1, wR_ne, v1, ss7 hS1, sI_wR, wR_wR, wR_own]
    rw [if_neg (show ¬ tz T ≤ z by omega)]
    simp (disch := omega) only [s_temp hS2, sl4 hS2, wR_ne, v4, Option.bind_some, d1]
    rw [ss4 hS3 _ (by omega)]
    simp only [Option.bind_some]
    simp (disch := omega) only [s_slope hS4, s_temp hS4, sl4 hS4, sI_own, ud_at, Option.bind_some, ss5 hS4, suc_n]
    simp (disch := omega) only [sI_wR, wR_ne]
  · have f1 : Fm [S + 4, S + 5, S + 7, 301] M (wR M (S + 7) (ud R1 (4 * z) (N z))) := ⟨rfl, fun b hb => wR_ne _ _ (fun e => hb (by rw [e]; simp))⟩
    exact ((f1.trans d2 (L2 := [S + 4, S + 5, S + 7, 301]) (fun _ q => q) (by simp)).set (by simp) _ _).set (by simp) _ _
  · have n4 : ∀ a, a ≠ S + 4 → a ≠ S + 5 → a ≠ S + 7 → a ≠ 301 → (sI (sI M3 (S + 4) z (mTemp T (mShift N z) z)) (S + 5) z (mTemp T (mShift N z) z - N (20 + z))).1 a = M.1 a := fun a h1 h2 h3 h4 => by
      rw [sI_ne _ _ _ h2, sI_ne _ _ _ h1, ne3 a h4 h3]
    have c4 : (sI (sI M3 (S + 4) z (mTemp T (mShift N z) z)) (S + 5) z (mTemp T (mShift N z) z - N (20 + z))).1 (S + 4) = ud (M.1 (S + 4)) z (mTemp T (mShift N z) z) := by
      rw [sI_ne _ _ _ (by omega), sI_own, ne3 _ (by omega) (by omega)]
    have c5 : (sI (sI M3 (S + 4) z (mTemp T (mShift N z) z)) (S + 5) z (mTemp T (mShift N z) z - N (20 + z))).1 (S + 5) = ud (M.1 (S + 5)) z (mTemp T (mShift N z) z - N (20 + z)) := by
      rw [sI_own, sI_ne _ _ _ (by omega), ne3 _ (by omega) (by omega)]
    have c7 : (sI (sI M3 (S + 4) z (mTemp T (mShift N z) z)) (S + 5) z (mTemp T (mShift N z) z - N (20 + z))).1 (S + 7) = ud R1 (4 * z) (N z) := by
      rw [sI_ne _ _ _ (by omega), sI_ne _ _ _ (by omega), e37]
    have k : ∀ j, (j < 20 ∨ 50 ≤ j) → mRead1 T N z j = N j := fun j hj => mRead1_ne (by omega) (by omega) (by omega)
    have eg : lg (mRead1 T N z) = lg N := by unfold lg; rw [k 144 (by omega)]
    unfold StV
    rw [n4 S (by omega) (by omega) (by omega) (by omega), n4 (S + 1) (by omega) (by omega) (by omega) (by omega), n4 (S + 2) (by omega) (by omega) (by omega) (by omega), n4 (S + 3) (by omega) (by omega) (by omega) (by omega), c4, c5, n4 (S + 6) (by omega) (by omega) (by omega) (by omega), c7, n4 (S + 8) (by omega) (by omega) (by omega) (by omega), n4 (S + 9) (by omega) (by omega) (by omega) (by omega), n4 (S + 10) (by omega) (by omega) (by omega) (by omega), n4 (S + 11) (by omega) (by omega) (by omega) (by omega), n4 (S + 12) (by omega) (by omega) (by omega) (by omega), n4 (S + 13) (by omega) (by omega) (by omega) (by omega), n4 (S + 14) (by omega) (by omega) (by omega) (by omega), eg, k 142 (by omega), k 143 (by omega), k 144 (by omega)]
    refine ⟨sv.1, fun y hy => ?_, fun y i hy hi => ?_, fun t ht => ?_, fun d hd => ?_, fun t i ht hi => ?_, fun j hj => ?_⟩
    · obtain ⟨w1, w2, w3, w4, w5, w6⟩ := sv.2.1 y hy
      rw [k y (by omega), k (5 + y) (by omega), k (15 + y) (by omega)]
      refine ⟨w1, w2, w3, ?_, ?_, w6⟩
      · unfold mRead1
        by_cases e : y = z
        · subst e; rw [ud_at, ud_at]
        · rw [ud_ne _ _ e, ud_ne _ _ (by omega), ud_ne _ _ (by omega), mShift_ne (by omega)]; exact w4
      · unfold mRead1
        by_cases e : y = z
        · subst e; rw [ud_at, ud_ne _ _ (by omega), ud_at]
        · rw [ud_ne _ _ e, ud_ne _ _ (by omega), ud_ne _ _ (by omega), mShift_ne (by omega)]; exact w5
    · rw [hrow y i hy hi]
      unfold mRead1
      rw [ud_ne _ _ (by omega), ud_ne _ _ (by omega)]
    · rw [k _ (by omega), k _ (by omega)]; exact sv.2.2.2.1 t ht
    · rw [k _ (by omega), k _ (by omega)]; exact sv.2.2.2.2.1 d hd
    · rw [k _ (by omega)]; exact sv.2.2.2.2.2.1 t i ht hi
    · rw [k _ (by omega)]; exact sv.2.2.2.2.2.2 j hj
end Sens

