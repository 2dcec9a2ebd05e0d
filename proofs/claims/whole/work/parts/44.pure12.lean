/-! ===== PURE 12: bounds of heats and readings; the class's readSensors ===== -/
theorem fb_le {T : Nat → Int32} (hT : TOk T) : ∀ j, j ≤ 10 → fb T j ≤ 6 * j := by
  intro j
  induction j with
  | zero => intro _; exact Nat.le_refl _
  | succ j ih =>
    intro hj
    have a := ih (by omega)
    have b := (dl_ok hT (t := j) (by omega)).len hT (by omega)
    show fb T j + (dl T j).length ≤ _
    omega
theorem fb_mono (T : Nat → Int32) {i j : Nat} (h : i ≤ j) : fb T i ≤ fb T j := by
  induction j with
  | zero => have : i = 0 := by omega
            subst this; exact Nat.le_refl _
  | succ j ih =>
    by_cases e : i = j + 1
    · subst e; exact Nat.le_refl _
    · have a := ih (by omega)
      have b : fb T (j + 1) = fb T j + (dl T j).length := rfl
      omega
theorem fb_60 {T : Nat → Int32} (hT : TOk T) : fb T (tt T) ≤ 60 := by
  have a := hT.t.2
  have b := fb_le hT (tt T) a
  omega
theorem PlV.fm' {L : List Nat} {M M' : Gm} {P : Nat} {T : Nat → Int32} (pv : PlV M P T) (hP : PlK M P) (hT : TOk T) (po : POk P) (e : Fm L M M') (hL : ∀ a, a ∈ L → 257 ≤ a) : PlV M' P T :=
  pv.fm hP hT po e hL (fb_60 hT) (fun t ht => fb_mono T (by omega))
theorem held_n {v : Int32} {b : Nat} (hb : b < 100000) : isN (heldI v 0 (Int32.ofNat b)) 0 b := by
  have e : (Int32.ofNat b).toInt = b := tn b (by omega)
  have h0 : (0 : Int32).toInt = 0 := rfl
  apply isN_of
  · unfold heldI
    simp only [tI_le]
    split
    · split <;> omega
    · omega
  · unfold heldI
    simp only [tI_le]
    split
    · split <;> omega
    · omega
theorem NOk.heats {N T : Nat → Int32} (hT : TOk T) (h : NOk N T) : NOk (mHeats T N) T := by
  have hz5 := hT.z.2
  have k5 : ∀ k, 5 ≤ k → mHeats T N k = N k := fun k hk => mHeats_ne hT hk
  refine ⟨fun z hz => ?_, fun z i hz hi => ?_, fun t ht => ?_, fun d hd => ?_, fun t d ht hd => ?_, ?_⟩
  · obtain ⟨a1, a2, a3, a4, a5, a6⟩ := h.1 z hz
    rw [k5 (5 + z) (by omega), k5 (20 + z) (by omega), k5 (25 + z) (by omega), k5 (15 + z) (by omega), k5 (10 + z) (by omega)]
    refine ⟨?_, a2, a3, a4, a5, a6⟩
    unfold mHeats
    rw [if_pos hz]
    exact held_n (b := 1500) (by decide)
  · rw [k5 _ (by omega)]; exact h.2.1 z i hz hi
  · rw [k5 _ (by omega)]; exact h.2.2.1 t ht
  · rw [k5 _ (by omega), k5 _ (by omega)]; exact h.2.2.2.1 d hd
  · rw [k5 _ (by omega)]; exact h.2.2.2.2.1 t d ht hd
  · rw [k5 _ (by omega)]; exact h.2.2.2.2.2
theorem by_nn {v n : Int32} (hn : isN n 1 1000) (h1 : 0 ≤ v.toInt) : (byI v n).toInt = v.toInt / n.toInt := by
  have h0 : (0 : Int32).toInt = 0 := rfl
  unfold byI
  rw [if_neg (by rw [tI_lt]; omega), tI_div (by omega), Int.tdiv_eq_ediv_of_nonneg h1]
theorem by_neg {v n : Int32} (hn : isN n 1 1000) (h1 : v.toInt < 0) (h2 : -1000000 ≤ v.toInt) : v.toInt ≤ (byI v n).toInt ∧ (byI v n).toInt ≤ 0 := by
  have hb := isN_tI hn (by decide)
  have h0 : (0 : Int32).toInt = 0 := rfl
  have h1' : (1 : Int32).toInt = 1 := rfl
  unfold byI
  rw [if_pos (by rw [tI_lt]; omega)]
  have en : (-v).toInt = -v.toInt := tI_neg (by omega)
  have e1 : ((-v) + n).toInt = -v.toInt + n.toInt := by rw [tI_add (by omega) (by omega), en]
  have e2 : (((-v) + n) - 1).toInt = -v.toInt + n.toInt - 1 := by rw [tI_sub (by omega) (by omega), e1, h1']
  have e3 : ((((-v) + n) - 1) / n).toInt = (-v.toInt + n.toInt - 1) / n.toInt := by
    rw [tI_div (by omega), e2, Int.tdiv_eq_ediv_of_nonneg (by omega)]
  have q2 : 0 ≤ (-v.toInt + n.toInt - 1) / n.toInt := Int.ediv_nonneg (by omega) (by omega)
  have hc := ceil_lem (-v.toInt) n.toInt (by omega)
  have q0 : 0 ≤ (-v.toInt) / n.toInt := Int.ediv_nonneg (by omega) (by omega)
  have q1 : (-v.toInt) / n.toInt ≤ -v.toInt := Int.ediv_le_self _ (by omega)
  have q3 : (-v.toInt + n.toInt - 1) / n.toInt ≤ -v.toInt := by
    rw [hc]
    split
    · exact q1
    · rename_i c
      by_cases e : (-v.toInt) / n.toInt = -v.toInt
      · exfalso
        apply c
        have p0 : (-v.toInt) / n.toInt * n.toInt ≤ -v.toInt := Int.ediv_mul_le _ (by omega)
        rw [e] at p0 ⊢
        have : n.toInt = 1 := by
          rcases Int.lt_or_le 1 n.toInt with g | g
          · have : (-v.toInt) * 2 ≤ (-v.toInt) * n.toInt := Int.mul_le_mul_of_nonneg_left (by omega) (by omega)
            omega
          · omega
        rw [this]; omega
      · omega
  rw [tI_neg (by omega), e3]
  omega
theorem medR_n {r : Nat → Int32} (h : ∀ i, i < 4 → isN (r i) 0 1500) (n : Nat) : ∀ f i, i + f ≤ 4 → isN (medR r n f i) 0 1500 := by
  intro f
  induction f with
  | zero => intro i _; exact ⟨0, rfl, Nat.le_refl _, by decide⟩
  | succ f ih =>
    intro i hi
    show isN (if lessR r i n = (n - 1) / 2 then r i else medR r n f (i + 1)) 0 1500
    split
    · exact h i (by omega)
    · exact ih (i + 1) (by omega)
theorem temp_n {T N : Nat → Int32} (hT : TOk T) {z : Nat} (hz : z < tz T) (br : ∀ i, i < 4 → isN (N (30 + 4 * z + i)) 0 1500) (bt : isN (N (20 + z)) 0 1500) : isN (mTemp T N z) 0 1500 := by
  obtain ⟨-, -, ⟨n, en, n1, n4⟩, -⟩ := hT.2.1 z hz
  have hdp : isN (T (10 + z)) 1 1000 := ⟨n, en, n1, by omega⟩
  have nn' : (T (10 + z)).toNatClampNeg = n := by rw [en]; exact nn n (by omega)
  have ti : (T (10 + z)).toInt = n := by rw [en]; exact tn n (by omega)
  unfold mTemp
  rw [nn']
  split
  · exact br 0 (by decide)
  · split
    · have a := sumR_n (r := rdR N z) n n4 (fun i hi => br i (by omega))
      apply isN_of
      · rw [by_nn hdp a.1, ti]; exact Int.ediv_nonneg a.1 (by omega)
      · rw [by_nn hdp a.1, ti]
        have := Int.ediv_le_ediv (c := (n : Int)) (by omega) a.2
        rw [Int.mul_ediv_cancel _ (by omega)] at this
        omega
    · split
      · exact medR_n br n n 0 (by omega)
      · have a := isN_tI (br 0 (by decide)) (by decide)
        have b := isN_tI bt (by decide)
        obtain ⟨c1, c2, c3⟩ := isN_sub (br 0 (by decide)) bt (by decide) (by decide)
        have key : (N (30 + 4 * z + 0) - N (20 + z)).toInt ≤ 0 ∧ (N (30 + 4 * z + 0) - N (20 + z)).toInt ≤ (byI (N (30 + 4 * z + 0) - N (20 + z)) (T (10 + z))).toInt ∧ (byI (N (30 + 4 * z + 0) - N (20 + z)) (T (10 + z))).toInt ≤ 0 ∨ 0 ≤ (byI (N (30 + 4 * z + 0) - N (20 + z)) (T (10 + z))).toInt ∧ (byI (N (30 + 4 * z + 0) - N (20 + z)) (T (10 + z))).toInt ≤ (N (30 + 4 * z + 0) - N (20 + z)).toInt := by
          rcases Int.lt_or_le (N (30 + 4 * z + 0) - N (20 + z)).toInt 0 with g | g
          · have := by_neg hdp g c2
            left; omega
          · right
            rw [by_nn hdp g]
            exact ⟨Int.ediv_nonneg g (by omega), Int.ediv_le_self _ g⟩
        have e : (N (20 + z) + byI (N (30 + 4 * z + 0) - N (20 + z)) (T (10 + z))).toInt = (N (20 + z)).toInt + (byI (N (30 + 4 * z + 0) - N (20 + z)) (T (10 + z))).toInt := tI_add (by omega) (by omega)
        exact isN_of (by rw [e]; omega) (by rw [e]; omega)
theorem shift_n {N : Nat → Int32} {z : Nat} (bh : isN (N z) 0 1500) (br : ∀ i, i < 4 → isN (N (30 + 4 * z + i)) 0 1500) : ∀ i, i < 4 → isN (mShift N z (30 + 4 * z + i)) 0 1500 := by
  intro i hi
  have hi' : i = 0 ∨ i = 1 ∨ i = 2 ∨ i = 3 := by omega
  unfold mShift
  rcases hi' with q | q | q | q <;> subst q
  · rw [show ∀ f x, ud f (30 + 4 * z) x (30 + 4 * z + 0) = x from fun f x => ud_at f (30 + 4 * z) x]; exact bh
  · rw [ud_ne _ _ (by omega), ud_at]; exact br 0 (by decide)
  · rw [ud_ne _ _ (by omega), ud_ne _ _ (by omega), ud_at]; exact br 1 (by decide)
  · rw [ud_ne _ _ (by omega), ud_ne _ _ (by omega), ud_ne _ _ (by omega), ud_at]; exact br 2 (by decide)
theorem NOk.read1 {N T : Nat → Int32} (hT : TOk T) (h : NOk N T) {z : Nat} (hz : z < tz T) : NOk (mRead1 T N z) T := by
  have hz5 := hT.z.2
  have k : ∀ j, (j < 20 ∨ 50 ≤ j) → mRead1 T N z j = N j := fun j hj => mRead1_ne (by omega) (by omega) (by omega)
  obtain ⟨b1, -, b3, -⟩ := h.1 z hz
  have bs' := shift_n b1 (fun i hi => h.2.1 z i hz hi)
  have m20 : mShift N z (20 + z) = N (20 + z) := mShift_ne (by omega)
  have bt := temp_n hT hz bs' (by rw [m20]; exact b3)
  refine ⟨fun y hy => ?_, fun y i hy hi => ?_, fun t ht => ?_, fun d hd => ?_, fun t d ht hd => ?_, ?_⟩
  · obtain ⟨a1, a2, a3, a4, a5, a6⟩ := h.1 y hy
    rw [k y (by omega), k (5 + y) (by omega), k (15 + y) (by omega), k (10 + y) (by omega)]
    refine ⟨a1, a2, ?_, ?_, a5, a6⟩
    · unfold mRead1
      by_cases e : y = z
      · subst e; rw [ud_at]; exact bt
      · rw [ud_ne _ _ (by omega), ud_ne _ _ (by omega), mShift_ne (by omega)]; exact a3
    · unfold mRead1
      by_cases e : y = z
      · subst e
        rw [ud_ne _ _ (by omega), ud_at]
        have c1 := isN_tI bt (by decide)
        have c2 := isN_tI b3 (by decide)
        rw [(isN_sub bt b3 (by decide) (by decide)).1]
        omega
      · rw [ud_ne _ _ (by omega), ud_ne _ _ (by omega), mShift_ne (by omega)]; exact a4
  · unfold mRead1
    rw [ud_ne _ _ (by omega), ud_ne _ _ (by omega)]
    by_cases e : y = z
    · subst e; exact bs' i hi
    · rw [mShift_ne (by omega)]; exact h.2.1 y i hy hi
  · rw [k _ (by omega)]; exact h.2.2.1 t ht
  · rw [k _ (by omega), k _ (by omega)]; exact h.2.2.2.1 d hd
  · rw [k _ (by omega)]; exact h.2.2.2.2.1 t d ht hd
  · rw [k _ (by omega)]; exact h.2.2.2.2.2
theorem NOk.reads {N T : Nat → Int32} (hT : TOk T) (h : NOk N T) : ∀ j, j ≤ tz T → NOk (mReads T N j) T := by
  intro j
  induction j with
  | zero => intro _; exact h
  | succ j ih => intro hj; exact (ih (by omega)).read1 hT (by omega)
theorem c_readSensors {M : Gm} {S P : Nat} {N T : Nat → Int32} (hM : Ky M) (hC : CkK M) (hS : StK M S P) (hP : PlK M P) (hT : TOk T) (pv : PlV M P T) (sv : StV M S N T) (hN : NOk N T) (so : SOk S) (po : POk P) : ∃ M', sh_X1_readSensors 299 S M = some M' ∧ Fm [S + 4, S + 5, S + 7, 301] M M' ∧ StV M' S (mReads T N (tz T)) T := by
  have hz := hT.z
  have so' := so
  unfold SOk at so'
  have key : ∃ M', lp (X1_readSensors_B2 299 S) FU (0, M) = some M' ∧ (Fm [S + 4, S + 5, S + 7, 301] M M' ∧ StV M' S (mReads T N (tz T)) T) := by
    refine lp_inv (fun j q => q.1 = Int32.ofNat j ∧ Fm [S + 4, S + 5, S + 7, 301] M q.2 ∧ StV q.2 S (mReads T N j) T) _ (tz T) ?_ ?_ ⟨rfl, Fm.rfl' _ _, sv⟩ (by omega)
    · rintro j ⟨i, M1⟩ hj ⟨h1, h2, h3⟩
      replace h1 : i = Int32.ofNat j := h1
      subst h1
      have hb := hN.reads hT j (by omega)
      obtain ⟨M2, a1, a2, a3⟩ := c_read1 (hM.fm h2) (hC.fm h2) (hS.fm h2) (hP.fm h2) hT (pv.fm' hP hT po h2 (by simp <;> omega)) h3 so po hj (hb.1 j hj).1 (fun i hi => hb.2.1 j i hj hi) (hb.1 j hj).2.2.1
      exact Or.inl ⟨_, a1, rfl, h2.trans a2 (fun _ q => q) (fun _ q => q), a3⟩
    · rintro ⟨i, M1⟩ ⟨h1, h2, h3⟩
      replace h1 : i = Int32.ofNat (tz T) := h1
      subst h1
      refine ⟨M1, ?_, h2, h3⟩
      have hP1 := hP.fm h2
      have pv1 := pv.fm' hP hT po h2 (by simp <;> omega)
      have e15 : M1.1 P 5 = Int32.ofNat (tz T) := pv1.1.1.trans hz.1
      unfold X1_readSensors_B2
      simp (disch := omega) only [s_plan (hS.fm h2), pg_I hP1, e15, Option.bind_some, le_n]
      rw [if_pos (Nat.le_refl _)]
  obtain ⟨M', k1, k2, k3⟩ := key
  refine ⟨M', ?_, k2, k3⟩
  unfold sh_X1_readSensors X1_readSensors_F
  simp only [k_O hM, Option.bind_some, k1]

