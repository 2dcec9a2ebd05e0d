/-! ===== PURE 2: the reference's heats, readings, log, turns ===== -/
theorem m_heats2 {M : Gm} (hM : Ky M) (hT : TOk (M.1 325)) (hb : ∀ z, z < tz (M.1 325) → M.1 330 z = baseH (M.1 325) (M.1 324) z) : ∃ M', lp (X12_heats_B88 319) FU (0, M) = some M' ∧ Fm [330] M M' ∧ ∀ z, z < tz (M.1 325) → M'.1 330 z = nextH (M.1 325) (M.1 324) (tw (M.1 325)) z := by
  refine lp_inv (fun j q => q.1 = Int32.ofNat j ∧ Fm [330] M q.2 ∧ ∀ z, z < tz (M.1 325) → q.2.1 330 z = nextH (M.1 325) (M.1 324) j z) _ (tw (M.1 325)) ?_ ?_ ⟨rfl, Fm.rfl' _ _, hb⟩ (by have := hT.w.2; omega)
  · rintro j ⟨i, M1⟩ hj ⟨h1, h2, h3⟩
    have hz := hT.z
    have hw := hT.w
    obtain ⟨⟨a, b, ha, hbz, hab, ea, eb⟩, hk⟩ := hT.2.2.2.2.2.1 j hj
    have hM1 := hM.fm h2
    have e4 : M1.1 324 = M.1 324 := h2.2 324 (by decide)
    have e5 : M1.1 325 = M.1 325 := h2.2 325 (by decide)
    have hne : M.1 325 (155 + j) ≠ 0 := isN_ne0 hk (by decide)
    have na : (M.1 325 (139 + j)).toNatClampNeg = a := by rw [ea]; exact nn a (by omega)
    have nb : (M.1 325 (147 + j)).toNatClampNeg = b := by rw [eb]; exact nn b (by omega)
    have ef : flowH (M.1 325) (M.1 324) j = byI (M.1 324 a - M.1 324 b) (M.1 325 (155 + j)) := by unfold flowH; rw [na, nb]
    refine Or.inl ⟨(Int32.ofNat (j + 1), sI (sI M1 330 a (M1.1 330 a - flowH (M.1 325) (M.1 324) j)) 330 b (M1.1 330 b + flowH (M.1 325) (M.1 324) j)), ?_, rfl, (h2.set (by decide) _ _).set (by decide) _ _, fun z hz' => ?_⟩
    · subst h1
      rw [ef]
      unfold X12_heats_B88
      simp (disch := omega) only [m_told hM1, m_now hM1, m_next hM1, e4, e5, ld325_167 hM1, hw.1, Option.bind_some, le_n, ix139, ix147, ix155, ix0, ld325 hM1, ld324 hM1, ea, eb, Nat.zero_add, m_by hne, ld330 hM1, st330 hM1, m_next (hM1.sI _ _ _), ld330 (hM1.sI _ _ _), st330 (hM1.sI _ _ _), sI_own, ud_ne, suc_n]
      rw [if_neg (by omega)]
    · show (sI (sI M1 330 a _) 330 b _).1 330 z = _
      rw [sI_own, sI_own]
      show _ = ud (ud (nextH (M.1 325) (M.1 324) j) (M.1 325 (139 + j)).toNatClampNeg _) (M.1 325 (147 + j)).toNatClampNeg _ z
      rw [na, nb]
      by_cases e : z = b
      · subst e; rw [ud_at, ud_at, h3 z hz']
      · rw [ud_ne _ _ e, ud_ne _ _ e]
        by_cases e' : z = a
        · subst e'; rw [ud_at, ud_at, h3 z hz']
        · rw [ud_ne _ _ e', ud_ne _ _ e']; exact h3 z hz'
  · rintro ⟨i, M1⟩ ⟨h1, h2, h3⟩
    have hw := hT.w
    have hM1 := hM.fm h2
    have e5 : M1.1 325 = M.1 325 := h2.2 325 (by decide)
    subst h1
    refine ⟨M1, ?_, h2, h3⟩
    unfold X12_heats_B88
    simp (disch := omega) only [m_told hM1, e5, ld325_167 hM1, hw.1, Option.bind_some, le_n]
    rw [if_pos (Nat.le_refl _)]
theorem m_heats3 {M : Gm} (hM : Ky M) (hT : TOk (M.1 325)) : ∃ M', lp (X12_heats_B184 319) FU (0, M) = some M' ∧ Fm [324] M M' ∧ M'.1 324 = fun k => if k < tz (M.1 325) then heldI (M.1 330 k) 0 1500 else M.1 324 k := by
  refine lp_inv (fun j q => q.1 = Int32.ofNat j ∧ Fm [324] M q.2 ∧ q.2.1 324 = fun k => if k < j then heldI (M.1 330 k) 0 1500 else M.1 324 k) _ (tz (M.1 325)) ?_ ?_ ⟨rfl, Fm.rfl' _ _, by funext k; simp⟩ (by have := hT.z.2; omega)
  · rintro j ⟨i, M1⟩ hj ⟨h1, h2, h3⟩
    have hz := hT.z
    have hM1 := hM.fm h2
    have e5 : M1.1 325 = M.1 325 := h2.2 325 (by decide)
    have e0 : M1.1 330 = M.1 330 := h2.2 330 (by decide)
    refine Or.inl ⟨(Int32.ofNat (j + 1), sI M1 324 j (heldI (M.1 330 j) 0 1500)), ?_, rfl, h2.set (by decide) _ _, ?_⟩
    · subst h1
      unfold X12_heats_B184
      simp (disch := omega) only [m_zones hM1, e5, hz.1, Option.bind_some, le_n, m_now hM1, m_next hM1, ld330 hM1, e0, m_held, ix0, Nat.zero_add, st324 hM1, suc_n]
      rw [if_neg (by omega)]
    · show (sI M1 324 j _).1 324 = _
      rw [sI_own, h3]
      funext k
      unfold ud
      by_cases e : k = j
      · subst e; simp
      · by_cases e' : k < j
        · simp [e, e', show k < j + 1 by omega]
        · simp [e, e', show ¬ k < j + 1 by omega]
  · rintro ⟨i, M1⟩ ⟨h1, h2, h3⟩
    have hz := hT.z
    have hM1 := hM.fm h2
    have e5 : M1.1 325 = M.1 325 := h2.2 325 (by decide)
    subst h1
    refine ⟨M1, ?_, h2, h3⟩
    unfold X12_heats_B184
    simp (disch := omega) only [m_zones hM1, e5, hz.1, Option.bind_some, le_n]
    rw [if_pos (Nat.le_refl _)]
theorem m_heats {M : Gm} (hM : Ky M) (hT : TOk (M.1 325)) : ∃ M', sh_X12_heats 319 M = some M' ∧ Fm [324, 330] M M' ∧ M'.1 324 = mHeats (M.1 325) (M.1 324) := by
  obtain ⟨M1, g1, g2, g3⟩ := m_heats1 hM hT
  have hM1 := hM.fm g2
  have e4 : M1.1 324 = M.1 324 := g2.2 324 (by decide)
  have e5 : M1.1 325 = M.1 325 := g2.2 325 (by decide)
  obtain ⟨M2, k1, k2, k3⟩ := m_heats2 hM1 (by rw [e5]; exact hT) (by rw [e4, e5]; exact g3)
  rw [e4, e5] at k3
  have hM2 := hM1.fm k2
  have e42 : M2.1 324 = M.1 324 := (k2.2 324 (by decide)).trans e4
  have e52 : M2.1 325 = M.1 325 := (k2.2 325 (by decide)).trans e5
  obtain ⟨M3, l1, l2, l3⟩ := m_heats3 hM2 (by rw [e52]; exact hT)
  rw [e42, e52] at l3
  refine ⟨M3, ?_, (g2.trans k2 (L2 := [330]) (by simp) (by simp)).trans l2 (by simp) (by simp), ?_⟩
  · unfold sh_X12_heats X12_heats_F
    rw [m_O hM]
    simp only [Option.bind_some, g1, k1, l1]
  · rw [l3]
    unfold mHeats
    funext k
    by_cases e : k < tz (M.1 325)
    · rw [if_pos e, if_pos e, k3 k e]
    · rw [if_neg e, if_neg e]
/-! readings -/
theorem lp_u4 {σ ε : Type} {B : σ → Option (σ ⊕ ε)} {q0 q1 q2 q3 : σ} {e : ε} (h0 : B q0 = some (.inl q1)) (h1 : B q1 = some (.inl q2)) (h2 : B q2 = some (.inl q3)) (h3 : B q3 = some (.inr e)) : lp B FU q0 = some e :=
  lp_more B 4 FU q0 e (by rw [FU_eq]; omega) (by rw [lp_succ, h0]; show lp B 3 q1 = _; rw [lp_succ, h1]; show lp B 2 q2 = _; rw [lp_succ, h2]; show lp B 1 q3 = _; rw [lp_succ, h3]; rfl)
def sumR (r : Nat → Int32) : Nat → Int32
  | 0 => 0
  | j + 1 => sumR r j + r j
/-- how many of the first j ones come ahead of the i-th -/
def lessR (r : Nat → Int32) (i : Nat) : Nat → Nat
  | 0 => 0
  | j + 1 => lessR r i j + (if r j < r i ∨ (r j = r i ∧ j < i) then 1 else 0)
theorem lessR_le (r : Nat → Int32) (i j : Nat) : lessR r i j ≤ j := by
  induction j with
  | zero => exact Nat.le_refl _
  | succ j ih => unfold lessR; split <;> omega
/-- the one with so many ahead, from the i-th on -/
def medR (r : Nat → Int32) (n : Nat) : Nat → Nat → Int32
  | 0, _ => 0
  | f + 1, i => if lessR r i n = (n - 1) / 2 then r i else medR r n f (i + 1)
def rdR (N : Nat → Int32) (z : Nat) : Nat → Int32 := fun i => N (30 + 4 * z + i)
def mTemp (T N : Nat → Int32) (z : Nat) : Int32 :=
  if T (5 + z) = 0 then N (30 + 4 * z + 0)
  else if T (5 + z) = 1 then byI (sumR (rdR N z) (T (10 + z)).toNatClampNeg) (T (10 + z))
  else if T (5 + z) = 2 then medR (rdR N z) (T (10 + z)).toNatClampNeg (T (10 + z)).toNatClampNeg 0
  else N (20 + z) + byI (N (30 + 4 * z + 0) - N (20 + z)) (T (10 + z))
theorem ad0 (a : Nat) : Int32.ofNat a + 0 = Int32.ofNat (a + 0) := Int32.add_zero _
theorem m_less {M : Gm} (hM : Ky M) {z n i : Nat} (hz : z < 5) (hn : n ≤ 4) (hi : i < 4) : lp (X12_median_B13 319 (Int32.ofNat z) (Int32.ofNat n) (Int32.ofNat i) M) FU (0, 0) = some (Int32.ofNat (lessR (rdR (M.1 324) z) i n)) := by
  refine lp_for (s := fun j => (Int32.ofNat (lessR (rdR (M.1 324) z) i j), Int32.ofNat j)) _ n (fun j hj => ?_) ?_ (by omega)
  · unfold X12_median_B13 X12_median_J59 X12_median_J63 X12_median_J64
    simp (disch := omega) only [le_n, m_read hM hz, Option.bind_some, suc_n]
    rw [if_neg (by omega)]
    show _ = some (Sum.inl (Int32.ofNat (lessR (rdR (M.1 324) z) i j + (if M.1 324 (30 + 4 * z + j) < M.1 324 (30 + 4 * z + i) ∨ (M.1 324 (30 + 4 * z + j) = M.1 324 (30 + 4 * z + i) ∧ j < i) then 1 else 0)), Int32.ofNat (j + 1)))
    by_cases c1 : M.1 324 (30 + 4 * z + j) < M.1 324 (30 + 4 * z + i)
    · simp only [if_pos c1, if_pos (Or.inl c1 : _ ∨ (M.1 324 (30 + 4 * z + j) = M.1 324 (30 + 4 * z + i) ∧ j < i))]
    · rw [if_neg c1]
      by_cases c2 : M.1 324 (30 + 4 * z + j) = M.1 324 (30 + 4 * z + i)
      · rw [if_pos c2]
        by_cases c3 : i ≤ j
        · rw [if_pos c3, if_neg (by rintro (q | q); exact c1 q; omega), ad0]
        · rw [if_neg c3, if_pos (Or.inr ⟨c2, by omega⟩)]
      · rw [if_neg c2, if_neg (by rintro (q | q); exact c1 q; exact c2 q.1), ad0]
  · unfold X12_median_B13
    simp (disch := omega) only [le_n]
    rw [if_pos (Nat.le_refl _)]
theorem dv2 {n : Nat} (h1 : 1 ≤ n) (hn : n ≤ 4) : dvI (Int32.ofNat n - 1) 2 = some (Int32.ofNat ((n - 1) / 2)) := by
  match n, h1, hn with
  | 1, _, _ => rfl
  | 2, _, _ => rfl
  | 3, _, _ => rfl
  | 4, _, _ => rfl
theorem m_median {M : Gm} (hM : Ky M) {z n : Nat} (hz : z < 5) (h1 : 1 ≤ n) (hn : n ≤ 4) : sh_X12_median 319 (Int32.ofNat z) (Int32.ofNat n) M = some (medR (rdR (M.1 324) z) n n 0) := by
  have key : ∃ e, lp (X12_median_B2 319 (Int32.ofNat z) (Int32.ofNat n) M) FU (0 : Int32) = some e ∧ (Sum.elim (fun _ => some 0) (fun u4 => (sh_X12_read 319 (Int32.ofNat z) u4 M).bind fun q5 => some q5) e : Option Int32) = some (medR (rdR (M.1 324) z) n n 0) := by
    refine lp_inv (fun j q => q = Int32.ofNat j ∧ medR (rdR (M.1 324) z) n n 0 = medR (rdR (M.1 324) z) n (n - j) j) _ n ?_ ?_ ⟨rfl, rfl⟩ (by omega)
    · rintro j q hj ⟨rfl, h2⟩
      have hv : X12_median_B2 319 (Int32.ofNat z) (Int32.ofNat n) M (Int32.ofNat j) = if lessR (rdR (M.1 324) z) j n = (n - 1) / 2 then some (.inr (.inr (Int32.ofNat j))) else some (.inl (Int32.ofNat (j + 1))) := by
        have hl := lessR_le (rdR (M.1 324) z) j n
        unfold X12_median_B2
        simp (disch := omega) only [le_n, m_less hM hz hn, Option.bind_some, dv2 h1 hn, eq_n, suc_n]
        rw [if_neg (by omega)]
      have hm : medR (rdR (M.1 324) z) n (n - j) j = if lessR (rdR (M.1 324) z) j n = (n - 1) / 2 then rdR (M.1 324) z j else medR (rdR (M.1 324) z) n (n - (j + 1)) (j + 1) := by
        rw [show n - j = (n - (j + 1)) + 1 by omega]
        rfl
      rw [hm] at h2
      rw [hv]
      by_cases c : lessR (rdR (M.1 324) z) j n = (n - 1) / 2
      · rw [if_pos c] at h2 ⊢
        refine Or.inr ⟨_, rfl, ?_⟩
        rw [h2]
        show (sh_X12_read 319 (Int32.ofNat z) (Int32.ofNat j) M).bind (fun q5 => some q5) = _
        rw [m_read hM hz (by omega)]
        rfl
      · rw [if_neg c] at h2 ⊢
        exact Or.inl ⟨_, rfl, rfl, h2⟩
    · rintro q ⟨rfl, h2⟩
      refine ⟨.inl (), ?_, ?_⟩
      · unfold X12_median_B2
        simp (disch := omega) only [le_n]
        rw [if_pos (Nat.le_refl _)]
      · rw [h2, Nat.sub_self]
        rfl
  obtain ⟨e, k1, k2⟩ := key
  unfold sh_X12_median X12_median_F
  rw [m_O hM]
  simp only [Option.bind_some, k1]
  exact k2
theorem m_tempOf {M : Gm} (hM : Ky M) (hT : TOk (M.1 325)) {z : Nat} (hz : z < tz (M.1 325)) : sh_X12_tempOf 319 (Int32.ofNat z) M = some (mTemp (M.1 325) (M.1 324) z) := by
  have hz5 : z < 5 := by have := hT.z.2; omega
  obtain ⟨-, hf, hdp, -⟩ := hT.2.1 z hz
  obtain ⟨n, en, n1, n4⟩ := hdp
  have hne : M.1 325 (10 + z) ≠ 0 := isN_ne0 ⟨n, en, n1, n4⟩ (by decide)
  have tn' : (M.1 325 (10 + z)).toNatClampNeg = n := by rw [en]; exact nn n (by omega)
  have hr : ∀ j, j < 4 → sh_X12_read 319 (Int32.ofNat z) (Int32.ofNat j) M = some (M.1 324 (30 + 4 * z + j)) := fun j hj => m_read hM hz5 hj
  have hr0 : sh_X12_read 319 (Int32.ofNat z) 0 M = some (M.1 324 (30 + 4 * z + 0)) := hr 0 (by decide)
  have hl : lp (X12_tempOf_B56 319 (Int32.ofNat z) (Int32.ofNat n) M) FU (0, 0) = some (sumR (rdR (M.1 324) z) n) := by
    refine lp_for (s := fun j => (sumR (rdR (M.1 324) z) j, Int32.ofNat j)) _ n (fun j hj => ?_) ?_ (by omega)
    · unfold X12_tempOf_B56
      simp (disch := omega) only [le_n, hr, Option.bind_some, suc_n]
      rw [if_neg (by omega)]
      rfl
    · unfold X12_tempOf_B56
      simp (disch := omega) only [le_n]
      rw [if_pos (Nat.le_refl _)]
  unfold sh_X12_tempOf X12_tempOf_F mTemp
  rw [m_O hM]
  simp (disch := omega) only [Option.bind_some, m_told hM, m_now hM, ix10, ix5, ix20, ld325 hM, ld324 hM, tn', hr0, m_by hne]
  by_cases c0 : M.1 325 (5 + z) = 0
  · simp only [if_pos c0]
  · simp only [if_neg c0]
    by_cases c1 : M.1 325 (5 + z) = 1
    · simp only [if_pos c1]
      rw [show lp (X12_tempOf_B56 319 (Int32.ofNat z) (M.1 325 (10 + z)) M) FU (0, 0) = some (sumR (rdR (M.1 324) z) n) by rw [en]; exact hl]
      simp only [Option.bind_some, m_by hne]
    · simp only [if_neg c1]
      by_cases c2 : M.1 325 (5 + z) = 2
      · simp only [if_pos c2]
        rw [show sh_X12_median 319 (Int32.ofNat z) (M.1 325 (10 + z)) M = some (medR (rdR (M.1 324) z) n n 0) by rw [en]; exact m_median hM hz5 n1 n4]
        rfl
      · simp only [if_neg c2]
/-- the READING of a ZONE is taken -/
def mShift (N : Nat → Int32) (z : Nat) : Nat → Int32 := ud (ud (ud (ud N (30 + 4 * z + 3) (N (30 + 4 * z + 2))) (30 + 4 * z + 2) (N (30 + 4 * z + 1))) (30 + 4 * z + 1) (N (30 + 4 * z + 0))) (30 + 4 * z) (N z)
def mRead1 (T N : Nat → Int32) (z : Nat) : Nat → Int32 := ud (ud (mShift N z) (25 + z) (mTemp T (mShift N z) z - N (20 + z))) (20 + z) (mTemp T (mShift N z) z)
def mReads (T N : Nat → Int32) : Nat → Nat → Int32
  | 0 => N
  | z + 1 => mRead1 T (mReads T N z) z
theorem m_shift {M : Gm} (hM : Ky M) {z : Nat} (hz : z < 5) : lp (X12_readings_B12 319 (Int32.ofNat z)) FU (3, M) = some (wR M 324 (ud (ud (ud (M.1 324) (30 + 4 * z + 3) (M.1 324 (30 + 4 * z + 2))) (30 + 4 * z + 2) (M.1 324 (30 + 4 * z + 1))) (30 + 4 * z + 1) (M.1 324 (30 + 4 * z + 0)))) := by
  have hB : ∀ (k : Nat) (M1 : Gm), Ky M1 → k < 3 → X12_readings_B12 319 (Int32.ofNat z) (Int32.ofNat (k + 1), M1) = some (.inl (Int32.ofNat k, sI M1 324 (30 + 4 * z + (k + 1)) (M1.1 324 (30 + 4 * z + k)))) := fun k M1 hM1 hk => by
    unfold X12_readings_B12
    have e1 : Int32.ofNat (k + 1) - 1 = Int32.ofNat k := by rw [Int32.ofNat_add]; exact Int32.add_sub_cancel _ _
    have e2 : Int32.ofNat (k + 1) + (-1) = Int32.ofNat k := by rw [← e1]; rw [Int32.sub_eq_add_neg]
    simp (disch := omega) only [e1, e2, m_now hM1, m_read hM1 hz, Option.bind_some, mu4, ix30, ad_n, st324 hM1]
    rw [if_neg (by rw [show (0 : Int32) = Int32.ofNat 0 from rfl, le_n (by omega) (by omega)]; omega)]
  have h3 : ∀ M1 : Gm, X12_readings_B12 319 (Int32.ofNat z) (Int32.ofNat 0, M1) = some (.inr M1) := fun M1 => by
    unfold X12_readings_B12
    exact if_pos (show Int32.ofNat 0 ≤ 0 by decide)
  refine (lp_u4 (hB 2 M hM (by decide)) (hB 1 _ (hM.sI _ _ _) (by decide)) (hB 0 _ ((hM.sI _ _ _).sI _ _ _) (by decide)) (h3 _)).trans ?_
  simp (disch := omega) only [sI_wR, wR_wR, wR_own, ud_ne]
theorem m_readings {M : Gm} (hM : Ky M) (hT : TOk (M.1 325)) : sh_X12_readings 319 M = some (wR M 324 (mReads (M.1 325) (M.1 324) (tz (M.1 325)))) := by
  have hz := hT.z
  have hl : lp (X12_readings_B2 319) FU (0, M) = some (wR M 324 (mReads (M.1 325) (M.1 324) (tz (M.1 325)))) := by
    have h0 : ((0 : Int32), M) = (fun j => (Int32.ofNat j, wR M 324 (mReads (M.1 325) (M.1 324) j))) 0 := by
      show _ = (Int32.ofNat 0, wR M 324 (M.1 324))
      rw [wR_self]; rfl
    rw [h0]
    refine lp_for (s := fun j => (Int32.ofNat j, wR M 324 (mReads (M.1 325) (M.1 324) j))) _ (tz (M.1 325)) (fun j hj => ?_) ?_ (by omega)
    · have hM1 := hM.wR 324 (mReads (M.1 325) (M.1 324) j)
      have e5 : (wR M 324 (mReads (M.1 325) (M.1 324) j)).1 325 = M.1 325 := wR_ne _ _ (by decide)
      have hMS := hM.wR 324 (mShift (mReads (M.1 325) (M.1 324) j) j)
      have e5S : (wR M 324 (mShift (mReads (M.1 325) (M.1 324) j) j)).1 325 = M.1 325 := wR_ne _ _ (by decide)
      have ht := m_tempOf hMS (by rw [e5S]; exact hT) (z := j) (by rw [e5S]; exact hj)
      rw [e5S, wR_own] at ht
      have hsh := m_shift hM1 (z := j) (by omega)
      rw [wR_own, wR_wR] at hsh
      unfold X12_readings_B2
      simp (disch := omega) only [m_zones hM1, e5, hz.1, Option.bind_some, le_n, hsh]
      rw [if_neg (by omega)]
      have hM2 := hM.wR 324 (ud (ud (ud (mReads (M.1 325) (M.1 324) j) (30 + 4 * j + 3) (mReads (M.1 325) (M.1 324) j (30 + 4 * j + 2))) (30 + 4 * j + 2) (mReads (M.1 325) (M.1 324) j (30 + 4 * j + 1))) (30 + 4 * j + 1) (mReads (M.1 325) (M.1 324) j (30 + 4 * j + 0)))
      simp (disch := omega) only [m_now hM2, Option.bind_some, ix0, Nat.zero_add, ld324 hM2, wR_own, ud_ne, mu4, ix30, st324 hM2, sI_wR, wR_wR]
      rw [show wR M 324 (ud (ud (ud (ud (mReads (M.1 325) (M.1 324) j) (30 + 4 * j + 3) (mReads (M.1 325) (M.1 324) j (30 + 4 * j + 2))) (30 + 4 * j + 2) (mReads (M.1 325) (M.1 324) j (30 + 4 * j + 1))) (30 + 4 * j + 1) (mReads (M.1 325) (M.1 324) j (30 + 4 * j + 0))) (30 + 4 * j) (mReads (M.1 325) (M.1 324) j j)) = wR M 324 (mShift (mReads (M.1 325) (M.1 324) j) j) from rfl]
      simp (disch := omega) only [ht, m_now hMS, Option.bind_some, ix20, ix25, ld324 hMS, st324 hMS, sI_wR, wR_wR, wR_own, m_now (hM.wR 324 _), st324 (hM.wR 324 _), suc_n]
      have e20 : mShift (mReads (M.1 325) (M.1 324) j) j (20 + j) = mReads (M.1 325) (M.1 324) j (20 + j) := by
        unfold mShift
        simp (disch := omega) only [ud_ne]
      rw [e20]
      rfl
    · have hM1 := hM.wR 324 (mReads (M.1 325) (M.1 324) (tz (M.1 325)))
      have e5 : (wR M 324 (mReads (M.1 325) (M.1 324) (tz (M.1 325)))).1 325 = M.1 325 := wR_ne _ _ (by decide)
      unfold X12_readings_B2
      simp (disch := omega) only [m_zones hM1, e5, hz.1, Option.bind_some, le_n]
      rw [if_pos (Nat.le_refl _)]
  unfold sh_X12_readings X12_readings_F
  rw [m_O hM]
  simp only [Option.bind_some, hl]

