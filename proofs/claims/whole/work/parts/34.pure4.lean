/-! ===== PURE 4: shares of the reference ===== -/
def wn (T : Nat → Int32) (t d : Nat) : Nat := (T (79 + 6 * t + d)).toNatClampNeg
def mn (T : Nat → Int32) (d : Nat) : Nat := (T (67 + d)).toNatClampNeg
theorem TOk.wN {T : Nat → Int32} (h : TOk T) {t d : Nat} (ht : t < 10) (hd : d < 6) : T (79 + 6 * t + d) = Int32.ofNat (wn T t d) ∧ wn T t d ≤ 9 ∧ (wn T t d ≠ 0 → t < tt T ∧ d < td T) := by
  obtain ⟨h1, h2⟩ := h.2.2.2.2.1 t d ht hd
  obtain ⟨e, -, l⟩ := isN_nn h1 (by decide)
  refine ⟨e, l, fun hne => ?_⟩
  have := h2 (by
    intro e0
    apply hne
    show (T (79 + 6 * t + d)).toNatClampNeg = 0
    rw [e0]; rfl)
  exact ⟨this.1, this.2.1⟩
theorem TOk.mN {T : Nat → Int32} (h : TOk T) {d : Nat} (hd : d < td T) : T (67 + d) = Int32.ofNat (mn T d) ∧ 1 ≤ mn T d ∧ mn T d ≤ 9 := isN_nn (h.2.2.2.1 d hd).2.2.1 (by decide)
theorem n_le0 {a : Nat} (h : a < 2147483648) : (Int32.ofNat a ≤ 0) ↔ a = 0 := by
  rw [show (0 : Int32) = Int32.ofNat 0 from rfl, le_n h (by decide)]; omega
theorem n_eq0 {a : Nat} (h : a < 2147483648) : (Int32.ofNat a = 0) ↔ a = 0 := by
  rw [show (0 : Int32) = Int32.ofNat 0 from rfl, eq_n h (by decide)]
def wS (T : Nat → Int32) (t : Nat) : Nat → Nat
  | 0 => 0
  | d + 1 => wS T t d + wn T t d
def mS (T : Nat → Int32) (t : Nat) : Nat → Nat
  | 0 => 0
  | d + 1 => mS T t d + (if wn T t d = 0 then 0 else mn T d)
theorem wS_le {T : Nat → Int32} (hT : TOk T) {t : Nat} (ht : t < 10) : ∀ j, j ≤ 6 → wS T t j ≤ 9 * j := by
  intro j
  induction j with
  | zero => intro _; exact Nat.le_refl _
  | succ j ih =>
    intro hj
    have h1 := ih (by omega)
    have h2 := (hT.wN ht (d := j) (by omega)).2.1
    show wS T t j + wn T t j ≤ _
    omega
theorem wS_ge {T : Nat → Int32} (t : Nat) {d : Nat} : ∀ j, d < j → wn T t d ≤ wS T t j := by
  intro j
  induction j with
  | zero => intro h; omega
  | succ j ih =>
    intro hj
    show _ ≤ wS T t j + wn T t j
    by_cases e : d = j
    · subst e; omega
    · have := ih (by omega); omega
theorem mS_le {T : Nat → Int32} (hT : TOk T) (t : Nat) : ∀ j, j ≤ td T → mS T t j ≤ 9 * j := by
  intro j
  induction j with
  | zero => intro _; exact Nat.le_refl _
  | succ j ih =>
    intro hj
    have h1 := ih (by omega)
    have h2 := (hT.mN (d := j) (by omega)).2.2
    show mS T t j + _ ≤ _
    split <;> omega
theorem mostS_n {T : Nat → Int32} (hT : TOk T) {t : Nat} (ht : t < 10) : ∀ j, j ≤ td T → mostS T t j = Int32.ofNat (mS T t j) := by
  intro j
  induction j with
  | zero => intro _; rfl
  | succ j ih =>
    intro hj
    have hd6 := hT.d.2
    have h1 := ih (by omega)
    have h2 := hT.wN ht (d := j) (by omega)
    have h3 := hT.mN (d := j) (by omega)
    show mostS T t j + (if T (79 + 6 * t + j) ≤ 0 then 0 else T (67 + j)) = Int32.ofNat (mS T t j + (if wn T t j = 0 then 0 else mn T j))
    have h4 := n_le0 (a := wn T t j) (by omega)
    rw [h1, h2.1]
    by_cases c : wn T t j = 0
    · rw [if_pos (h4.mpr c), if_pos c, ad0]
    · rw [if_neg (fun q => c (h4.mp q)), if_neg c, Int32.ofNat_add, ← h3.1]
/-- ASKED as a natural, never more than the sum of the MOSTS -/
def an (T N : Nat → Int32) (t : Nat) : Nat := (mAsked T N t).toNatClampNeg
theorem asked_n {T N : Nat → Int32} (hT : TOk T) {t : Nat} (ht : t < 10) : mAsked T N t = Int32.ofNat (an T N t) ∧ an T N t ≤ mS T t (td T) := by
  have hd6 := hT.d.2
  have hS := mS_le hT t (td T) (Nat.le_refl _)
  have key : ∃ a, mAsked T N t = Int32.ofNat a ∧ a ≤ mS T t (td T) := by
    unfold mAsked
    split
    · split
      · exact ⟨0, rfl, Nat.zero_le _⟩
      · rw [mostS_n hT ht _ (Nat.le_refl _)]
        generalize byI _ _ + 1 = X
        have hm : (1 : Int) ≤ (maxI 1 X).toInt := by
          unfold maxI
          have h1 : (1 : Int32).toInt = 1 := rfl
          split
          · rename_i c; rw [tI_lt] at c; omega
          · omega
        generalize maxI 1 X = Y at hm
        unfold minI
        split
        · rename_i c
          rw [tI_lt, tn _ (by omega)] at c
          exact ⟨Y.toInt.toNat, ofNat_tI (by omega), by omega⟩
        · exact ⟨_, rfl, Nat.le_refl _⟩
    · exact ⟨0, rfl, Nat.zero_le _⟩
  obtain ⟨a, e, l⟩ := key
  have : an T N t = a := by unfold an; rw [e]; exact nn a (by omega)
  rw [this]
  exact ⟨e, l⟩
/-! the first shares -/
def shV (T : Nat → Int32) (t a d : Nat) : Nat := min (mn T d) (a * wn T t d / wS T t (td T))
def vS (T : Nat → Int32) (t a : Nat) : Nat → Nat
  | 0 => 0
  | d + 1 => vS T t a d + (if wn T t d = 0 then 0 else shV T t a d)
def shTo (T N : Nat → Int32) (t a : Nat) : Nat → Nat × (Nat → Int32)
  | 0 => (a, N)
  | d + 1 => if wn T t d = 0 then shTo T N t a d else ((shTo T N t a d).1 - shV T t a d, ud (shTo T N t a d).2 (82 + 6 * t + d) (Int32.ofNat (shV T t a d)))
theorem vS_le (T : Nat → Int32) (t a : Nat) : ∀ j, vS T t a j ≤ a * wS T t j / wS T t (td T) := by
  intro j
  induction j with
  | zero => exact Nat.zero_le _
  | succ j ih =>
    show vS T t a j + _ ≤ a * (wS T t j + wn T t j) / wS T t (td T)
    have h1 : a * wS T t j / wS T t (td T) + a * wn T t j / wS T t (td T) ≤ a * (wS T t j + wn T t j) / wS T t (td T) := by
      rw [Nat.mul_add]
      rcases Nat.eq_zero_or_pos (wS T t (td T)) with e | e
      · rw [e]; simp
      · rw [Nat.le_div_iff_mul_le e, Nat.add_mul]
        exact Nat.add_le_add (Nat.div_mul_le_self _ _) (Nat.div_mul_le_self _ _)
    have h2 : (if wn T t j = 0 then 0 else shV T t a j) ≤ a * wn T t j / wS T t (td T) := by
      split
      · exact Nat.zero_le _
      · exact Nat.min_le_right _ _
    omega
theorem vS_mono (T : Nat → Int32) (t a : Nat) {i j : Nat} (h : i ≤ j) : vS T t a i ≤ vS T t a j := by
  induction j with
  | zero => have : i = 0 := by omega
            subst this; exact Nat.le_refl _
  | succ j ih =>
    by_cases e : i = j + 1
    · subst e; exact Nat.le_refl _
    · have h1 := ih (by omega)
      have h2 : vS T t a j ≤ vS T t a (j + 1) := Nat.le_add_right _ _
      omega
theorem vS_a (T : Nat → Int32) (t a : Nat) {j : Nat} (hj : j ≤ td T) : vS T t a j ≤ a := by
  have h1 := vS_mono T t a hj
  have h2 := vS_le T t a (td T)
  have h3 : a * wS T t (td T) / wS T t (td T) ≤ a := Nat.div_le_of_le_mul (by rw [Nat.mul_comm]; exact Nat.le_refl _)
  omega
theorem shTo_1 (T N : Nat → Int32) (t a : Nat) : ∀ j, j ≤ td T → (shTo T N t a j).1 = a - vS T t a j := by
  intro j
  induction j with
  | zero => intro _; rfl
  | succ j ih =>
    intro hj
    have h1 := ih (by omega)
    have h2 := vS_a T t a hj
    show (if wn T t j = 0 then shTo T N t a j else _).1 = a - (vS T t a j + (if wn T t j = 0 then 0 else shV T t a j))
    split
    · omega
    · show (shTo T N t a j).1 - shV T t a j = _
      omega
theorem m_wsum {M : Gm} (hM : Ky M) (hT : TOk (M.1 325)) {t : Nat} (ht : t < 10) (x y : Int32) : lp (X12_shares_B14 319 (Int32.ofNat t) x y M) FU (0, 0) = some (Int32.ofNat (wS (M.1 325) t (td (M.1 325)))) := by
  have hd := hT.d
  refine lp_for (s := fun j => (Int32.ofNat (wS (M.1 325) t j), Int32.ofNat j)) _ (td (M.1 325)) (fun j hj => ?_) ?_ (by omega)
  · unfold X12_shares_B14
    simp (disch := omega) only [m_devices hM, hd.1, Option.bind_some, le_n, m_weight hM, (hT.wN ht (d := j) (by omega)).1, ad_n, suc_n]
    rw [if_neg (by omega)]
    rfl
  · unfold X12_shares_B14
    simp (disch := omega) only [m_devices hM, hd.1, Option.bind_some, le_n]
    rw [if_pos (Nat.le_refl _)]
theorem m_share0 {M : Gm} (hM : Ky M) (hT : TOk (M.1 325)) {t a : Nat} (ht : t < 10) (ha : a ≤ 54) : lp (X12_shares_B44 319 (Int32.ofNat t) (Int32.ofNat a) (Int32.ofNat (wS (M.1 325) t (td (M.1 325))))) FU (Int32.ofNat a, 0, M) = some (Int32.ofNat (shTo (M.1 325) (M.1 324) t a (td (M.1 325))).1, wR M 324 (shTo (M.1 325) (M.1 324) t a (td (M.1 325))).2) := by
  have hd := hT.d
  have h0 : (Int32.ofNat a, (0 : Int32), M) = (fun j => (Int32.ofNat (shTo (M.1 325) (M.1 324) t a j).1, Int32.ofNat j, wR M 324 (shTo (M.1 325) (M.1 324) t a j).2)) 0 := by
    show _ = (Int32.ofNat a, Int32.ofNat 0, wR M 324 (M.1 324))
    rw [wR_self]; rfl
  rw [h0]
  refine lp_for (s := fun j => (Int32.ofNat (shTo (M.1 325) (M.1 324) t a j).1, Int32.ofNat j, wR M 324 (shTo (M.1 325) (M.1 324) t a j).2)) _ (td (M.1 325)) (fun j hj => ?_) ?_ (by omega)
  · have hM1 := hM.wR 324 (shTo (M.1 325) (M.1 324) t a j).2
    have e5 : (wR M 324 (shTo (M.1 325) (M.1 324) t a j).2).1 325 = M.1 325 := wR_ne _ _ (by decide)
    have hw := hT.wN ht (d := j) (by omega)
    have hm := hT.mN hj
    have hW := wS_le hT ht (td (M.1 325)) hd.2
    have hge := wS_ge (T := M.1 325) t (d := j) (td (M.1 325)) hj
    have l1 := shTo_1 (M.1 325) (M.1 324) t a j (by omega)
    have l2 := vS_a (M.1 325) t a (j := j + 1) (by omega)
    have l3 : vS (M.1 325) t a (j + 1) = vS (M.1 325) t a j + (if wn (M.1 325) t j = 0 then 0 else shV (M.1 325) t a j) := rfl
    have hs : shTo (M.1 325) (M.1 324) t a (j + 1) = if wn (M.1 325) t j = 0 then shTo (M.1 325) (M.1 324) t a j else ((shTo (M.1 325) (M.1 324) t a j).1 - shV (M.1 325) t a j, ud (shTo (M.1 325) (M.1 324) t a j).2 (82 + 6 * t + j) (Int32.ofNat (shV (M.1 325) t a j))) := rfl
    rw [hs]
    unfold X12_shares_B44 X12_shares_J107
    simp (disch := omega) only [m_devices hM1, e5, hd.1, Option.bind_some, le_n, m_weight hM1, hw.1, n_eq0, m_told hM1, ix67, ld325 hM1, hm.1, m_min, m_wants hM1, suc_n]
    rw [if_neg (by omega)]
    by_cases c : wn (M.1 325) t j = 0
    · simp only [if_pos c]
    · simp only [if_neg c]
      have hp : a * wn (M.1 325) t j ≤ 54 * 9 := Nat.mul_le_mul ha hw.2.1
      have hdv : dvI (Int32.ofNat a * Int32.ofNat (wn (M.1 325) t j)) (Int32.ofNat (wS (M.1 325) t (td (M.1 325)))) = some (Int32.ofNat (a * wn (M.1 325) t j / wS (M.1 325) t (td (M.1 325)))) := by
        unfold dvI
        rw [if_neg (by rw [n_eq0 (by omega)]; omega), ← Int32.ofNat_mul, Int32.ofNat_div (by omega) (by omega)]
      have hq : a * wn (M.1 325) t j / wS (M.1 325) t (td (M.1 325)) ≤ 486 := Nat.le_trans (Nat.div_le_self _ _) hp
      have hmin : minI (Int32.ofNat (mn (M.1 325) j)) (Int32.ofNat (a * wn (M.1 325) t j / wS (M.1 325) t (td (M.1 325)))) = Int32.ofNat (shV (M.1 325) t a j) := by
        unfold minI shV
        have h4 := lt_n (a := a * wn (M.1 325) t j / wS (M.1 325) t (td (M.1 325))) (b := mn (M.1 325) j) (by omega) (by omega)
        split
        · rename_i c2
          have := h4.mp c2
          rw [Nat.min_eq_right (by omega)]
        · rename_i c2
          have : ¬ _ := fun q => c2 (h4.mpr q)
          rw [Nat.min_eq_left (by omega)]
      rw [if_neg c] at l3
      rw [hdv]
      simp only [Option.bind_some, hmin, sI_wR, wR_wR, wR_own]
      rw [Int32.ofNat_sub _ _ (by omega)]
  · have hM1 := hM.wR 324 (shTo (M.1 325) (M.1 324) t a (td (M.1 325))).2
    have e5 : (wR M 324 (shTo (M.1 325) (M.1 324) t a (td (M.1 325))).2).1 325 = M.1 325 := wR_ne _ _ (by decide)
    unfold X12_shares_B44
    simp (disch := omega) only [m_devices hM1, e5, hd.1, Option.bind_some, le_n]
    rw [if_pos (Nat.le_refl _)]
theorem m_clear1 {M : Gm} (hM : Ky M) (x y : Int32) : ∃ M', lp (X12_shares_B116 319 x y) FU (0, M) = some M' ∧ Fm [331] M M' ∧ ∀ d, d < 6 → M'.1 331 d = 0 := by
  refine lp_inv (fun j q => q.1 = Int32.ofNat j ∧ Fm [331] M q.2 ∧ ∀ d, d < j → q.2.1 331 d = 0) _ 6 ?_ ?_ ⟨rfl, Fm.rfl' _ _, fun d h => absurd h (Nat.not_lt_zero d)⟩ (by decide)
  · rintro j ⟨i, M1⟩ hj ⟨h1, h2, h3⟩
    have hM1 := hM.fm h2
    subst h1
    refine Or.inl ⟨(Int32.ofNat (j + 1), sI M1 331 j 0), ?_, rfl, h2.set (by decide) _ _, fun d hd => ?_⟩
    · unfold X12_shares_B116
      rw [if_neg (by rw [show (6 : Int32) = Int32.ofNat 6 from rfl, le_n (by omega) (by omega)]; omega)]
      simp (disch := omega) only [m_given hM1, Option.bind_some, st331 hM1, suc_n]
      rfl
    · show (sI M1 331 j 0).1 331 d = 0
      rw [sI_own]
      by_cases e : d = j
      · subst e; rw [ud_at]
      · rw [ud_ne _ _ e]; exact h3 d (by omega)
  · rintro ⟨i, M1⟩ ⟨h1, h2, h3⟩
    subst h1
    exact ⟨M1, by unfold X12_shares_B116; exact if_pos (show (6 : Int32) ≤ Int32.ofNat 6 by decide), h2, h3⟩
theorem m_clear2 {M : Gm} (hM : Ky M) (x y : Int32) : ∃ M', lp (X12_shares_B157 319 x y) FU (0, M) = some M' ∧ Fm [331] M M' ∧ ∀ d, d < 6 → M'.1 331 d = 0 := m_clear1 hM x y

