/-! ===== PURE 7: what each step leaves alone; a minute of the reference ===== -/
theorem mHeats_ne {T N : Nat → Int32} (hT : TOk T) {k : Nat} (hk : 5 ≤ k) : mHeats T N k = N k := by
  unfold mHeats
  rw [if_neg (by have := hT.z.2; omega)]
theorem mShift_ne {N : Nat → Int32} {z k : Nat} (h : k < 30 + 4 * z ∨ 34 + 4 * z ≤ k) : mShift N z k = N k := by
  unfold mShift
  rw [ud_ne _ _ (by omega), ud_ne _ _ (by omega), ud_ne _ _ (by omega), ud_ne _ _ (by omega)]
theorem mRead1_ne {T N : Nat → Int32} {z k : Nat} (h1 : k ≠ 20 + z) (h2 : k ≠ 25 + z) (h3 : k < 30 + 4 * z ∨ 34 + 4 * z ≤ k) : mRead1 T N z k = N k := by
  unfold mRead1
  rw [ud_ne _ _ h1, ud_ne _ _ h2, mShift_ne h3]
theorem mReads_ne {T N : Nat → Int32} {k : Nat} (h : k < 20 ∨ 50 ≤ k) : ∀ j, j ≤ 5 → mReads T N j k = N k := by
  intro j
  induction j with
  | zero => intro _; rfl
  | succ j ih =>
    intro hj
    show mRead1 T (mReads T N j) j k = N k
    rw [mRead1_ne (by omega) (by omega) (by omega), ih (by omega)]
theorem mLogs_ne {N : Nat → Int32} {a b c : Int32} {k : Nat} (h : k < 144) : mLogs N a b c k = N k := by
  unfold mLogs
  rw [ud_ne _ _ (by omega), ud_ne _ _ (by omega), ud_ne _ _ (by omega), ud_ne _ _ (by omega), ud_ne _ _ (by omega)]
theorem mTurn_ne {T N : Nat → Int32} {t k : Nat} (h1 : k ≠ 50 + t) (h2 : k ≠ 60 + t) (h3 : k < 144) : mTurn T N t k = N k := by
  unfold mTurn
  split
  · rw [mLogs_ne h3, ud_ne _ _ h2, ud_ne _ _ h1]
  · split
    · rw [mLogs_ne h3, ud_ne _ _ h1]
    · rfl
theorem mStepTo_ne {T N : Nat → Int32} {t k : Nat} : ∀ j, (k < 82 + 6 * t ∨ 82 + 6 * t + j ≤ k) → mStepTo T N t j k = N k := by
  intro j
  induction j with
  | zero => intro _; rfl
  | succ j ih =>
    intro h
    unfold mStepTo
    split
    · exact ih (by omega)
    · rw [ud_ne _ _ (by omega)]
      exact ih (by omega)
theorem shTo_ne {T N : Nat → Int32} {t a k : Nat} : ∀ j, (k < 82 + 6 * t ∨ 82 + 6 * t + j ≤ k) → (shTo T N t a j).2 k = N k := by
  intro j
  induction j with
  | zero => intro _; rfl
  | succ j ih =>
    intro h
    have hs : shTo T N t a (j + 1) = if wn T t j = 0 then shTo T N t a j else ((shTo T N t a j).1 - shV T t a j, ud (shTo T N t a j).2 (82 + 6 * t + j) (Int32.ofNat (shV T t a j))) := rfl
    rw [hs]
    split
    · exact ih (by omega)
    · show ud _ _ _ _ = _
      rw [ud_ne _ _ (by omega)]
      exact ih (by omega)
theorem shTo_un {T N : Nat → Int32} {t a d : Nat} (hw : wn T t d = 0) : ∀ j, (shTo T N t a j).2 (82 + 6 * t + d) = N (82 + 6 * t + d) := by
  intro j
  induction j with
  | zero => rfl
  | succ j ih =>
    have hs : shTo T N t a (j + 1) = if wn T t j = 0 then shTo T N t a j else ((shTo T N t a j).1 - shV T t a j, ud (shTo T N t a j).2 (82 + 6 * t + j) (Int32.ofNat (shV T t a j))) := rfl
    rw [hs]
    split
    · exact ih
    · rename_i c
      show ud _ _ _ _ = _
      rw [ud_ne _ _ (by intro e; have : d = j := by omega
                        subst this; exact c hw)]
      exact ih
theorem giveOne_ne {T : Nat → Int32} {t d k : Nat} (q : Nat × (Nat → Int32)) (h : k ≠ 82 + 6 * t + d) : (giveOne T t q d).2 k = q.2 k := by
  unfold giveOne
  split
  · exact ud_ne _ _ h
  · rfl
theorem giveFold_ne {T : Nat → Int32} {t k : Nat} : ∀ (s : List Nat) (q : Nat × (Nat → Int32)), (∀ d, d ∈ s → k ≠ 82 + 6 * t + d) → (s.foldl (giveOne T t) q).2 k = q.2 k := by
  intro s
  induction s with
  | nil => intro q _; rfl
  | cons d s ih =>
    intro q h
    show (s.foldl (giveOne T t) (giveOne T t q d)).2 k = _
    rw [ih _ (fun x hx => h x (List.mem_cons_of_mem _ hx)), giveOne_ne _ (h d (List.mem_cons_self ..))]
theorem giveAll_ne {T : Nat → Int32} {t k : Nat} {L : List Nat} (h : ∀ d, d ∈ L → k ≠ 82 + 6 * t + d) : ∀ (n : Nat) (q : Nat × (Nat → Int32)), (giveAll T t L n q).2 k = q.2 k := by
  intro n
  induction n with
  | zero => intro q; rfl
  | succ n ih =>
    intro q
    show (giveAll T t L n (L.foldl (giveOne T t) q)).2 k = _
    rw [ih, giveFold_ne _ _ h]
theorem mShare_ne {T N : Nat → Int32} (hT : TOk T) {t k : Nat} (ht : t < 10) (h : k < 82 + 6 * t ∨ 88 + 6 * t ≤ k) : mShare T N t k = N k := by
  unfold mShare
  rw [giveAll_ne (fun d hd => by have := ((dl_ok hT ht).2 d).mp hd; omega), shTo_ne _ (by have := hT.d.2; omega)]
theorem mShare_un {T N : Nat → Int32} (hT : TOk T) {t d : Nat} (ht : t < 10) (hw : wn T t d = 0) : mShare T N t (82 + 6 * t + d) = N (82 + 6 * t + d) := by
  unfold mShare
  rw [giveAll_ne (fun b hb e => by have := ((dl_ok hT ht).2 b).mp hb
                                   have e2 : d = b := by omega
                                   subst e2; exact this.2 hw), shTo_un hw]
theorem mMove_ne {T N : Nat → Int32} {d k : Nat} (h : k ≠ 70 + d) : mMove T N d k = N k := by
  unfold mMove
  exact ud_ne _ _ h
theorem mShut_ne {T N : Nat → Int32} {t k : Nat} (h1 : k ≠ 10 + (T (15 + t)).toNatClampNeg) (h2 : k ≠ 15 + (T (15 + t)).toNatClampNeg) (h3 : k < 144) : mShut T N t k = N k := by
  unfold mShut
  split
  · split
    · rfl
    · split
      · rfl
      · unfold shutNow
        rw [mLogs_ne h3, ud_ne _ _ h2, ud_ne _ _ h1]
  · rfl
/-- a step for each of the first so many -/
def itR (f : (Nat → Int32) → Nat → Nat → Int32) (N : Nat → Int32) : Nat → Nat → Int32
  | 0 => N
  | j + 1 => f (itR f N j) j
def mWant (T N : Nat → Int32) (t : Nat) : Nat → Int32 := if T (25 + t) = 0 then mStepTo T N t (td T) else if T (25 + t) = 1 then mShare T N t else N
noncomputable def mMinute (T N : Nat → Int32) : Nat → Int32 :=
  let N5 := itR (mShut T) (itR (mMove T) (itR (mWant T) (itR (mTurn T) (mReads T (mHeats T N) (tz T)) (tt T)) (tt T)) (td T)) (tt T)
  ud N5 142 (N5 142 + 1)
theorem LgOk.same {N N' : Nat → Int32} {k : Nat} (h : LgOk N k) (e : N' 144 = N 144) : LgOk N' k := by
  unfold LgOk lg
  rw [e]
  exact h
theorem Lg_turns {T N : Nat → Int32} (hT : TOk T) {k : Nat} (h : LgOk N k) (hk : k + 10 < 2147483647) : ∀ j, j ≤ tt T → LgOk (itR (mTurn T) N j) (k + j) := by
  intro j
  induction j with
  | zero => intro _; exact h
  | succ j ih =>
    intro hj
    have := hT.t.2
    exact (ih (by omega)).turn (by omega) (by omega)
theorem Lg_wants {T N : Nat → Int32} (hT : TOk T) {k : Nat} (h : LgOk N k) : ∀ j, j ≤ tt T → LgOk (itR (mWant T) N j) k := by
  intro j
  induction j with
  | zero => intro _; exact h
  | succ j ih =>
    intro hj
    have h10 := hT.t.2
    refine (ih (by omega)).same ?_
    show mWant T (itR (mWant T) N j) j 144 = _
    unfold mWant
    have h6 := hT.d.2
    split
    · exact mStepTo_ne _ (by omega)
    · split
      · exact mShare_ne hT (by omega) (by omega)
      · rfl
theorem Lg_moves {T N : Nat → Int32} (hT : TOk T) {k : Nat} (h : LgOk N k) : ∀ j, j ≤ td T → LgOk (itR (mMove T) N j) k := by
  intro j
  induction j with
  | zero => intro _; exact h
  | succ j ih =>
    intro hj
    have h6 := hT.d.2
    exact (ih (by omega)).same (mMove_ne (by omega))
theorem TOk.zn {T : Nat → Int32} (hT : TOk T) {t : Nat} (ht : t < tt T) : T (15 + t) = Int32.ofNat (T (15 + t)).toNatClampNeg ∧ (T (15 + t)).toNatClampNeg < tz T := by
  obtain ⟨⟨z, hz, ez⟩, -⟩ := hT.2.2.1 t ht
  have := hT.z.2
  rw [ez, nn z (by omega)]
  exact ⟨rfl, hz⟩
theorem Lg_shuts {T N : Nat → Int32} (hT : TOk T) {k : Nat} (h : LgOk N k) (hk : k + 10 < 2147483647) : ∀ j, j ≤ tt T → LgOk (itR (mShut T) N j) (k + j) := by
  intro j
  induction j with
  | zero => intro _; exact h
  | succ j ih =>
    intro hj
    have := hT.t.2
    have h2 := (hT.zn (t := j) (by omega)).2
    have h3 := hT.z.2
    exact (ih (by omega)).shut (by omega) (by omega)
theorem Lg_minute {T N : Nat → Int32} (hT : TOk T) {k : Nat} (h : LgOk N k) (hk : k + 20 < 2147483647) : LgOk (mMinute T N) (k + 20) := by
  have h10 := hT.t.2
  have h5 := hT.z.2
  have a1 : LgOk (mReads T (mHeats T N) (tz T)) k := h.same ((mReads_ne (by omega) _ h5).trans (mHeats_ne hT (by omega)))
  have a2 := Lg_turns hT a1 (by omega) (tt T) (Nat.le_refl _)
  have a3 := Lg_wants hT a2 (tt T) (Nat.le_refl _)
  have a4 := Lg_moves hT a3 (td T) (Nat.le_refl _)
  have a5 := Lg_shuts hT a4 (by omega) (tt T) (Nat.le_refl _)
  exact (a5.ud _ (by decide)).w (by omega)
/-- a loop over the first n, each a step of the row -/
theorem m_minute {M : Gm} (hM : Ky M) (hT : TOk (M.1 325)) {k : Nat} (hL : LgOk (M.1 324) k) (hk : k + 20 < 2147483647) : ∃ M', sh_X12_minute 319 M = some M' ∧ Fm [324, 330, 331] M M' ∧ M'.1 324 = mMinute (M.1 325) (M.1 324) := by
  have h10 := hT.t
  have h6 := hT.d
  have h5 := hT.z.2
  obtain ⟨M1, a1, a2, a3⟩ := m_heats hM hT
  have hM1 := hM.fm a2
  have eT1 : M1.1 325 = M.1 325 := a2.2 325 (by decide)
  have b1 := m_readings hM1 (by rw [eT1]; exact hT)
  rw [eT1, a3] at b1
  have hM2 := hM1.wR 324 (mReads (M.1 325) (mHeats (M.1 325) (M.1 324)) (tz (M.1 325)))
  have f2 : Fm [324, 330, 331] M (wR M1 324 (mReads (M.1 325) (mHeats (M.1 325) (M.1 324)) (tz (M.1 325)))) := a2.trans (L' := [324]) ⟨rfl, fun b hb => wR_ne _ _ (fun e => hb (by rw [e]; decide))⟩ (by simp <;> omega) (by simp)
  have l2 : LgOk (mReads (M.1 325) (mHeats (M.1 325) (M.1 324)) (tz (M.1 325))) k := hL.same ((mReads_ne (by omega) _ h5).trans (mHeats_ne hT (by omega)))
  have hrow : (wR M1 324 (mReads (M.1 325) (mHeats (M.1 325) (M.1 324)) (tz (M.1 325)))).1 324 = mReads (M.1 325) (mHeats (M.1 325) (M.1 324)) (tz (M.1 325)) := wR_own _ _ _
  unfold mMinute
  generalize mReads (M.1 325) (mHeats (M.1 325) (M.1 324)) (tz (M.1 325)) = N2 at b1 hM2 f2 l2 hrow ⊢
  generalize wR M1 324 N2 = M2 at b1 hM2 f2 hrow
  have step : ∀ (B : Int32 × Gm → Option ((Int32 × Gm) ⊕ Gm)) (f : (Nat → Int32) → Nat → Nat → Int32) (n : Nat) (N0 : Nat → Int32) (M0 : Gm), n ≤ 10 → Fm [324, 330, 331] M M0 → M0.1 324 = N0 →
      (∀ (j : Nat) (Mj : Gm), j < n → Fm [324, 330, 331] M Mj → Mj.1 324 = itR f N0 j → ∃ M', B (Int32.ofNat j, Mj) = some (.inl (Int32.ofNat (j + 1), M')) ∧ Fm [324, 330, 331] Mj M' ∧ M'.1 324 = f (itR f N0 j) j) →
      (∀ Mj : Gm, Fm [324, 330, 331] M Mj → B (Int32.ofNat n, Mj) = some (.inr Mj)) → ∃ M', lp B FU (0, M0) = some M' ∧ Fm [324, 330, 331] M M' ∧ M'.1 324 = itR f N0 n := by
    intro B f n N0 M0 hn hF hN hs hE
    refine lp_inv (fun j q => q.1 = Int32.ofNat j ∧ Fm [324, 330, 331] M q.2 ∧ q.2.1 324 = itR f N0 j) _ n ?_ ?_ ⟨rfl, hF, hN⟩ (by omega)
    · rintro j ⟨i, Mj⟩ hj ⟨h1, h2, h3⟩
      replace h1 : i = Int32.ofNat j := h1
      subst h1
      obtain ⟨M', g1, g2, g3⟩ := hs j Mj hj h2 h3
      exact Or.inl ⟨_, g1, rfl, h2.trans g2 (fun _ q => q) (fun _ q => q), g3⟩
    · rintro ⟨i, Mj⟩ ⟨h1, h2, h3⟩
      replace h1 : i = Int32.ofNat n := h1
      subst h1
      exact ⟨Mj, hE Mj h2, h2, h3⟩
  have fw : ∀ (Mj : Gm) (f : Nat → Int32), Fm [324, 330, 331] Mj (wR Mj 324 f) := fun Mj f => ⟨rfl, fun b hb => wR_ne _ _ (fun e => hb (by rw [e]; decide))⟩
  obtain ⟨M3, c1, c2, c3⟩ := step (X12_minute_B10 319) (mTurn (M.1 325)) (tt (M.1 325)) N2 M2 h10.2 f2 hrow (fun j Mj hj hF hN => by
      have hMj := hM.fm hF
      have eT : Mj.1 325 = M.1 325 := hF.2 325 (by decide)
      have ht := m_turns hMj (by rw [eT]; exact hT) (k := k + j) (by rw [hN]; exact Lg_turns hT l2 (by omega) j (by omega)) (by omega) (t := j) (by rw [eT]; exact hj)
      rw [eT, hN] at ht
      refine ⟨_, ?_, fw _ _, wR_own _ _ _⟩
      unfold X12_minute_B10
      simp (disch := omega) only [m_trips hMj, eT, h10.1, Option.bind_some, le_n, ht, suc_n]
      rw [if_neg (by omega)]) (fun Mj hF => by
      have hMj := hM.fm hF
      have eT : Mj.1 325 = M.1 325 := hF.2 325 (by decide)
      unfold X12_minute_B10
      simp (disch := omega) only [m_trips hMj, eT, h10.1, Option.bind_some, le_n]
      rw [if_pos (Nat.le_refl _)])
  have l3 := Lg_turns hT l2 (by omega) (tt (M.1 325)) (Nat.le_refl _)
  generalize itR (mTurn (M.1 325)) N2 (tt (M.1 325)) = N3 at c3 l3 ⊢
  obtain ⟨M4, d1, d2, d3⟩ := step (X12_minute_B31 319) (mWant (M.1 325)) (tt (M.1 325)) N3 M3 h10.2 c2 c3 (fun j Mj hj hF hN => by
      have hMj := hM.fm hF
      have eT : Mj.1 325 = M.1 325 := hF.2 325 (by decide)
      have hTj : TOk (Mj.1 325) := by rw [eT]; exact hT
      have hst := m_steps hMj hTj (t := j) (by rw [eT]; exact hj)
      obtain ⟨Ms, s1, s2, s3⟩ := m_shares hMj hTj (t := j) (by rw [eT]; exact hj)
      rw [eT, hN] at hst s3
      unfold mWant
      unfold X12_minute_B31 X12_minute_J56 X12_minute_J74
      simp (disch := omega) only [m_trips hMj, eT, h10.1, Option.bind_some, le_n, m_told hMj, ix25, ld325 hMj, hst, m_told (hMj.wR 324 _), ld325 (hMj.wR 324 _), wR_ne, s1, suc_n]
      rw [if_neg (show ¬ tt (M.1 325) ≤ j by omega)]
      by_cases e0 : M.1 325 (25 + j) = 0
      · have e1 : ¬ M.1 325 (25 + j) = 1 := by rw [e0]; decide
        rw [if_pos e0, if_pos e0, if_neg e1]
        exact ⟨_, rfl, fw _ _, wR_own _ _ _⟩
      · rw [if_neg e0, if_neg e0]
        by_cases e1 : M.1 325 (25 + j) = 1
        · rw [if_pos e1, if_pos e1]
          exact ⟨Ms, rfl, s2.trans (Fm.rfl' [324, 331] _) (by simp <;> omega) (by simp <;> omega), s3⟩
        · rw [if_neg e1, if_neg e1]
          exact ⟨Mj, rfl, Fm.rfl' _ _, hN⟩) (fun Mj hF => by
      have hMj := hM.fm hF
      have eT : Mj.1 325 = M.1 325 := hF.2 325 (by decide)
      unfold X12_minute_B31
      simp (disch := omega) only [m_trips hMj, eT, h10.1, Option.bind_some, le_n]
      rw [if_pos (Nat.le_refl _)])
  have l4 := Lg_wants hT l3 (tt (M.1 325)) (Nat.le_refl _)
  generalize itR (mWant (M.1 325)) N3 (tt (M.1 325)) = N4 at d3 l4 ⊢
  obtain ⟨M5, e1, e2, e3⟩ := step (X12_minute_B82 319) (mMove (M.1 325)) (td (M.1 325)) N4 M4 (by omega) d2 d3 (fun j Mj hj hF hN => by
      have hMj := hM.fm hF
      have eT : Mj.1 325 = M.1 325 := hF.2 325 (by decide)
      have ht := m_moves hMj (by rw [eT]; exact hT) (d := j) (by omega)
      rw [eT, hN] at ht
      refine ⟨_, ?_, fw _ _, wR_own _ _ _⟩
      unfold X12_minute_B82
      simp (disch := omega) only [m_devices hMj, eT, h6.1, Option.bind_some, le_n, ht, suc_n]
      rw [if_neg (by omega)]) (fun Mj hF => by
      have hMj := hM.fm hF
      have eT : Mj.1 325 = M.1 325 := hF.2 325 (by decide)
      unfold X12_minute_B82
      simp (disch := omega) only [m_devices hMj, eT, h6.1, Option.bind_some, le_n]
      rw [if_pos (Nat.le_refl _)])
  have l5 := Lg_moves hT l4 (td (M.1 325)) (Nat.le_refl _)
  generalize itR (mMove (M.1 325)) N4 (td (M.1 325)) = N5 at e3 l5 ⊢
  obtain ⟨M6, g1, g2, g3⟩ := step (X12_minute_B103 319) (mShut (M.1 325)) (tt (M.1 325)) N5 M5 h10.2 e2 e3 (fun j Mj hj hF hN => by
      have hMj := hM.fm hF
      have eT : Mj.1 325 = M.1 325 := hF.2 325 (by decide)
      have ht := m_shuts hMj (by rw [eT]; exact hT) (k := k + tt (M.1 325) + j) (by rw [hN]; exact Lg_shuts hT l5 (by omega) j (by omega)) (by omega) (t := j) (by rw [eT]; exact hj)
      rw [eT, hN] at ht
      refine ⟨_, ?_, fw _ _, wR_own _ _ _⟩
      unfold X12_minute_B103
      simp (disch := omega) only [m_trips hMj, eT, h10.1, Option.bind_some, le_n, ht, suc_n]
      rw [if_neg (by omega)]) (fun Mj hF => by
      have hMj := hM.fm hF
      have eT : Mj.1 325 = M.1 325 := hF.2 325 (by decide)
      unfold X12_minute_B103
      simp (disch := omega) only [m_trips hMj, eT, h10.1, Option.bind_some, le_n]
      rw [if_pos (Nat.le_refl _)])
  have hM6 := hM.fm g2
  refine ⟨wR M6 324 (ud (M6.1 324) 142 (M6.1 324 142 + 1)), ?_, g2.trans (fw M6 _) (fun _ q => q) (fun _ q => q), ?_⟩
  · unfold sh_X12_minute X12_minute_F
    rw [m_O hM]
    simp only [Option.bind_some, a1, b1, c1, d1, e1, g1, m_now hM6, ld324_142 hM6, st324_142 hM6, sI_wR]
  · rw [wR_own, g3]

