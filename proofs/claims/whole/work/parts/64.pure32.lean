/-! ===== PURE 32: what is shut stays shut; FIRST ===== -/
theorem itR_ne {f : (Nat → Int32) → Nat → Nat → Int32} {k : Nat} {N : Nat → Int32} : ∀ n, (∀ (R : Nat → Int32) j, j < n → f R j k = R k) → itR f N n k = N k
  | 0, _ => rfl
  | n + 1, h => (h _ n (by omega)).trans (itR_ne n (fun R j hj => h R j (by omega)))
theorem mWant_ne {T N : Nat → Int32} (hT : TOk T) {t k : Nat} (ht : t < 10) (h : k < 82 ∨ 142 ≤ k) : mWant T N t k = N k := by
  have h6 := hT.d.2
  unfold mWant
  split
  · exact mStepTo_ne _ (by omega)
  · split
    · exact mShare_ne hT ht (by omega)
    · rfl
theorem mShut_up {T N : Nat → Int32} (hT : TOk T) {t z : Nat} (ht : t < tt T) (hz : z < 5) : mShut T N t (10 + z) = N (10 + z) ∨ mShut T N t (10 + z) = 1 := by
  have hzn := (hT.zn ht).2
  have hz5 := hT.z.2
  unfold mShut
  split
  · split
    · exact Or.inl rfl
    · split
      · exact Or.inl rfl
      · unfold shutNow
        rw [mLogs_ne (by omega), ud_ne _ _ (by omega)]
        by_cases e : z = (T (15 + t)).toNatClampNeg
        · rw [e, ud_at]; exact Or.inr rfl
        · rw [ud_ne _ _ (by omega)]; exact Or.inl rfl
  · exact Or.inl rfl
theorem mShuts_up {T N : Nat → Int32} (hT : TOk T) {z : Nat} (hz : z < 5) : ∀ j, j ≤ tt T → itR (mShut T) N j (10 + z) = N (10 + z) ∨ itR (mShut T) N j (10 + z) = 1 := by
  intro j
  induction j with
  | zero => intro _; exact Or.inl rfl
  | succ j ih =>
    intro hj
    rcases mShut_up hT (N := itR (mShut T) N j) (t := j) (by omega) hz with h | h
    · rcases ih (by omega) with g | g
      · exact Or.inl (h.trans g)
      · exact Or.inr (h.trans g)
    · exact Or.inr h
theorem mMinute_up {T N : Nat → Int32} (hT : TOk T) {z : Nat} (hz : z < 5) : mMinute T N (10 + z) = N (10 + z) ∨ mMinute T N (10 + z) = 1 := by
  have h10 := hT.t.2
  have h6 := hT.d.2
  have h5 := hT.z.2
  have e : itR (mMove T) (itR (mWant T) (itR (mTurn T) (mReads T (mHeats T N) (tz T)) (tt T)) (tt T)) (td T) (10 + z) = N (10 + z) := by
    rw [itR_ne _ (fun R j hj => mMove_ne (by omega)), itR_ne _ (fun R j hj => mWant_ne hT (by omega) (by omega)), itR_ne _ (fun R j hj => mTurn_ne (by omega) (by omega) (by omega)), mReads_ne (by omega) _ h5, mHeats_ne hT (by omega)]
  unfold mMinute
  show ud _ 142 _ (10 + z) = _ ∨ ud _ 142 _ (10 + z) = _
  rw [ud_ne _ _ (by omega)]
  have := mShuts_up hT (N := itR (mMove T) (itR (mWant T) (itR (mTurn T) (mReads T (mHeats T N) (tz T)) (tt T)) (tt T)) (td T)) hz (tt T) (Nat.le_refl _)
  rw [e] at this
  exact this
theorem mRun_up {T N : Nat → Int32} (hT : TOk T) {z : Nat} (hz : z < 5) (n : Nat) : sb N z = true → sb (mRun T N n) z = true := by
  intro h
  induction n with
  | zero => exact h
  | succ n ih =>
    rcases mMinute_up hT (N := mRun T N n) hz with g | g
    · unfold sb at *
      show decide (mMinute T (mRun T N n) (10 + z) ≠ 0) = true
      rw [g]; exact ih
    · unfold sb
      show decide (mMinute T (mRun T N n) (10 + z) ≠ 0) = true
      rw [g]; rfl
/-- the least number from 1 to 200 of which p holds (e), and where the trial stands then (n) -/
def Fst (p : Nat → Prop) (e : Int32) (n : Nat) : Prop := (e = -1 ∧ n = 200 ∧ ∀ i, 1 ≤ i → i ≤ 200 → ¬ p i) ∨ (e = Int32.ofNat n ∧ 1 ≤ n ∧ n ≤ 200 ∧ p n ∧ ∀ j, 1 ≤ j → j < n → ¬ p j)
theorem Fst.uq {p : Nat → Prop} {e e' : Int32} {n n' : Nat} (h : Fst p e n) (h' : Fst p e' n') : e = e' ∧ n = n' := by
  rcases h with ⟨a1, a2, a3⟩ | ⟨a1, a2, a3, a4, a5⟩ <;> rcases h' with ⟨b1, b2, b3⟩ | ⟨b1, b2, b3, b4, b5⟩
  · exact ⟨by rw [a1, b1], by omega⟩
  · exact absurd b4 (a3 n' b2 b3)
  · exact absurd a4 (b3 n a2 a3)
  · have : n = n' := by
      rcases Nat.lt_trichotomy n n' with q | q | q
      · exact absurd a4 (b5 n a2 q)
      · exact q
      · exact absurd b4 (a5 n' b2 q)
    exact ⟨by rw [a1, b1, this], this⟩
/-- some ZONE more is shut behind so many minutes -/
def more (T N : Nat → Int32) (n : Nat) : Prop := mkB (sb (mRun T N n)) (tz T) ≠ mkB (sb N) (tz T)
theorem more_iff {T N : Nat → Int32} (hT : TOk T) (n : Nat) : more T N n ↔ ¬ mkB (sb (mRun T N n)) (tz T) &&& (mkB (sb N) (tz T) ^^^ (-1)) = 0 := by
  have h5 := hT.z.2
  unfold more
  rw [mk_new h5, Ne, mk_eq h5]
  refine not_congr ⟨fun h z hz => by rw [h z hz]; exact id, fun h z hz => ?_⟩
  have h1 := h z hz
  have h2 := mRun_up hT (N := N) (z := z) (by omega) n
  rcases Bool.eq_false_or_eq_true (sb (mRun T N n) z) with c | c <;> rcases Bool.eq_false_or_eq_true (sb N z) with d | d <;> simp [c, d] at h1 h2 ⊢
theorem c_until {M : Gm} {P k : Nat} {N T : Nat → Int32} (w : Wd M P T) (s : Sd M 304 P N T k) (hk : k < 2147470000) : ∃ e n M', sh_X3_untilShutMore 302 M = some (e, M') ∧ Ft M M' ∧ Sd M' 304 P (mRun T N n) T (k + 4000) ∧ Fst (more T N) e n := by
  have key : ∃ r, lp (X3_untilShutMore_B10 302 (mkB (sb N) (tz T))) FU (1, M) = some r ∧ ∃ e n M', Sum.elim (fun u7 => some ((-1), u7)) (fun u8 => some (u8.1, u8.2)) r = some (e, M') ∧ Ft M M' ∧ Sd M' 304 P (mRun T N n) T (k + 4000) ∧ Fst (more T N) e n := by
    refine lp_inv (fun j q => q.1 = Int32.ofNat (j + 1) ∧ Ft M q.2 ∧ Sd q.2 304 P (mRun T N j) T (k + 20 * j) ∧ ∀ i, 1 ≤ i → i ≤ j → ¬ more T N i) _ 200 ?_ ?_ ⟨rfl, Ft.rfl' _, s, fun i h1 h2 => by omega⟩ (by omega)
    · rintro j ⟨i, M1⟩ hj ⟨h1, h2, h3, h4⟩
      replace h1 : i = Int32.ofNat (j + 1) := h1
      subst h1
      have w1 := w.ft h2
      obtain ⟨M2, b1, b2, b3⟩ := c_passT w1 h3 (by omega)
      have w2 := w1.ft b2
      have b4 : Sd M2 304 P (mRun T N (j + 1)) T (k + 20 * (j + 1)) := b3
      have e : X3_untilShutMore_B10 302 (mkB (sb N) (tz T)) (Int32.ofNat (j + 1), M1) = if mkB (sb (mRun T N (j + 1))) (tz T) = mkB (sb N) (tz T) then some (.inl (Int32.ofNat (j + 2), M2)) else some (.inr (.inr (Int32.ofNat (j + 1), M2))) := by
        unfold X3_untilShutMore_B10
        rw [show (200 : Int32) = Int32.ofNat 200 from rfl]
        simp (disch := omega) only [f_clock w1.1 w1.2.2.1, f_trial w1.1 w1.2.2.1, Option.bind_some, lt_n, b1, suc_n, f_trial w2.1 w2.2.2.1, c_shutBits w2 b4]
        rw [if_neg (by omega)]
      by_cases c : more T N (j + 1)
      · exact Or.inr ⟨_, e.trans (if_neg c), _, j + 1, M2, rfl, h2.trans b2, b4.sd (by omega), Or.inr ⟨rfl, by omega, by omega, c, fun i g1 g2 => h4 i g1 (by omega)⟩⟩
      · refine Or.inl ⟨_, e.trans (if_pos (Classical.not_not.mp c)), rfl, h2.trans b2, b4, fun i g1 g2 => ?_⟩
        by_cases ei : i = j + 1
        · rw [ei]; exact c
        · exact h4 i g1 (by omega)
    · rintro ⟨i, M1⟩ ⟨h1, h2, h3, h4⟩
      replace h1 : i = Int32.ofNat 201 := h1
      subst h1
      exact ⟨_, rfl, _, 200, M1, rfl, h2, h3.sd (by omega), Or.inl ⟨rfl, rfl, h4⟩⟩
  obtain ⟨r, k1, e, n, M', k2, k3, k4, k5⟩ := key
  refine ⟨e, n, M', ?_, k3, k4, k5⟩
  unfold sh_X3_untilShutMore X3_untilShutMore_F
  simp only [f_O w.1, f_trial w.1 w.2.2.1, Option.bind_some, c_shutBits w s, k1, k2]
theorem c_firstMinutes {M : Gm} {P P' k : Nat} {N T : Nat → Int32} (w : Wd M P T) (s : Sd M 263 P N T k) (t : StK M 304 P') (hk : k < 2147470000) : ∃ e n M', sh_X3_firstMinutes 302 263 M = some (e, M') ∧ Ft M M' ∧ Fst (more T N) e n := by
  obtain ⟨M0, a1, a2, a3⟩ := c_try w s (by decide) t
  obtain ⟨e, n, M', b1, b2, b3, b4⟩ := c_until (w.ft a2) a3 hk
  refine ⟨e, n, M', ?_, a2.trans b2, b4⟩
  unfold sh_X3_firstMinutes X3_firstMinutes_F
  simp only [f_O w.1, f_trial w.1 w.2.2.1, Option.bind_some, a1, b1]
theorem c_firstZone {M : Gm} {P P' k : Nat} {N T : Nat → Int32} (w : Wd M P T) (s : Sd M 263 P N T k) (t : StK M 304 P') (hk : k < 2147470000) : ∃ e e0 n M', sh_X3_firstZone 302 263 M = some (e, M') ∧ Ft M M' ∧ Fst (more T N) e0 n ∧ FstZ (sb (mRun T N n)) (sb N) (tz T) e := by
  obtain ⟨M0, a1, a2, a3⟩ := c_try w s (by decide) t
  obtain ⟨e0, n, M', b1, b2, b3, b4⟩ := c_until (w.ft a2) a3 hk
  have f := a2.trans b2
  have w' := w.ft f
  have s' := s.ft f (by decide)
  have hT := w.2.2.2.2.2.1
  have hz := hT.z
  have e5 : M'.1 P 5 = Int32.ofNat (tz T) := w'.2.2.2.2.2.2.1.1.trans hz.1
  have shE : ∀ (S : Nat) (R : Nat → Int32) (k : Nat), Sd M' S P R T k → ∀ j, j < tz T → sh_X7_isShut S (Int32.ofNat j) M' = some (if sb R j = true then 1 else 0) := fun S R k q j hj => by
    rw [c_isShut q.1 (by omega), (q.2.2.1.2.1 j hj).2.2.2.2.2]
    have h10 := (q.2.2.2.1.1 j hj).2.2.2.2.2
    unfold sb
    rw [h10]
    split <;> rfl
  have key : ∃ r, lp (X3_firstZone_B15 302 263 M') FU 0 = some r ∧ ∃ e, Sum.elim (fun _ => some ((-1), M')) (fun u10 => some (u10, M')) r = some (e, M') ∧ FstZ (sb (mRun T N n)) (sb N) (tz T) e := by
    refine lp_inv (fun j q => q = Int32.ofNat j ∧ ∀ y, y < j → sb (mRun T N n) y = true → sb N y = true) _ (tz T) ?_ ?_ ⟨rfl, fun y hy => by omega⟩ (by omega)
    · rintro j q hj ⟨h1, h2⟩
      subst h1
      have e : X3_firstZone_B15 302 263 M' (Int32.ofNat j) = if sb (mRun T N n) j = true then (if sb N j = true then some (.inl (Int32.ofNat (j + 1))) else some (.inr (.inr (Int32.ofNat j)))) else some (.inl (Int32.ofNat (j + 1))) := by
        unfold X3_firstZone_B15 X3_firstZone_J47
        simp (disch := omega) only [s_plan s'.1, pg_I w'.2.2.2.1, e5, Option.bind_some, le_n, f_trial w'.1 w'.2.2.1, shE _ _ _ b3 j hj, shE _ _ _ s' j hj, suc_n]
        rw [if_neg (by omega)]
        rcases Bool.eq_false_or_eq_true (sb (mRun T N n) j) with c | c <;> rcases Bool.eq_false_or_eq_true (sb N j) with d | d <;> simp [c, d]
      rcases Bool.eq_false_or_eq_true (sb (mRun T N n) j) with c | c
      · rcases Bool.eq_false_or_eq_true (sb N j) with d | d
        · refine Or.inl ⟨_, e.trans (by rw [if_pos c, if_pos d]), rfl, fun y hy => ?_⟩
          by_cases ey : y = j
          · rw [ey]; exact fun _ => d
          · exact h2 y (by omega)
        · exact Or.inr ⟨_, e.trans (by rw [if_pos c, if_neg (by rw [d]; decide)]), _, rfl, Or.inr ⟨j, hj, ⟨c, d⟩, h2, rfl⟩⟩
      · refine Or.inl ⟨_, e.trans (by rw [if_neg (by rw [c]; decide)]), rfl, fun y hy => ?_⟩
        by_cases ey : y = j
        · rw [ey, c]; exact fun q => by cases q
        · exact h2 y (by omega)
    · rintro q ⟨h1, h2⟩
      subst h1
      refine ⟨.inl (), ?_, _, rfl, Or.inl ⟨rfl, h2⟩⟩
      unfold X3_firstZone_B15
      simp (disch := omega) only [s_plan s'.1, pg_I w'.2.2.2.1, e5, Option.bind_some, le_n]
      rw [if_pos (Nat.le_refl _)]
  obtain ⟨r, k1, e, k2, k3⟩ := key
  refine ⟨e, e0, n, M', ?_, f, b4, k3⟩
  unfold sh_X3_firstZone X3_firstZone_F
  simp only [f_O w.1, f_trial w.1 w.2.2.1, Option.bind_some, a1, b1, k1, k2]
