/-! ===== PURE 17: bounds under turns, steps, shares ===== -/
theorem turn_on {T N : Nat → Int32} {t : Nat} (ht : t < 10) (h : isN (N (50 + t)) 0 1) : isN (mTurn T N t (50 + t)) 0 1 := by
  unfold mTurn
  split
  · rw [mLogs_ne (by omega), ud_ne _ _ (by omega), ud_at]
    exact ⟨1, rfl, by decide, by decide⟩
  · split
    · rw [mLogs_ne (by omega), ud_at]
      exact ⟨0, rfl, by decide, by decide⟩
    · exact h
theorem NOk.turn {N T : Nat → Int32} (hT : TOk T) (h : NOk N T) {t : Nat} (ht : t < tt T) : NOk (mTurn T N t) T := by
  have hz5 := hT.z.2
  have ht10 := hT.t.2
  have hd6 := hT.d.2
  have k : ∀ j, (j < 50 ∨ 70 ≤ j) → j < 144 → mTurn T N t j = N j := fun j h1 h2 => mTurn_ne (by omega) (by omega) h2
  refine ⟨fun z hz => ?_, fun z i hz hi => ?_, fun u hu => ?_, fun d hd => ?_, fun u d hu hd => ?_, ?_⟩
  · rw [k z (by omega) (by omega), k (5 + z) (by omega) (by omega), k (20 + z) (by omega) (by omega), k (25 + z) (by omega) (by omega), k (15 + z) (by omega) (by omega), k (10 + z) (by omega) (by omega)]; exact h.1 z hz
  · rw [k _ (by omega) (by omega)]; exact h.2.1 z i hz hi
  · by_cases e : u = t
    · subst e; exact turn_on (by omega) (h.2.2.1 u hu)
    · rw [mTurn_ne (by omega) (by omega) (by omega)]; exact h.2.2.1 u hu
  · rw [k _ (by omega) (by omega), k _ (by omega) (by omega)]; exact h.2.2.2.1 d hd
  · rw [k _ (by omega) (by omega)]; exact h.2.2.2.2.1 u d hu hd
  · rw [k _ (by omega) (by omega)]; exact h.2.2.2.2.2
theorem NOk.turns {N T : Nat → Int32} (hT : TOk T) (h : NOk N T) : ∀ j, j ≤ tt T → NOk (itR (mTurn T) N j) T := by
  intro j
  induction j with
  | zero => intro _; exact h
  | succ j ih => intro hj; exact (ih (by omega)).turn hT (by omega)
/-- the WANTED ones of one TRIP are written -/
theorem NOk.wants {N N' T : Nat → Int32} (hT : TOk T) (h : NOk N T) {t : Nat} (ht : t < tt T) (hk : ∀ k, (k < 82 + 6 * t ∨ 88 + 6 * t ≤ k) → N' k = N k)
    (h0 : ∀ d, d < 6 → wn T t d = 0 → N' (82 + 6 * t + d) = N (82 + 6 * t + d)) (h1 : ∀ d, d < 6 → wn T t d ≠ 0 → isN (N' (82 + 6 * t + d)) 0 (mn T d)) : NOk N' T := by
  have hz5 := hT.z.2
  have ht10 := hT.t.2
  have hd6 := hT.d.2
  refine ⟨fun z hz => ?_, fun z i hz hi => ?_, fun u hu => ?_, fun d hd => ?_, fun u d hu hd => ?_, ?_⟩
  · rw [hk z (by omega), hk (5 + z) (by omega), hk (20 + z) (by omega), hk (25 + z) (by omega), hk (15 + z) (by omega), hk (10 + z) (by omega)]; exact h.1 z hz
  · rw [hk _ (by omega)]; exact h.2.1 z i hz hi
  · rw [hk _ (by omega)]; exact h.2.2.1 u hu
  · rw [hk _ (by omega), hk _ (by omega)]; exact h.2.2.2.1 d hd
  · by_cases e : u = t
    · subst e
      by_cases c : wn T u d = 0
      · rw [h0 d hd c]; exact h.2.2.2.2.1 u d hu hd
      · have a := h1 d hd c
        have b := hT.mN ((hT.wN hu hd).2.2 c).2
        exact ⟨isN_w a (Nat.le_refl _) b.2.2, fun q => absurd q c, fun _ => a⟩
    · rw [hk _ (by omega)]; exact h.2.2.2.2.1 u d hu hd
  · rw [hk _ (by omega)]; exact h.2.2.2.2.2
theorem mStepTo_un {T N : Nat → Int32} {t d : Nat} (hw : T (79 + 6 * t + d) = 0) : ∀ j, mStepTo T N t j (82 + 6 * t + d) = N (82 + 6 * t + d) := by
  intro j
  induction j with
  | zero => rfl
  | succ j ih =>
    unfold mStepTo
    split
    · exact ih
    · rename_i c
      rw [ud_ne _ _ (by intro e; have : d = j := by omega
                        subst this; exact c hw)]
      exact ih
theorem NOk.step {N T : Nat → Int32} (hT : TOk T) (h : NOk N T) {t : Nat} (ht : t < tt T) : NOk (mStepTo T N t (td T)) T := by
  have ht10 := hT.t.2
  have hd6 := hT.d.2
  refine h.wants hT ht (fun k hk => mStepTo_ne _ (by omega)) (fun d hd hw => ?_) (fun d hd hw => ?_)
  · have e := (hT.wN (t := t) (d := d) (by omega) hd).1
    rw [hw] at e
    exact mStepTo_un e _
  · have a := hT.wN (t := t) (d := d) (by omega) hd
    have b := hT.mN (a.2.2 hw).2
    rw [mStepTo_at _ (a.2.2 hw).2 (by rw [a.1]; intro q; exact hw ((n_eq0 (by omega)).mp q)) (by omega), b.1]
    exact held_n (by omega)
theorem NOk.share {N T : Nat → Int32} (hT : TOk T) (h : NOk N T) {t : Nat} (ht : t < tt T) : NOk (mShare T N t) T := by
  have ht10 := hT.t.2
  have hL := dl_ok hT (t := t) (by omega)
  refine h.wants hT ht (fun k hk => mShare_ne hT (by omega) hk) (fun d hd hw => mShare_un hT (by omega) hw) (fun d hd hw => ?_)
  have a := (give_full hT (by omega) hL 9 (shTo T N t (an T N t) (td T)).1 _ (share_ok (N := N) (a := an T N t) hT (by omega) hL).1).1 d ((hL.2 d).mpr ⟨hd, hw⟩)
  exact ⟨_, a.1, Nat.zero_le _, a.2⟩
theorem NOk.wantsAll {N T : Nat → Int32} (hT : TOk T) (h : NOk N T) : ∀ j, j ≤ tt T → NOk (itR (mWant T) N j) T := by
  intro j
  induction j with
  | zero => intro _; exact h
  | succ j ih =>
    intro hj
    have a := ih (by omega)
    show NOk (mWant T (itR (mWant T) N j) j) T
    unfold mWant
    split
    · exact a.step hT (by omega)
    · split
      · exact a.share hT (by omega)
      · exact a

