/-! ===== PURE 25: the class's wantShares ===== -/
theorem di_get {T : Nat → Int32} {t i : Nat} (hi : i < (dl T t).length) : di T t i = (dl T t)[i] := by
  unfold di
  rw [List.getD_eq_getElem?_getD, List.getElem?_eq_getElem hi]
  rfl
theorem di_inj {T : Nat → Int32} (hT : TOk T) {t i j : Nat} (ht : t < 10) (hi : i < (dl T t).length) (hj : j < (dl T t).length) (hne : i ≠ j) : di T t i ≠ di T t j := by
  have h := List.pairwise_iff_getElem.mp (dl_ok hT ht).nodup
  rw [di_get hi, di_get hj]
  rcases Nat.lt_or_gt_of_ne hne with g | g
  · exact h i j hi hj g
  · exact fun e => h j i hj hi g e.symm
theorem fS_wn (T : Nat → Int32) (t : Nat) : ∀ j, fS T t (wn T t) j = wS T t j := by
  intro j
  induction j with
  | zero => rfl
  | succ j ih =>
    show fS T t (wn T t) j + (if wn T t j = 0 then 0 else wn T t j) = wS T t j + wn T t j
    rw [ih]
    split <;> omega
theorem dS_mono (T : Nat → Int32) (t : Nat) (f : Nat → Nat) {i j : Nat} (h : i ≤ j) : dS T t f i ≤ dS T t f j := by
  induction j with
  | zero => have : i = 0 := by omega
            subst this; exact Nat.le_refl _
  | succ j ih =>
    by_cases e : i = j + 1
    · subst e; exact Nat.le_refl _
    · have a := ih (by omega)
      have b : dS T t f (j + 1) = dS T t f j + f (di T t j) := rfl
      omega
theorem byI_n {x y : Nat} (hx : x < 2147483648) (hy : y < 2147483648) : byI (Int32.ofNat x) (Int32.ofNat y) = Int32.ofNat (x / y) := by
  unfold byI
  rw [if_neg (nneg hx), Int32.ofNat_div hx hy]
section Shr
variable {M : Gm} {S P : Nat} {N T : Nat → Int32}
theorem StV.want1 (sv : StV M S N T) (hT : TOk T) {t i : Nat} (ht : t < tt T) (hi : i < (dl T t).length) (x : Int32) : StV (sI M (S + 13) (fb T t + i) x) S (ud N (82 + 6 * t + di T t i) x) T := by
  have ht10 := hT.t.2
  have f0 : fb T (t + 1) = fb T t + (dl T t).length := rfl
  have d6 := (di_ok hT (t := t) (i := i) (by omega) hi).2.2
  refine sv.wants hT ht ((Fm.rfl' [S + 13] M).set (by simp) _ _) (fun k hk => ud_ne _ _ (by omega)) (fun j hj => ?_) (fun b hb => by rw [sI_own, ud_ne _ _ (by omega)])
  rw [sI_own]
  by_cases e : j = i
  · subst e; rw [ud_at, ud_at]
  · have := di_inj hT (by omega) hj hi e
    rw [ud_ne _ _ (by omega), ud_ne _ _ (by omega)]
    exact sv.2.2.2.2.2.1 t j ht hj
theorem c_wsum (hP : PlK M P) (hT : TOk T) (pv : PlV M P T) {t : Nat} (ht : t < tt T) (x : Int32) : lp (X1_wantShares_B15 S (P + 11 + t) x P M) FU (0, Int32.ofNat (fb T t)) = some (Int32.ofNat (wS T t (td T))) := by
  have ht10 : t < 10 := by have := hT.t.2; omega
  have f0 : fb T (t + 1) = fb T t + (dl T t).length := rfl
  have f1 := fb_mono T (show t + 1 ≤ tt T by omega)
  have f2 := fb_60 hT
  have p5 := (pv.2.2.1 t ht).2.2.2.2.2
  rw [← fS_wn, ← dS_all hT ht10]
  refine lp_for (s := fun j => (Int32.ofNat (dS T t (wn T t) j), Int32.ofNat (fb T t + j))) _ (dl T t).length (fun j hj => ?_) ?_ (by omega)
  · obtain ⟨h60, -, g2, -, -⟩ := bind_at hP hT pv ht hj
    have d := di_ok hT ht10 hj
    have hw := (hT.wN ht10 d.2.2).1
    unfold X1_wantShares_B15
    simp (disch := omega) only [pt_I hP, p5, Option.bind_some, le_n, p_binds hP, p_bind hP, g2, hw, ad_n, suc_n]
    rw [if_neg (by omega)]
    rfl
  · unfold X1_wantShares_B15
    simp (disch := omega) only [pt_I hP, p5, Option.bind_some, le_n]
    rw [if_pos (by omega)]
theorem c_share0 (hS : StK M S P) (hP : PlK M P) (hT : TOk T) (pv : PlV M P T) (sv : StV M S N T) (so : SOk S) (po : POk P) {t a : Nat} (ht : t < tt T) (ha : a ≤ 54) : ∃ e, lp (X1_wantShares_B55 S (P + 11 + t) (Int32.ofNat a) P (Int32.ofNat (wS T t (td T)))) FU (Int32.ofNat a, Int32.ofNat (fb T t), M) = some e ∧ e.1 = Int32.ofNat (shTo T N t a (td T)).1 ∧ Fm [S + 13] M e.2 ∧ StV e.2 S (shTo T N t a (td T)).2 T := by
  have ht10 : t < 10 := by have := hT.t.2; omega
  have hd6 := hT.d.2
  have so' := so
  unfold SOk at so'
  have f0 : fb T (t + 1) = fb T t + (dl T t).length := rfl
  have f1 := fb_mono T (show t + 1 ≤ tt T by omega)
  have f2 := fb_60 hT
  have hlen := (dl_ok hT ht10).len hT ht10
  have htot : dS T t (shV T t a) (dl T t).length ≤ a := by
    rw [dS_all hT ht10, ← vS_fS]; exact vS_a T t a (Nat.le_refl _)
  have hW := wS_le hT ht10 (td T) hd6
  have key : ∃ e, lp (X1_wantShares_B55 S (P + 11 + t) (Int32.ofNat a) P (Int32.ofNat (wS T t (td T)))) FU (Int32.ofNat a, Int32.ofNat (fb T t), M) = some e ∧ (e.1 = Int32.ofNat (a - dS T t (shV T t a) (dl T t).length) ∧ Fm [S + 13] M e.2 ∧ (∀ i, i < (dl T t).length → e.2.1 (S + 13) (fb T t + i) = Int32.ofNat (shV T t a (di T t i))) ∧ ∀ b, (b < fb T t ∨ fb T (t + 1) ≤ b) → e.2.1 (S + 13) b = M.1 (S + 13) b) := by
    refine lp_inv (fun j q => q.1 = Int32.ofNat (a - dS T t (shV T t a) j) ∧ q.2.1 = Int32.ofNat (fb T t + j) ∧ Fm [S + 13] M q.2.2 ∧ (∀ i, i < j → q.2.2.1 (S + 13) (fb T t + i) = Int32.ofNat (shV T t a (di T t i))) ∧ ∀ b, (b < fb T t ∨ fb T t + j ≤ b) → q.2.2.1 (S + 13) b = M.1 (S + 13) b) _ (dl T t).length ?_ ?_ ⟨rfl, rfl, Fm.rfl' _ _, fun i hi => absurd hi (Nat.not_lt_zero i), fun _ _ => rfl⟩ (by omega)
    · rintro j ⟨l, i, M1⟩ hj ⟨h0, h1, h2, h3, h4⟩
      replace h0 : l = Int32.ofNat (a - dS T t (shV T t a) j) := h0
      replace h1 : i = Int32.ofNat (fb T t + j) := h1
      replace h2 : Fm [S + 13] M M1 := h2
      replace h3 : ∀ i, i < j → M1.1 (S + 13) (fb T t + i) = Int32.ofNat (shV T t a (di T t i)) := h3
      replace h4 : ∀ b, (b < fb T t ∨ fb T t + j ≤ b) → M1.1 (S + 13) b = M.1 (S + 13) b := h4
      subst h0 h1
      have hS1 := hS.fm h2
      have hP1 := hP.fm h2
      have pv1 := pv.fm' hP hT po h2 (by simp <;> omega)
      have q5 := (pv1.2.2.1 t ht).2.2.2.2.2
      obtain ⟨h60, g1, g2, -, g3⟩ := bind_at hP1 hT pv1 ht hj
      have d := di_ok hT ht10 hj
      have hw := hT.wN ht10 d.2.2
      have hm := hT.mN d.1
      have hge := wS_ge (T := T) t (d := di T t j) (td T) d.1
      have hp : a * wn T t (di T t j) ≤ 54 * 9 := Nat.mul_le_mul ha hw.2.1
      have hq : a * wn T t (di T t j) / wS T t (td T) ≤ 486 := Nat.le_trans (Nat.div_le_self _ _) hp
      have hquo : sh_X11_quotient (Int32.ofNat a * Int32.ofNat (wn T t (di T t j))) (Int32.ofNat (wS T t (td T))) M1 = some (Int32.ofNat (a * wn T t (di T t j) / wS T t (td T))) := by
        rw [← Int32.ofNat_mul, c_quot ⟨_, rfl, by omega, by omega⟩ (by rw [tn _ (by omega)]; omega) (by rw [tn _ (by omega)]; omega), byI_n (by omega) (by omega)]
      have hmin : minI (Int32.ofNat (a * wn T t (di T t j) / wS T t (td T))) (Int32.ofNat (mn T (di T t j))) = Int32.ofNat (shV T t a (di T t j)) := by
        unfold minI shV
        have h4 := lt_n (a := mn T (di T t j)) (b := a * wn T t (di T t j) / wS T t (td T)) (by omega) (by omega)
        by_cases c : mn T (di T t j) < a * wn T t (di T t j) / wS T t (td T)
        · rw [if_pos (h4.mpr c), Nat.min_eq_left (by omega)]
        · rw [if_neg (fun q => c (h4.mp q)), Nat.min_eq_right (by omega)]
      have hS2 := hS1.sI (S + 13) (fb T t + j) (Int32.ofNat (shV T t a (di T t j)))
      have hle : dS T t (shV T t a) (j + 1) ≤ a := Nat.le_trans (dS_mono T t _ (show j + 1 ≤ (dl T t).length by omega)) htot
      have hds : dS T t (shV T t a) (j + 1) = dS T t (shV T t a) j + shV T t a (di T t j) := rfl
      refine Or.inl ⟨(Int32.ofNat (a - dS T t (shV T t a) (j + 1)), Int32.ofNat (fb T t + (j + 1)), sI M1 (S + 13) (fb T t + j) (Int32.ofNat (shV T t a (di T t j)))), ?_, rfl, rfl, h2.set (by simp) _ _, fun i hi => ?_, fun b hb => ?_⟩
      · unfold X1_wantShares_B55
        simp (disch := omega) only [pt_I hP1, q5, bs, le_n, p_devices hP1, p_binds hP1, p_bind hP1, g1, g2, hw.1, hquo, p_device hP1, g3, hm.1, m_min, hmin, s_wanted hS1, ss13 hS1, s_wanted hS2, sl13 hS2, sI_own, ud_at, suc_n]
        rw [if_neg (by omega), hds, ← Nat.sub_sub, Int32.ofNat_sub (a - dS T t (shV T t a) j) (shV T t a (di T t j)) (by omega)]
        rfl
      · show (sI M1 (S + 13) (fb T t + j) _).1 (S + 13) (fb T t + i) = _
        rw [sI_own]
        by_cases e : i = j
        · subst e; rw [ud_at]
        · rw [ud_ne _ _ (by omega)]; exact h3 i (by omega)
      · show (sI M1 (S + 13) (fb T t + j) _).1 (S + 13) b = _
        rw [sI_own, ud_ne _ _ (by omega)]; exact h4 b (by omega)
    · rintro ⟨l, i, M1⟩ ⟨h0, h1, h2, h3, h4⟩
      replace h1 : i = Int32.ofNat (fb T t + (dl T t).length) := h1
      replace h2 : Fm [S + 13] M M1 := h2
      subst h1
      have hP1 := hP.fm h2
      have q5 := ((pv.fm' hP hT po h2 (by simp <;> omega)).2.2.1 t ht).2.2.2.2.2
      refine ⟨(l, M1), ?_, h0, h2, h3, fun b hb => h4 b (by omega)⟩
      unfold X1_wantShares_B55
      simp (disch := omega) only [pt_I hP1, q5, Option.bind_some, le_n]
      rw [if_pos (by omega)]
  obtain ⟨e, k1, k2, k3, k4, k5⟩ := key
  refine ⟨e, k1, ?_, k3, sv.wants hT ht k3 (fun k hk => shTo_ne _ (by omega)) (fun i hi => ?_) k5⟩
  · rw [k2, shTo_1 T N t a (td T) (Nat.le_refl _), dS_all hT ht10, vS_fS]
  · have d := di_ok hT ht10 hi
    rw [k4 i hi, shTo_at _ _ d.1 d.2.1]
end Shr
