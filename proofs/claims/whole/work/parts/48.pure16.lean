/-! ===== PURE 16: the class's wantStep ===== -/
section Wst
variable {M : Gm} {S P : Nat} {N T : Nat → Int32}
/-- the WANTED ones of one TRIP are written -/
theorem StV.wants (sv : StV M S N T) (hT : TOk T) {M' : Gm} {N' : Nat → Int32} {t : Nat} (ht : t < tt T) (e : Fm [S + 13] M M') (hk : ∀ k, (k < 82 + 6 * t ∨ 88 + 6 * t ≤ k) → N' k = N k)
    (ho : ∀ i, i < (dl T t).length → M'.1 (S + 13) (fb T t + i) = N' (82 + 6 * t + di T t i)) (hb : ∀ b, (b < fb T t ∨ fb T (t + 1) ≤ b) → M'.1 (S + 13) b = M.1 (S + 13) b) : StV M' S N' T := by
  have hz5 := hT.z.2
  have ht10 := hT.t.2
  have hd6 := hT.d.2
  have ne : ∀ a, a ≠ S + 13 → M'.1 a = M.1 a := fun a h => e.2 a (by simp [h])
  have eg : lg N' = lg N := by unfold lg; rw [hk 144 (by omega)]
  unfold StV
  rw [ne S (by omega), ne (S + 1) (by omega), ne (S + 2) (by omega), ne (S + 3) (by omega), ne (S + 4) (by omega), ne (S + 5) (by omega), ne (S + 6) (by omega), ne (S + 7) (by omega), ne (S + 8) (by omega), ne (S + 9) (by omega), ne (S + 10) (by omega), ne (S + 11) (by omega), ne (S + 12) (by omega), ne (S + 14) (by omega), eg, hk 142 (by omega), hk 143 (by omega), hk 144 (by omega)]
  refine ⟨sv.1, fun z hz => ?_, fun z j hz hj => ?_, fun u hu => ?_, fun d hd => ?_, fun u j hu hj => ?_, fun j hj => ?_⟩
  · rw [hk z (by omega), hk (5 + z) (by omega), hk (20 + z) (by omega), hk (25 + z) (by omega), hk (15 + z) (by omega)]; exact sv.2.1 z hz
  · rw [hk _ (by omega)]; exact sv.2.2.1 z j hz hj
  · rw [hk _ (by omega), hk _ (by omega)]; exact sv.2.2.2.1 u hu
  · rw [hk _ (by omega), hk _ (by omega)]; exact sv.2.2.2.2.1 d hd
  · have hdi := (di_ok hT (t := u) (i := j) (by omega) hj).2.2
    by_cases q : u = t
    · subst q; exact ho j hj
    · have e1 : fb T (u + 1) = fb T u + (dl T u).length := rfl
      have hout : fb T u + j < fb T t ∨ fb T (t + 1) ≤ fb T u + j := by
        rcases Nat.lt_or_gt_of_ne q with g | g
        · left
          have := fb_mono T (show u + 1 ≤ t by omega)
          omega
        · right
          have := fb_mono T (show t + 1 ≤ u by omega)
          omega
      rw [hb _ hout, hk _ (by omega)]; exact sv.2.2.2.2.2.1 u j hu hj
  · rw [hk _ (by omega)]; exact sv.2.2.2.2.2.2 j hj
theorem mStepTo_at {t d : Nat} : ∀ j, d < j → T (79 + 6 * t + d) ≠ 0 → t < 10 → mStepTo T N t j (82 + 6 * t + d) = heldI (stepV (N (50 + t)) (N (25 + (T (15 + t)).toNatClampNeg)) (N (82 + 6 * t + d))) 0 (T (67 + d)) := by
  intro j
  induction j with
  | zero => intro h; omega
  | succ j ih =>
    intro hd hw ht
    have hs : mStepTo T N t (j + 1) = if T (79 + 6 * t + j) = 0 then mStepTo T N t j else ud (mStepTo T N t j) (82 + 6 * t + j) (heldI (stepV (mStepTo T N t j (50 + t)) (N (25 + (T (15 + t)).toNatClampNeg)) (mStepTo T N t j (82 + 6 * t + j))) 0 (T (67 + j))) := rfl
    rw [hs]
    by_cases e : d = j
    · subst e
      rw [if_neg hw, ud_at, mStepTo_ne _ (by omega), mStepTo_ne _ (by omega)]
    · split
      · exact ih (by omega) hw ht
      · rw [ud_ne _ _ (by omega)]
        exact ih (by omega) hw ht
def cmpI (x y : Int32) : Int32 := if y ≤ x then (if x = y then 0 else 1) else -1
theorem m_cmp {x y : Int32} {M : Gm} : sh_J6_compare_7cf53 x y M = some (cmpI x y) := by
  unfold sh_J6_compare_7cf53 J6_compare_7cf53_F J6_compare_7cf53_J19 cmpI
  split
  · split <;> rfl
  · rfl
theorem step_eq {on slope v : Int32} (h : isN on 0 1) : v + (if on = 0 then -1 else cmpI slope 0) = stepV on slope v := by
  obtain ⟨n, e, -, h1⟩ := h
  have h0 : (0 : Int32).toInt = 0 := rfl
  have hn : n = 0 ∨ n = 1 := by omega
  unfold stepV cmpI
  rcases hn with q | q
  · subst q
    rw [e, if_pos (show Int32.ofNat 0 = 0 from rfl), if_neg (fun g => absurd g.1 (by decide)), if_pos (Or.inl (show Int32.ofNat 0 = 0 from rfl))]
  · subst q
    rw [e, if_neg (show ¬ Int32.ofNat 1 = 0 by decide)]
    by_cases c1 : slope ≤ 0
    · rw [if_neg (c := _ ∧ ¬ slope ≤ 0) (fun g => g.2 c1)]
      by_cases c2 : 0 ≤ slope
      · have e0 : slope = 0 := tI_eq (by rw [tI_le] at c1 c2; omega)
        rw [if_pos c2, if_pos e0, if_neg (by rintro (g | g); exact absurd g (by decide); exact g c2), Int32.add_zero]
      · rw [if_neg c2, if_pos (c := _ ∨ ¬ 0 ≤ slope) (Or.inr c2)]
    · have c2 : 0 ≤ slope := by rw [tI_le] at c1 ⊢; omega
      have e0 : ¬ slope = 0 := fun g => c1 (by rw [g]; decide)
      rw [if_pos c2, if_neg e0, if_pos ⟨rfl, c1⟩]
theorem c_wantStep (hM : Ky M) (hS : StK M S P) (hP : PlK M P) (hT : TOk T) (pv : PlV M P T) (sv : StV M S N T) (hN : NOk N T) (so : SOk S) (po : POk P) {t : Nat} (ht : t < tt T) : ∃ M', sh_X1_wantStep 299 S (Int32.ofNat t) M = some M' ∧ Fm [S + 13] M M' ∧ StV M' S (mStepTo T N t (td T)) T := by
  have ht10 : t < 10 := by have := hT.t.2; omega
  have hz5 := hT.z.2
  have hd6 := hT.d.2
  have so' := so
  unfold SOk at so'
  obtain ⟨⟨z, hz, ez⟩, -⟩ := hT.2.2.1 t ht
  have nz : (T (15 + t)).toNatClampNeg = z := by rw [ez]; exact nn z (by omega)
  obtain ⟨p0, p1, p2, -, p4, p5⟩ := pv.2.2.1 t ht
  rw [ez] at p0
  have von := (sv.2.2.2.1 t ht).1
  have vslope := (sv.2.1 z hz).2.2.2.2.1
  have f0 : fb T (t + 1) = fb T t + (dl T t).length := rfl
  have f1 := fb_mono T (show t + 1 ≤ tt T by omega)
  have f2 := fb_60 hT
  have bon := hN.2.2.1 t ht
  have key : ∃ M', lp (X1_wantStep_B53 S P (P + 11 + t) (if N (50 + t) = 0 then -1 else cmpI (N (25 + z)) 0)) FU (Int32.ofNat (fb T t), M) = some M' ∧ (Fm [S + 13] M M' ∧ (∀ i, i < (dl T t).length → M'.1 (S + 13) (fb T t + i) = mStepTo T N t (td T) (82 + 6 * t + di T t i)) ∧ ∀ b, (b < fb T t ∨ fb T (t + 1) ≤ b) → M'.1 (S + 13) b = M.1 (S + 13) b) := by
    refine lp_inv (fun j q => q.1 = Int32.ofNat (fb T t + j) ∧ Fm [S + 13] M q.2 ∧ (∀ i, i < j → q.2.1 (S + 13) (fb T t + i) = mStepTo T N t (td T) (82 + 6 * t + di T t i)) ∧ ∀ b, (b < fb T t ∨ fb T t + j ≤ b) → q.2.1 (S + 13) b = M.1 (S + 13) b) _ (dl T t).length ?_ ?_ ⟨rfl, Fm.rfl' _ _, fun i hi => absurd hi (Nat.not_lt_zero i), fun _ _ => rfl⟩ (by omega)
    · rintro j ⟨i, M1⟩ hj ⟨h1, h2, h3, h4⟩
      replace h1 : i = Int32.ofNat (fb T t + j) := h1
      replace h2 : Fm [S + 13] M M1 := h2
      replace h3 : ∀ i, i < j → M1.1 (S + 13) (fb T t + i) = mStepTo T N t (td T) (82 + 6 * t + di T t i) := h3
      replace h4 : ∀ b, (b < fb T t ∨ fb T t + j ≤ b) → M1.1 (S + 13) b = M.1 (S + 13) b := h4
      subst h1
      have hS1 := hS.fm h2
      have hP1 := hP.fm h2
      have pv1 := pv.fm' hP hT po h2 (by simp <;> omega)
      have q5 := (pv1.2.2.1 t ht).2.2.2.2.2
      obtain ⟨h60, g1, -, -, g2⟩ := bind_at hP1 hT pv1 ht hj
      have d := di_ok hT ht10 hj
      have hmN := hT.mN d.1
      have hv : M1.1 (S + 13) (fb T t + j) = N (82 + 6 * t + di T t j) := by rw [h4 _ (by omega)]; exact sv.2.2.2.2.2.1 t j ht hj
      have hw : T (79 + 6 * t + di T t j) ≠ 0 := fun e => d.2.1 (by unfold wn; rw [e]; rfl)
      have hat := mStepTo_at (N := N) (T := T) (t := t) (td T) d.1 hw ht10
      rw [nz] at hat
      refine Or.inl ⟨(Int32.ofNat (fb T t + (j + 1)), sI M1 (S + 13) (fb T t + j) (mStepTo T N t (td T) (82 + 6 * t + di T t j))), ?_, rfl, h2.set (by simp) _ _, fun i hi => ?_, fun b hb => ?_⟩
      · rw [hat]
        unfold X1_wantStep_B53
        simp (disch := omega) only [pt_I hP1, q5, Option.bind_some, le_n, p_devices hP1, p_binds hP1, p_bind hP1, g1, p_device hP1, g2, s_wanted hS1, sl13 hS1, hv, step_eq bon, c_within (show (0 : Int32) ≤ T (67 + di T t j) by rw [hmN.1, tI_le, tn _ (by omega)]; exact Int.natCast_nonneg _), ss13 hS1, suc_n]
        rw [if_neg (by omega)]
        rfl
      · show (sI M1 (S + 13) (fb T t + j) _).1 (S + 13) (fb T t + i) = _
        rw [sI_own]
        by_cases e : i = j
        · subst e; rw [ud_at]
        · rw [ud_ne _ _ (by omega)]; exact h3 i (by omega)
      · show (sI M1 (S + 13) (fb T t + j) _).1 (S + 13) b = _
        rw [sI_own, ud_ne _ _ (by omega)]; exact h4 b (by omega)
    · rintro ⟨i, M1⟩ ⟨h1, h2, h3, h4⟩
      replace h1 : i = Int32.ofNat (fb T t + (dl T t).length) := h1
      replace h2 : Fm [S + 13] M M1 := h2
      subst h1
      have hP1 := hP.fm h2
      have pv1 := pv.fm' hP hT po h2 (by simp <;> omega)
      have q5 := (pv1.2.2.1 t ht).2.2.2.2.2
      refine ⟨M1, ?_, h2, h3, fun b hb => h4 b (by omega)⟩
      unfold X1_wantStep_B53
      simp (disch := omega) only [pt_I hP1, q5, Option.bind_some, le_n]
      rw [if_pos (by omega)]
  obtain ⟨M', k1, k2, k3, k4⟩ := key
  refine ⟨M', ?_, k2, sv.wants hT ht k2 (fun k hk => mStepTo_ne _ (by omega)) k3 k4⟩
  unfold sh_X1_wantStep X1_wantStep_F X1_wantStep_J44
  simp (disch := omega) only [k_O hM, s_plan hS, p_trips hP, p_trip hP, s_slope hS, pt_I hP, p0, sl5 hS, vslope, s_on hS, sl8 hS, von, p4, m_cmp, Option.bind_some]
  by_cases c : N (50 + t) = 0
  · rw [if_pos c] at k1 ⊢
    rw [k1]; rfl
  · rw [if_neg c] at k1 ⊢
    rw [k1]; rfl
end Wst

