/-! ===== PURE 41: what a State tells by itself ===== -/
def mgR (T N : Nat → Int32) (z : Nat) : Nat → Int32
  | 0 => -1
  | t + 1 => if T (15 + t) = Int32.ofNat z ∧ N (50 + t) = 0 then (if mgR T N z t = -1 then T (35 + t) - N (20 + z) else minI (mgR T N z t) (T (35 + t) - N (20 + z))) else mgR T N z t
def onR (N : Nat → Int32) : Nat → Int32
  | 0 => 0
  | t + 1 => onR N t ||| (N (50 + t) <<< (Int32.ofNat t &&& 31))
/-- the critical TRIP of a ZONE is ON -/
def crO (T N : Nat → Int32) (z : Int32) : Prop := ∃ t, t < tt T ∧ T (25 + t) = 3 ∧ T (15 + t) = z ∧ N (50 + t) = 1
section
variable {M : Gm} {S P k : Nat} {N T : Nat → Int32}
theorem c_cooling (w : Wd M P T) (s : Sd M S P N T k) (z : Int32) : sh_X7_cooling S z M = some (coolTo T N z (td T)) := by
  obtain ⟨hM, hC, hF, hP, po, hT, pv⟩ := w
  obtain ⟨hS, so, sv, hN, hL⟩ := s
  have hd := hT.d
  have e7 : M.1 P 7 = Int32.ofNat (td T) := pv.1.2.2.1.trans hd.1
  have key : lp (X7_cooling_B4 S z M) FU (0, 0) = some (coolTo T N z (td T)) := by
    refine lp_for (fun j => (coolTo T N z j, Int32.ofNat j)) _ (td T) (fun j hj => ?_) ?_ (by omega)
    · unfold X7_cooling_B4 X7_cooling_J49
      simp (disch := omega) only [s_plan hS, pg_I hP, e7, Option.bind_some, le_n, suc_n, p_devices hP, p_device hP, pd_I hP, (pv.2.2.2.1 j hj).2.1, s_position hS, sl10 hS, s_cool hS, sl12 hS, (sv.2.2.2.2.1 j hj).1, (sv.2.2.2.2.1 j hj).2.2]
      rw [if_neg (by omega), coolTo]
      split <;> rfl
    · unfold X7_cooling_B4
      simp (disch := omega) only [s_plan hS, pg_I hP, e7, Option.bind_some, le_n]
      rw [if_pos (Nat.le_refl _)]
  unfold sh_X7_cooling X7_cooling_F
  simp only [s_O hS, Option.bind_some, key]
theorem c_margin (w : Wd M P T) (s : Sd M S P N T k) {z : Nat} (hz : z < tz T) : sh_X7_margin S (Int32.ofNat z) M = some (mgR T N z (tt T)) := by
  obtain ⟨hM, hC, hF, hP, po, hT, pv⟩ := w
  obtain ⟨hS, so, sv, hN, hL⟩ := s
  have hd := hT.t
  have h5 := hT.z.2
  have e7 : M.1 P 6 = Int32.ofNat (tt T) := pv.1.2.1.trans hd.1
  have key : lp (X7_margin_B4 S (Int32.ofNat z) M) FU (-1, 0) = some (mgR T N z (tt T)) := by
    refine lp_for (fun j => (mgR T N z j, Int32.ofNat j)) _ (tt T) (fun j hj => ?_) ?_ (by omega)
    · unfold X7_margin_B4 X7_margin_J74 X7_margin_J75
      simp (disch := omega) only [s_plan hS, pg_I hP, e7, Option.bind_some, le_n, suc_n, p_trips hP, p_trip hP, pt_I hP, (pv.2.2.1 j hj).1, (pv.2.2.1 j hj).2.2.1, s_on hS, sl8 hS, s_temp hS, sl4 hS, (sv.2.2.2.1 j hj).1, (sv.2.1 z hz).2.2.2.1, m_min]
      rw [if_neg (by omega), mgR]
      by_cases c1 : T (15 + j) = Int32.ofNat z
      · rw [if_pos c1]
        by_cases c2 : N (50 + j) = 0
        · rw [if_pos c2, if_pos (show T (15 + j) = Int32.ofNat z ∧ N (50 + j) = 0 from ⟨c1, c2⟩)]
          split <;> rfl
        · rw [if_neg c2, if_neg (fun q => c2 q.2)]
      · rw [if_neg c1, if_neg (fun q => c1 q.1)]
    · unfold X7_margin_B4
      simp (disch := omega) only [s_plan hS, pg_I hP, e7, Option.bind_some, le_n]
      rw [if_pos (Nat.le_refl _)]
  unfold sh_X7_margin X7_margin_F
  simp only [s_O hS, Option.bind_some, key]
theorem c_onBits (w : Wd M P T) (s : Sd M S P N T k) : sh_X7_onBits S M = some (onR N (tt T)) := by
  obtain ⟨hM, hC, hF, hP, po, hT, pv⟩ := w
  obtain ⟨hS, so, sv, hN, hL⟩ := s
  have hd := hT.t
  have e7 : M.1 P 6 = Int32.ofNat (tt T) := pv.1.2.1.trans hd.1
  have key : lp (X7_onBits_B4 S M) FU (0, 0) = some (onR N (tt T)) := by
    refine lp_for (fun j => (onR N j, Int32.ofNat j)) _ (tt T) (fun j hj => ?_) ?_ (by omega)
    · unfold X7_onBits_B4
      simp (disch := omega) only [s_plan hS, pg_I hP, e7, Option.bind_some, le_n, suc_n, s_on hS, sl8 hS, (sv.2.2.2.1 j hj).1]
      rw [if_neg (by omega)]
      rfl
    · unfold X7_onBits_B4
      simp (disch := omega) only [s_plan hS, pg_I hP, e7, Option.bind_some, le_n]
      rw [if_pos (Nat.le_refl _)]
  unfold sh_X7_onBits X7_onBits_F
  simp only [s_O hS, Option.bind_some, key]
theorem c_critOf (hP : PlK M P) (ht : tt T ≤ 10) (e6 : M.1 P 6 = Int32.ofNat (tt T)) (pt : ∀ t, t < tt T → M.1 (P + 11 + t) 0 = T (15 + t) ∧ M.1 (P + 11 + t) 1 = T (25 + t)) (z : Int32) : ∃ e, sh_X5_criticalOf P z M = some e ∧ ((e = -1 ∧ ∀ t, t < tt T → ¬ (T (15 + t) = z ∧ T (25 + t) = 3)) ∨ ∃ t, t < tt T ∧ e = Int32.ofNat t ∧ T (15 + t) = z ∧ T (25 + t) = 3 ∧ ∀ u, u < t → ¬ (T (15 + u) = z ∧ T (25 + u) = 3)) := by
  have key : ∃ r, lp (X5_criticalOf_B2 P z M) FU 0 = some r ∧ ∃ e, Sum.elim (fun _ => some (-1)) (fun u4 => some u4) r = some e ∧ ((e = -1 ∧ ∀ t, t < tt T → ¬ (T (15 + t) = z ∧ T (25 + t) = 3)) ∨ ∃ t, t < tt T ∧ e = Int32.ofNat t ∧ T (15 + t) = z ∧ T (25 + t) = 3 ∧ ∀ u, u < t → ¬ (T (15 + u) = z ∧ T (25 + u) = 3)) := by
    refine lp_inv (fun j q => q = Int32.ofNat j ∧ ∀ t, t < j → ¬ (T (15 + t) = z ∧ T (25 + t) = 3)) _ (tt T) ?_ ?_ ⟨rfl, fun t h => absurd h (Nat.not_lt_zero _)⟩ (by omega)
    · rintro j q hj ⟨h1, h2⟩
      subst h1
      have e : X5_criticalOf_B2 P z M (Int32.ofNat j) = if T (15 + j) = z then (if T (25 + j) = 3 then some (.inr (.inr (Int32.ofNat j))) else some (.inl (Int32.ofNat (j + 1)))) else some (.inl (Int32.ofNat (j + 1))) := by
        unfold X5_criticalOf_B2 X5_criticalOf_J38
        simp (disch := omega) only [pg_I hP, e6, Option.bind_some, le_n, p_trips hP, p_trip hP, pt_I hP, (pt j hj).1, (pt j hj).2, suc_n]
        rw [if_neg (by omega)]
      have up : ¬ (T (15 + j) = z ∧ T (25 + j) = 3) → ∀ t, t < j + 1 → ¬ (T (15 + t) = z ∧ T (25 + t) = 3) := fun q t ht => by
        by_cases et : t = j
        · rw [et]; exact q
        · exact h2 t (by omega)
      by_cases c1 : T (15 + j) = z
      · rw [if_pos c1] at e
        by_cases c2 : T (25 + j) = 3
        · rw [if_pos c2] at e
          exact Or.inr ⟨_, e, _, rfl, Or.inr ⟨j, hj, rfl, c1, c2, h2⟩⟩
        · rw [if_neg c2] at e
          exact Or.inl ⟨_, e, rfl, up (fun q => c2 q.2)⟩
      · rw [if_neg c1] at e
        exact Or.inl ⟨_, e, rfl, up (fun q => c1 q.1)⟩
    · rintro q ⟨h1, h2⟩
      subst h1
      refine ⟨.inl (), ?_, _, rfl, Or.inl ⟨rfl, h2⟩⟩
      unfold X5_criticalOf_B2
      simp (disch := omega) only [pg_I hP, e6, Option.bind_some, le_n]
      rw [if_pos (Nat.le_refl _)]
  obtain ⟨r, k1, e, k2, k3⟩ := key
  refine ⟨e, ?_, k3⟩
  unfold sh_X5_criticalOf X5_criticalOf_F
  simp only [p_O hP, Option.bind_some, k1]
  exact k2
theorem c_critOn (w : Wd M P T) (s : Sd M S P N T k) (z : Int32) : sh_X7_isCriticalOn S z M = some (bI (crO T N z)) := by
  obtain ⟨hM, hC, hF, hP, po, hT, pv⟩ := w
  obtain ⟨hS, so, sv, hN, hL⟩ := s
  have ht := hT.t
  obtain ⟨e, a1, a2⟩ := c_critOf (T := T) hP ht.2 (pv.1.2.1.trans ht.1) (fun t h => ⟨(pv.2.2.1 t h).1, (pv.2.2.1 t h).2.1⟩) z
  unfold sh_X7_isCriticalOn X7_isCriticalOn_F X7_isCriticalOn_J28 X7_isCriticalOn_J29
  simp only [s_O hS, s_plan hS, a1, Option.bind_some, s_on hS]
  rcases a2 with ⟨b1, b2⟩ | ⟨t, b1, b2, b3, b4, b5⟩
  · rw [if_pos b1, bI_f (fun ⟨t, q1, q2, q3, _⟩ => b2 t q1 ⟨q3, q2⟩)]; rfl
  · subst b2
    rw [if_neg (ne_m1 (by omega)), sl8 hS (by omega), (sv.2.2.2.1 t b1).1]
    have uq : ∀ u, u < tt T → T (25 + u) = 3 → T (15 + u) = z → u = t := fun u h1 h2 h3 => hT.2.2.2.2.2.2 u t h1 b1 h2 b4 (h3.trans b3.symm)
    by_cases c : N (50 + t) = 1
    · rw [bI_t ⟨t, b1, b4, b3, c⟩]
      simp only [Option.bind_some]
      rw [if_pos c]; rfl
    · rw [bI_f (fun ⟨u, q1, q2, q3, q4⟩ => c (by rw [← uq u q1 q2 q3]; exact q4))]
      simp only [Option.bind_some]
      rw [if_neg c]; rfl
theorem c_bindOf (w : Wd M P T) {t d : Nat} (ht : t < tt T) (hd : d < td T) : (wn T t d = 0 ∧ sh_X5_bindOf P (Int32.ofNat t) (Int32.ofNat d) M = some (-1)) ∨ ∃ i, i < (dl T t).length ∧ di T t i = d ∧ sh_X5_bindOf P (Int32.ofNat t) (Int32.ofNat d) M = some (Int32.ofNat (fb T t + i)) := by
  obtain ⟨hM, hC, hF, hP, po, hT, pv⟩ := w
  have h10 := hT.t.2
  have h6 := hT.d.2
  have h60 := fb_60 hT
  have e8 : M.1 P 8 = Int32.ofNat (fb T (tt T)) := pv.1.2.2.2.1
  have at' : ∀ b, b < fb T (tt T) → ∃ u i, u < tt T ∧ i < (dl T u).length ∧ b = fb T u + i ∧ M.1 (M.2.1 (P + 4) b) 0 = Int32.ofNat u ∧ M.1 (M.2.1 (P + 4) b) 1 = Int32.ofNat (di T u i) := fun b hb => by
    obtain ⟨u, i, a1, a2, a3⟩ := fb_find T (tt T) b hb
    have := pv.2.2.2.2.1 u i a1 a2
    exact ⟨u, i, a1, a2, a3, by rw [a3]; exact this.1, by rw [a3]; exact this.2.1⟩
  have key : ∃ r, lp (X5_bindOf_B2 P (Int32.ofNat t) (Int32.ofNat d) M) FU 0 = some r ∧ ((r = .inl () ∧ ∀ i, i < (dl T t).length → di T t i ≠ d) ∨ ∃ i, i < (dl T t).length ∧ di T t i = d ∧ r = .inr (Int32.ofNat (fb T t + i))) := by
    refine lp_inv (fun j q => q = Int32.ofNat j ∧ ∀ i, i < (dl T t).length → fb T t + i < j → di T t i ≠ d) _ (fb T (tt T)) ?_ ?_ ⟨rfl, fun i _ h => absurd h (Nat.not_lt_zero _)⟩ (by omega)
    · rintro j q hj ⟨h1, h2⟩
      subst h1
      obtain ⟨u, i, a1, a2, a3, a4, a5⟩ := at' j hj
      have hdi := (di_ok hT (t := u) (by omega) a2).2.2
      have e : X5_bindOf_B2 P (Int32.ofNat t) (Int32.ofNat d) M (Int32.ofNat j) = if u = t then (if di T u i = d then some (.inr (.inr (Int32.ofNat j))) else some (.inl (Int32.ofNat (j + 1)))) else some (.inl (Int32.ofNat (j + 1))) := by
        unfold X5_bindOf_B2 X5_bindOf_J38
        simp (disch := omega) only [pg_I hP, e8, Option.bind_some, le_n, p_binds hP, p_bind hP, pb_I hP, a4, a5, suc_n, eq_n]
        rw [if_neg (by omega)]
      by_cases c1 : u = t
      · subst c1
        rw [if_pos rfl] at e
        by_cases c2 : di T u i = d
        · rw [if_pos c2] at e
          exact Or.inr ⟨_, e, Or.inr ⟨i, a2, c2, by rw [a3]⟩⟩
        · rw [if_neg c2] at e
          refine Or.inl ⟨_, e, rfl, fun i' b1 b2 => ?_⟩
          by_cases ei : i' = i
          · rw [ei]; exact c2
          · exact h2 i' b1 (by omega)
      · rw [if_neg c1] at e
        refine Or.inl ⟨_, e, rfl, fun i' b1 b2 => ?_⟩
        by_cases ei : fb T t + i' = j
        · exfalso
          have m1 : fb T (t + 1) = fb T t + (dl T t).length := rfl
          have m2 : fb T (u + 1) = fb T u + (dl T u).length := rfl
          rcases Nat.lt_or_gt_of_ne c1 with q | q
          · have := fb_mono T (i := u + 1) (j := t) (by omega); omega
          · have := fb_mono T (i := t + 1) (j := u) (by omega); omega
        · exact h2 i' b1 (by omega)
    · rintro q ⟨h1, h2⟩
      subst h1
      refine ⟨.inl (), ?_, Or.inl ⟨rfl, fun i hi => h2 i hi ?_⟩⟩
      · unfold X5_bindOf_B2
        simp (disch := omega) only [pg_I hP, e8, Option.bind_some, le_n]
        rw [if_pos (Nat.le_refl _)]
      · have m1 : fb T (t + 1) = fb T t + (dl T t).length := rfl
        have := fb_mono T (i := t + 1) (j := tt T) (by omega)
        omega
  obtain ⟨r, k1, k2⟩ := key
  have e : sh_X5_bindOf P (Int32.ofNat t) (Int32.ofNat d) M = Sum.elim (fun _ => some (-1)) (fun u4 => some u4) r := by
    unfold sh_X5_bindOf X5_bindOf_F
    simp only [p_O hP, Option.bind_some, k1]
  rcases k2 with ⟨b1, b2⟩ | ⟨i, b1, b2, b3⟩
  · refine Or.inl ⟨?_, by rw [e, b1]; rfl⟩
    refine Classical.byContradiction fun c => ?_
    have hm : d ∈ dl T t := ((dl_ok hT (by omega)).2 _).mpr ⟨by omega, c⟩
    obtain ⟨i, hi, ei⟩ := List.getElem_of_mem hm
    exact b2 i hi ((di_get hi).trans ei)
  · exact Or.inr ⟨i, b1, b2, by rw [e, b3]; rfl⟩
theorem c_fm40 (x : Int) (h1 : -40 ≤ x) (h2 : x < 40) {v : Int32} (hv : v.toInt = x) : ∃ r, sh_J9_floorMod_7cf53 v 40 M = some (Int32.ofNat r) ∧ (r : Int) = x % 40 := by
  have e40 : (40 : Int32).toInt = 40 := rfl
  by_cases c : 0 ≤ x
  · have e : v = Int32.ofNat x.toNat := by apply tI_eq; rw [hv, tn _ (by omega)]; omega
    have cc : 0 ≤ (v ^^^ 40) := (xsgn v 40).mpr (by omega)
    refine ⟨x.toNat % 40, ?_, by omega⟩
    unfold sh_J9_floorMod_7cf53 J9_floorMod_7cf53_F J9_floorMod_7cf53_J18
    have r : rmI v 40 = some (Int32.ofNat (x.toNat % 40)) := by rw [e, rm40 (by omega)]
    rw [r, bs, if_pos cc]
  · have cc : ¬ 0 ≤ (v ^^^ 40) := fun q => by have := (xsgn v 40).mp q; omega
    refine ⟨(x + 40).toNat % 40, ?_, by omega⟩
    unfold sh_J9_floorMod_7cf53 J9_floorMod_7cf53_F J9_floorMod_7cf53_J18
    by_cases c2 : x = -40
    · have e : v = -40 := tI_eq (by rw [hv, c2]; rfl)
      rw [show rmI v 40 = some 0 by rw [e]; rfl, bs, if_neg cc, if_pos rfl, c2]
      rfl
    · have e1 : rmI v 40 = some v := by
        unfold rmI
        rw [if_neg (by decide)]
        have d0 : (v / 40).toInt = 0 := by
          rw [tI_div (by omega), hv, e40]
          have : (-(-x)).tdiv 40 = -((-x).tdiv 40) := Int.neg_tdiv _ _
          rw [show x = -(-x) by omega, this, Int.tdiv_eq_ediv_of_nonneg (by omega)]
          omega
        have d1 : v / 40 = 0 := tI_eq d0
        rw [d1, Int32.zero_mul, Int32.sub_zero]
      have nz : v ≠ 0 := fun q => by rw [q] at hv; have : (0 : Int32).toInt = 0 := rfl; omega
      rw [e1, bs, if_neg cc, if_neg nz]
      congr 1
      apply tI_eq
      rw [tI_add (by omega) (by omega), hv, tn _ (by omega)]
      omega
theorem c_logCell (s : Sd M S P N T k) (hk : k < 2147483000) {a c : Nat} (ha : a < min 40 (lg N)) (hc : c < 4) : sh_X7_logCell S (Int32.ofNat a) (Int32.ofNat c) M = some (N (145 + (4 * ((lg N - 1 - a) % 40) + c))) := by
  obtain ⟨hS, so, sv, hN, hL⟩ := s
  have e17 := sv.1.2.2.1
  have hl := hL.2
  have ev : ((Int32.ofNat (lg N % 40) - 1) - Int32.ofNat a).toInt = (lg N % 40 : Nat) - 1 - (a : Int) := by
    have h1 : (1 : Int32).toInt = 1 := rfl
    have e1 : (Int32.ofNat (lg N % 40) - 1).toInt = (lg N % 40 : Nat) - 1 := by rw [tI_sub (by rw [tn _ (by omega), h1]; omega) (by rw [tn _ (by omega), h1]; omega), tn _ (by omega), h1]
    rw [tI_sub (by rw [e1, tn _ (by omega)]; omega) (by rw [e1, tn _ (by omega)]; omega), e1, tn _ (by omega)]
  obtain ⟨r, r1, r2⟩ := c_fm40 (M := M) _ (by omega) (by omega) ev
  have er : r = (lg N - 1 - a) % 40 := by omega
  subst er
  unfold sh_X7_logCell X7_logCell_F
  simp (disch := omega) only [s_O hS, s_I hS, e17, Option.bind_some, r1, s_log hS, ml4, ad_n, sl14 hS]
  rw [sv.2.2.2.2.2.2 _ (by omega)]
/-! the reference -/
theorem m_onSet (hM : Ky M) (hT : TOk T) (eT : M.1 325 = T) (eN : M.1 324 = N) : sh_X12_onSet 319 M = some (onR N (tt T)) := by
  have hd := hT.t
  have key : lp (X12_onSet_B4 319 M) FU (0, 0) = some (onR N (tt T)) := by
    refine lp_for (fun j => (onR N j, Int32.ofNat j)) _ (tt T) (fun j hj => ?_) ?_ (by omega)
    · unfold X12_onSet_B4
      simp (disch := omega) only [m_trips hM, eT, hd.1, m_now hM, ix50, ld324 hM, eN, Option.bind_some, le_n, suc_n]
      rw [if_neg (by omega)]
      rfl
    · unfold X12_onSet_B4
      simp (disch := omega) only [m_trips hM, eT, hd.1, Option.bind_some, le_n]
      rw [if_pos (Nat.le_refl _)]
  unfold sh_X12_onSet X12_onSet_F
  simp only [m_O hM, Option.bind_some, key]
theorem m_margin (hM : Ky M) (hT : TOk T) (hN : NOk N T) (eT : M.1 325 = T) (eN : M.1 324 = N) {z : Nat} (hz : z < tz T) : sh_X12_margin 319 (Int32.ofNat z) M = some (mgR T N z (tt T)) := by
  have hd := hT.t
  have h5 := hT.z.2
  have key : lp (X12_margin_B4 319 (Int32.ofNat z) M) FU (-1, 0) = some (mgR T N z (tt T)) := by
    refine lp_for (fun j => (mgR T N z j, Int32.ofNat j)) _ (tt T) (fun j hj => ?_) ?_ (by omega)
    · unfold X12_margin_B4 X12_margin_J74 X12_margin_J75
      simp (disch := omega) only [m_trips hM, eT, hd.1, m_zoneOf hM, m_now hM, m_told hM, ix50, ix35, ix20, ld324 hM, ld325 hM, eN, Option.bind_some, le_n, suc_n, m_min]
      rw [if_neg (by omega), mgR]
      have on := hN.2.2.1 j hj
      by_cases c1 : T (15 + j) = Int32.ofNat z
      · rw [if_pos c1]
        by_cases c2 : N (50 + j) = 0
        · rw [if_neg (by rw [c2]; decide), if_pos (show T (15 + j) = Int32.ofNat z ∧ N (50 + j) = 0 from ⟨c1, c2⟩)]
          split <;> rfl
        · have c3 : N (50 + j) = 1 := by
            obtain ⟨m, e, -, q⟩ := on
            match m, q with
            | 0, _ => exact absurd e c2
            | 1, _ => exact e
          rw [if_pos c3, if_neg (fun q => c2 q.2)]
      · rw [if_neg c1, if_neg (fun q => c1 q.1)]
    · unfold X12_margin_B4
      simp (disch := omega) only [m_trips hM, eT, hd.1, Option.bind_some, le_n]
      rw [if_pos (Nat.le_refl _)]
  unfold sh_X12_margin X12_margin_F
  simp only [m_O hM, Option.bind_some, key]
theorem dS_one (T : Nat → Int32) (t : Nat) : ∀ j, dS T t (fun _ => 1) j = j
  | 0 => rfl
  | j + 1 => by rw [dS, dS_one T t j]
theorem m_bound (hM : Ky M) (hT : TOk T) (eT : M.1 325 = T) {t : Nat} (ht : t < tt T) : sh_X12_bound 319 (Int32.ofNat t) M = some (Int32.ofNat (dl T t).length) := by
  have hd := hT.d
  have h10 := hT.t.2
  have key : lp (X12_bound_B4 319 (Int32.ofNat t) M) FU (0, 0) = some (Int32.ofNat (fS T t (fun _ => 1) (td T))) := by
    refine lp_for (fun j => (Int32.ofNat (fS T t (fun _ => 1) j), Int32.ofNat j)) _ (td T) (fun j hj => ?_) ?_ (by omega)
    · unfold X12_bound_B4 X12_bound_J27
      have wb := isN_nn (hT.2.2.2.2.1 t j (by omega) (by omega)).1 (by omega)
      have cw : (T (79 + 6 * t + j) ≤ 0) ↔ wn T t j = 0 := by
        unfold wn
        rw [wb.1, show (0 : Int32) = Int32.ofNat 0 from rfl, le_n (by omega) (by omega), nn _ (by omega)]
        omega
      simp (disch := omega) only [m_devices hM, eT, hd.1, m_weight hM, Option.bind_some, le_n, suc_n, cw]
      rw [if_neg (by omega), fS]
      by_cases c : wn T t j = 0
      · rw [if_pos c, if_pos c, Int32.add_zero]; rfl
      · rw [if_neg c, if_neg c]
    · unfold X12_bound_B4
      simp (disch := omega) only [m_devices hM, eT, hd.1, Option.bind_some, le_n]
      rw [if_pos (Nat.le_refl _)]
  unfold sh_X12_bound X12_bound_F
  simp only [m_O hM, Option.bind_some, key]
  rw [← dS_all hT (by omega), dS_one]
theorem m_critOn (hM : Ky M) (hT : TOk T) (eT : M.1 325 = T) (eN : M.1 324 = N) (z : Int32) : sh_X12_isCriticalOn 319 z M = some (bI (crO T N z)) := by
  have hd := hT.t
  have key : lp (X12_isCriticalOn_B4 319 z M) FU (0, 0) = some (bI (crO T N z)) := by
    have h0 : ((0, 0) : Int32 × Int32) = (fun j => (bI (∃ t, t < j ∧ T (25 + t) = 3 ∧ T (15 + t) = z ∧ N (50 + t) = 1), Int32.ofNat j)) 0 := by
      show _ = (bI _, Int32.ofNat 0)
      rw [bI_f (fun ⟨t, q, _⟩ => Nat.not_lt_zero _ q)]
      rfl
    rw [h0]
    refine lp_for (fun j => (bI (∃ t, t < j ∧ T (25 + t) = 3 ∧ T (15 + t) = z ∧ N (50 + t) = 1), Int32.ofNat j)) _ (tt T) (fun j hj => ?_) ?_ (by omega)
    · unfold X12_isCriticalOn_B4 X12_isCriticalOn_J51 X12_isCriticalOn_J55 X12_isCriticalOn_J56
      simp (disch := omega) only [m_trips hM, eT, hd.1, m_told hM, ix25, ld325 hM, m_zoneOf hM, m_now hM, ix50, ld324 hM, eN, Option.bind_some, le_n, suc_n]
      rw [if_neg (by omega)]
      by_cases c : ∃ t, t < j ∧ T (25 + t) = 3 ∧ T (15 + t) = z ∧ N (50 + t) = 1
      · have c' : ∃ t, t < j + 1 ∧ T (25 + t) = 3 ∧ T (15 + t) = z ∧ N (50 + t) = 1 := by
          obtain ⟨t, a, b⟩ := c; exact ⟨t, by omega, b⟩
        rw [bI_t c, if_neg (by decide), bI_t c']
      · rw [bI_f c, if_pos rfl]
        have no : ¬ (T (25 + j) = 3 ∧ T (15 + j) = z ∧ N (50 + j) = 1) → ¬ ∃ t, t < j + 1 ∧ T (25 + t) = 3 ∧ T (15 + t) = z ∧ N (50 + t) = 1 := fun q ⟨t, a, b⟩ => by
          by_cases e : t = j
          · rw [e] at b; exact q b
          · exact c ⟨t, by omega, b⟩
        by_cases c1 : T (25 + j) = 3
        · rw [if_pos c1]
          by_cases c2 : T (15 + j) = z
          · rw [if_pos c2]
            by_cases c3 : N (50 + j) = 1
            · rw [if_pos c3, bI_t ⟨j, by omega, c1, c2, c3⟩]
            · rw [if_neg c3, bI_f (no (fun q => c3 q.2.2))]
          · rw [if_neg c2, bI_f (no (fun q => c2 q.2.1))]
        · rw [if_neg c1, bI_f (no (fun q => c1 q.1))]
    · unfold X12_isCriticalOn_B4
      simp (disch := omega) only [m_trips hM, eT, hd.1, Option.bind_some, le_n]
      rw [if_pos (Nat.le_refl _)]
      rfl
  unfold sh_X12_isCriticalOn X12_isCriticalOn_F
  simp only [m_O hM, Option.bind_some, key, zck_b]
end
