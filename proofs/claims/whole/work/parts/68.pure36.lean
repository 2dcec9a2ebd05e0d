/-! ===== PURE 36: the peak, flips, what is borne ===== -/
noncomputable def pkR (T N : Nat → Int32) (z : Nat) : Nat → Int32
  | 0 => 0
  | n + 1 => maxI (pkR T N z n) (mRun T N (n + 1) z)
noncomputable def flR (T N : Nat → Int32) (t : Nat) : Nat → Int32
  | 0 => 0
  | n + 1 => flR T N t n + (if mRun T N (n + 1) (50 + t) = mRun T N n (50 + t) then 0 else 1)
noncomputable def brR (T N : Nat → Int32) (z n : Nat) : Nat → Int32
  | 0 => -1
  | v + 1 => if sb (mRun T (ud N (5 + z) (Int32.ofNat v)) n) z = true then brR T N z n v else Int32.ofNat v
theorem pm1 (u : Nat) : Int32.ofNat (u + 1) + (-1) = Int32.ofNat u := by
  rw [← pl1, Int32.add_assoc, show (1 : Int32) + (-1) = 0 from rfl, Int32.add_zero]
theorem ne_m1 {n : Nat} (hn : n < 2147483648) : Int32.ofNat n ≠ -1 := fun q => by
  have := congrArg Int32.toInt q
  rw [tn n hn, show (-1 : Int32).toInt = -1 from rfl] at this
  omega
theorem NOk.load {N T : Nat → Int32} (hT : TOk T) (h : NOk N T) {z : Nat} (hz : z < tz T) {x : Int32} (hx : isN x 0 99) : NOk (ud N (5 + z) x) T := by
  have h10 := hT.t.2
  have h5 := hT.z.2
  have h6 := hT.d.2
  obtain ⟨a, b, c, d, e, f⟩ := h
  refine ⟨fun y hy => ?_, fun y i hy hi => ?_, fun u hu => ?_, fun d' hd => ?_, fun u d' hu hd => ?_, ?_⟩
  · rw [ud_ne _ _ (show y ≠ 5 + z by omega), ud_ne _ _ (show 20 + y ≠ 5 + z by omega), ud_ne _ _ (show 25 + y ≠ 5 + z by omega), ud_ne _ _ (show 15 + y ≠ 5 + z by omega), ud_ne _ _ (show 10 + y ≠ 5 + z by omega)]
    refine ⟨(a y hy).1, ?_, (a y hy).2.2⟩
    by_cases ey : y = z
    · rw [ey, ud_at]; exact hx
    · rw [ud_ne _ _ (by omega)]; exact (a y hy).2.1
  · rw [ud_ne _ _ (by omega)]; exact b y i hy hi
  · rw [ud_ne _ _ (by omega)]; exact c u hu
  · rw [ud_ne _ _ (by omega), ud_ne _ _ (by omega)]; exact d d' hd
  · rw [ud_ne _ _ (by omega)]; exact e u d' hu hd
  · rw [ud_ne _ _ (by omega)]; exact f
section
variable {M : Gm} {P P' k : Nat} {N T : Nat → Int32}
theorem c_peak (w : Wd M P T) (s : Sd M 263 P N T k) (t : StK M 304 P') {z n : Nat} (hz : z < tz T) (hn : n ≤ 200) (hk : k < 2147470000) : ∃ M', sh_X3_peakHeat 302 263 (Int32.ofNat z) (Int32.ofNat n) M = some (pkR T N z n, M') ∧ Ft M M' := by
  have hT := w.2.2.2.2.2.1
  have h5 := hT.z.2
  obtain ⟨M0, a1, a2, a3⟩ := c_try w s (by decide) t
  have key : ∃ r, lp (X3_peakHeat_B14 302 (Int32.ofNat z) (Int32.ofNat n)) FU (0, 0, M0) = some r ∧ (r.1 = pkR T N z n ∧ Ft M r.2) := by
    refine lp_inv (fun j q => (q.1 = pkR T N z j ∧ q.2.1 = Int32.ofNat j) ∧ Ft M q.2.2 ∧ Sd q.2.2 304 P (mRun T N j) T (k + 20 * j)) _ n ?_ ?_ ⟨⟨rfl, rfl⟩, a2, a3⟩ (by omega)
    · rintro j ⟨p, i, M1⟩ hj ⟨⟨h0, h1⟩, h2, h3⟩
      replace h0 : p = _ := h0
      replace h1 : i = Int32.ofNat j := h1
      subst h0 h1
      replace h2 : Ft M M1 := h2
      have w1 := w.ft h2
      obtain ⟨M2, b1, b2, b3⟩ := c_passT w1 h3 (by omega)
      have w2 := w1.ft b2
      have b4 : Sd M2 304 P (mRun T N (j + 1)) T (k + 20 * (j + 1)) := b3
      refine Or.inl ⟨(pkR T N z (j + 1), Int32.ofNat (j + 1), M2), ?_, ⟨rfl, rfl⟩, h2.trans b2, b4⟩
      unfold X3_peakHeat_B14
      simp (disch := omega) only [f_clock w1.1 w1.2.2.1, f_trial w1.1 w1.2.2.1, Option.bind_some, le_n, b1, suc_n, f_trial w2.1 w2.2.2.1, s_heat b4.1, sl1 b4.1, m_max, (b4.2.2.1.2.1 z hz).1]
      rw [if_neg (by omega)]
      rfl
    · rintro ⟨p, i, M1⟩ ⟨⟨h0, h1⟩, h2, h3⟩
      replace h1 : i = Int32.ofNat n := h1
      subst h1
      refine ⟨(p, M1), ?_, h0, h2⟩
      unfold X3_peakHeat_B14
      simp (disch := omega) only [le_n]
      rw [if_pos (Nat.le_refl _)]
  obtain ⟨⟨p, M'⟩, k1, k2, k3⟩ := key
  replace k2 : p = _ := k2
  subst k2
  refine ⟨M', ?_, k3⟩
  unfold sh_X3_peakHeat X3_peakHeat_F
  simp only [f_O w.1, f_trial w.1 w.2.2.1, Option.bind_some, a1, k1]
theorem c_flips (w : Wd M P T) (s : Sd M 263 P N T k) (t : StK M 304 P') {z n : Nat} (hz : z < tt T) (hn : n ≤ 200) (hk : k < 2147470000) : ∃ M', sh_X3_countFlips 302 263 (Int32.ofNat z) (Int32.ofNat n) M = some (flR T N z n, M') ∧ Ft M M' := by
  have hT := w.2.2.2.2.2.1
  have h5 := hT.t.2
  obtain ⟨M0, a1, a2, a3⟩ := c_try w s (by decide) t
  have key : ∃ r, lp (X3_countFlips_B14 302 (Int32.ofNat z) (Int32.ofNat n)) FU (0, 0, M0) = some r ∧ (r.1 = flR T N z n ∧ Ft M r.2) := by
    refine lp_inv (fun j q => (q.1 = flR T N z j ∧ q.2.1 = Int32.ofNat j) ∧ Ft M q.2.2 ∧ Sd q.2.2 304 P (mRun T N j) T (k + 20 * j)) _ n ?_ ?_ ⟨⟨rfl, rfl⟩, a2, a3⟩ (by omega)
    · rintro j ⟨p, i, M1⟩ hj ⟨⟨h0, h1⟩, h2, h3⟩
      replace h0 : p = _ := h0
      replace h1 : i = Int32.ofNat j := h1
      subst h0 h1
      replace h2 : Ft M M1 := h2
      replace h3 : Sd M1 304 P (mRun T N j) T (k + 20 * j) := h3
      have w1 := w.ft h2
      obtain ⟨M2, b1, b2, b3⟩ := c_passT w1 h3 (by omega)
      have w2 := w1.ft b2
      have b4 : Sd M2 304 P (mRun T N (j + 1)) T (k + 20 * (j + 1)) := b3
      refine Or.inl ⟨(flR T N z (j + 1), Int32.ofNat (j + 1), M2), ?_, ⟨rfl, rfl⟩, h2.trans b2, b4⟩
      unfold X3_countFlips_B14 X3_countFlips_J63
      simp (disch := omega) only [f_clock w1.1 w1.2.2.1, f_trial w1.1 w1.2.2.1, Option.bind_some, le_n, b1, suc_n, f_trial w2.1 w2.2.2.1, s_on b4.1, sl8 b4.1, s_on h3.1, sl8 h3.1, (b4.2.2.1.2.2.2.1 z hz).1, (h3.2.2.1.2.2.2.1 z hz).1]
      rw [if_neg (by omega)]
      show _ = some (Sum.inl (flR T N z j + (if mRun T N (j + 1) (50 + z) = mRun T N j (50 + z) then 0 else 1), _, _))
      split <;> rfl
    · rintro ⟨p, i, M1⟩ ⟨⟨h0, h1⟩, h2, h3⟩
      replace h1 : i = Int32.ofNat n := h1
      subst h1
      refine ⟨(p, M1), ?_, h0, h2⟩
      unfold X3_countFlips_B14
      simp (disch := omega) only [le_n]
      rw [if_pos (Nat.le_refl _)]
  obtain ⟨⟨p, M'⟩, k1, k2, k3⟩ := key
  replace k2 : p = _ := k2
  subst k2
  refine ⟨M', ?_, k3⟩
  unfold sh_X3_countFlips X3_countFlips_F
  simp only [f_O w.1, f_trial w.1 w.2.2.1, Option.bind_some, a1, k1]
theorem run_stay (hT : TOk T) {z j n : Nat} (hz : z < 5) (hj : j ≤ n) (h : sb (mRun T N j) z = true) : sb (mRun T N n) z = true := by
  induction n with
  | zero => rw [show j = 0 by omega] at h; exact h
  | succ n ih =>
    by_cases e : j = n + 1
    · rw [← e]; exact h
    · exact mRun_up hT (N := mRun T N n) hz 1 (ih (by omega))
theorem c_stays (w : Wd M P T) (s : Sd M 304 P N T k) {z n : Nat} (hz : z < tz T) (hn : n ≤ 200) (hk : k < 2147470000) : ∃ M', sh_X3_staysOpen 302 (Int32.ofNat z) (Int32.ofNat n) M = some (bI (¬ sb (mRun T N n) z = true), M') ∧ Ft M M' ∧ ∃ P', StK M' 304 P' := by
  have hT := w.2.2.2.2.2.1
  have h5 := hT.z.2
  have key : ∃ M', lp (X3_staysOpen_B2 302 (Int32.ofNat z) (Int32.ofNat n)) FU (0, M) = some M' ∧ (Ft M M' ∧ ∃ j, Sd M' 304 P (mRun T N j) T (k + 4000) ∧ (sb (mRun T N j) z = true ↔ sb (mRun T N n) z = true)) := by
    refine lp_inv (fun j q => q.1 = Int32.ofNat j ∧ Ft M q.2 ∧ Sd q.2 304 P (mRun T N j) T (k + 20 * j)) _ n ?_ ?_ ⟨rfl, Ft.rfl' _, s⟩ (by omega)
    · rintro j ⟨i, M1⟩ hj ⟨h1, h2, h3⟩
      replace h1 : i = Int32.ofNat j := h1
      subst h1
      replace h2 : Ft M M1 := h2
      replace h3 : Sd M1 304 P (mRun T N j) T (k + 20 * j) := h3
      have w1 := w.ft h2
      obtain ⟨M2, b1, b2, b3⟩ := c_passT w1 h3 (by omega)
      by_cases c : sb (mRun T N j) z = true
      · refine Or.inr ⟨M1, ?_, h2, j, h3.sd (by omega), ⟨fun h => run_stay hT (by omega) (by omega) h, fun _ => c⟩⟩
        unfold X3_staysOpen_B2
        simp (disch := omega) only [f_trial w1.1 w1.2.2.1, Option.bind_some, le_n, c_shutE hT h3 hz]
        rw [if_neg (by omega), bI_t c, if_neg (by decide)]
      · refine Or.inl ⟨(Int32.ofNat (j + 1), M2), ?_, rfl, h2.trans b2, b3⟩
        unfold X3_staysOpen_B2
        simp (disch := omega) only [f_clock w1.1 w1.2.2.1, f_trial w1.1 w1.2.2.1, Option.bind_some, le_n, c_shutE hT h3 hz, b1, suc_n]
        rw [if_neg (by omega), bI_f c, if_pos rfl]
    · rintro ⟨i, M1⟩ ⟨h1, h2, h3⟩
      replace h1 : i = Int32.ofNat n := h1
      subst h1
      refine ⟨M1, ?_, h2, n, h3.sd (by omega), Iff.rfl⟩
      unfold X3_staysOpen_B2
      simp (disch := omega) only [le_n]
      rw [if_pos (Nat.le_refl _)]
  obtain ⟨M', k1, k2, j, k3, k4⟩ := key
  have w' := w.ft k2
  refine ⟨M', ?_, k2, P, k3.1⟩
  unfold sh_X3_staysOpen X3_staysOpen_F X3_staysOpen_J35 X3_staysOpen_J51
  simp only [f_O w.1, Option.bind_some, k1, f_trial w'.1 w'.2.2.1, c_shutE hT k3 hz]
  by_cases c : sb (mRun T N n) z = true
  · rw [bI_t (k4.mpr c), if_neg (by decide), bI_f (fun q => q c)]; rfl
  · rw [bI_f (fun q => c (k4.mp q)), if_pos rfl, bI_t c]; rfl
theorem c_greatestLoad (w : Wd M P T) (s : Sd M 263 P N T k) (t : StK M 304 P') {z n : Nat} (hz : z < tz T) (hn : n ≤ 200) (hk : k < 2147470000) : ∃ M', sh_X3_greatestLoad 302 263 (Int32.ofNat z) (Int32.ofNat n) M = some (if sb N z = true then -1 else brR T N z n 100, M') ∧ Ft M M' := by
  have hT := w.2.2.2.2.2.1
  have h5 := hT.z.2
  have key : ∃ r, lp (X3_greatestLoad_B4 302 263 (Int32.ofNat z) (Int32.ofNat n)) FU (99, M) = some r ∧ ∃ M', Sum.elim (fun u3 => X3_greatestLoad_J54 u3) (fun u4 => some (u4.1, u4.2)) r = some (if sb N z = true then -1 else brR T N z n 100, M') ∧ Ft M M' := by
    refine lp_inv (fun j q => q.1 = Int32.ofNat (100 - j) + (-1) ∧ Ft M q.2 ∧ (∃ P', StK q.2 304 P') ∧ (brR T N z n 100 = brR T N z n (100 - j))) _ 100 ?_ ?_ ⟨rfl, Ft.rfl' _, ⟨P', t⟩, rfl⟩ (by omega)
    · rintro j ⟨i, M1⟩ hj ⟨h1, h2, ⟨P1, h3⟩, h4⟩
      obtain ⟨v, hv⟩ : ∃ v, 100 - j = v + 1 := ⟨99 - j, by omega⟩
      replace h1 : i = Int32.ofNat v := by rw [← pm1, ← hv]; exact h1
      rw [hv] at h4
      subst h1
      replace h2 : Ft M M1 := h2
      replace h3 : StK M1 304 P1 := h3
      have w1 := w.ft h2
      have s1 := s.ft h2 (by decide)
      have hneg : ¬ Int32.ofNat v < 0 := nneg (by omega)
      by_cases c : sb N z = true
      · refine Or.inr ⟨.inl M1, ?_, M1, ?_, h2⟩
        · unfold X3_greatestLoad_B4
          simp only [c_shutE hT s1 hz, Option.bind_some]
          rw [if_neg hneg, bI_t c, if_neg (by decide)]
        · rw [if_pos c]; rfl
      · obtain ⟨M2, a1, a2, a3⟩ := c_try w1 s1 (by decide) h3
        have w2 := w1.ft a2
        have f3 : Ft M2 (sI M2 306 z (Int32.ofNat v)) := (Ft.rfl' M2).set (by omega) _ _
        have w3 := w2.ft f3
        have s3 : Sd (sI M2 306 z (Int32.ofNat v)) 304 P (ud N (5 + z) (Int32.ofNat v)) T k := ⟨a3.1.sI _ _ _, a3.2.1, a3.2.2.1.load hT hz _, a3.2.2.2.1.load hT hz ⟨v, rfl, by omega, by omega⟩, a3.2.2.2.2.ud _ (by omega)⟩
        obtain ⟨M4, b1, b2, b3⟩ := c_stays w3 s3 hz hn hk
        have st : stA M2 0 (304 + 2) (Int32.ofNat z) (Int32.ofNat v) = some (sI M2 306 z (Int32.ofNat v)) := ss2 a3.1 _ (by omega)
        have e : X3_greatestLoad_B4 302 263 (Int32.ofNat z) (Int32.ofNat n) (Int32.ofNat v, M1) = if bI (¬ sb (mRun T (ud N (5 + z) (Int32.ofNat v)) n) z = true) = 0 then some (.inl (Int32.ofNat v + (-1), M4)) else some (.inr (.inr (Int32.ofNat v, M4))) := by
          unfold X3_greatestLoad_B4
          simp only [c_shutE hT s1 hz, Option.bind_some, f_trial w1.1 w1.2.2.1, a1, f_trial w2.1 w2.2.2.1, s_load a3.1, st, b1]
          rw [if_neg hneg, bI_f c, if_pos rfl]
        have eB : brR T N z n (v + 1) = if sb (mRun T (ud N (5 + z) (Int32.ofNat v)) n) z = true then brR T N z n v else Int32.ofNat v := rfl
        have f4 := h2.trans (a2.trans (f3.trans b2))
        by_cases d : sb (mRun T (ud N (5 + z) (Int32.ofNat v)) n) z = true
        · rw [bI_f (fun q => q d), if_pos rfl] at e
          refine Or.inl ⟨_, e, by rw [show 100 - (j + 1) = v by omega], f4, b3, ?_⟩
          rw [show 100 - (j + 1) = v by omega, h4, eB, if_pos d]
        · rw [bI_t d, if_neg (by decide)] at e
          refine Or.inr ⟨_, e, M4, ?_, f4⟩
          rw [if_neg c, h4, eB, if_neg d]
          rfl
    · rintro ⟨i, M1⟩ ⟨h1, h2, h3, h4⟩
      replace h1 : i = -1 := h1
      subst h1
      refine ⟨.inl M1, rfl, M1, ?_, h2⟩
      have : brR T N z n 100 = -1 := h4
      rw [this, ite_self]
      rfl
  obtain ⟨r, k1, M', k2, k3⟩ := key
  refine ⟨M', ?_, k3⟩
  unfold sh_X3_greatestLoad X3_greatestLoad_F
  simp only [f_O w.1, Option.bind_some, k1]
  exact k2
/-! the reference -/
theorem m_peak {z n : Nat} (r : Rf M T N k) (hz : z < tz T) (hn : n ≤ 200) (hk : k < 2147470000) : ∃ M', sh_X12_peak 319 (Int32.ofNat z) (Int32.ofNat n) M = some (pkR T N z n, M') ∧ Rq M M' ∧ M'.1 319 4 = M.1 319 4 := by
  obtain ⟨hM, hT, hN, hL, eT, eN⟩ := r
  have h5 := hT.z.2
  have t0 : Tr M (wR M 332 (mixR 305 (M.1 324) (M.1 332))) N := Tr.begin eN
  have e0 : (wR M 332 (mixR 305 (M.1 324) (M.1 332))).1 324 = N := (wR_ne _ _ (by decide)).trans eN
  have tr := m_tries hM
  generalize wR M 332 (mixR 305 (M.1 324) (M.1 332)) = M1 at t0 e0 tr
  have key : ∃ q, lp (X12_peak_B9 319 (Int32.ofNat z) (Int32.ofNat n)) FU (0, 0, M1) = some q ∧ (q.1 = pkR T N z n ∧ Tr M q.2 N) := by
    refine lp_inv (fun j q => (q.1 = pkR T N z j ∧ q.2.1 = Int32.ofNat j) ∧ Tr M q.2.2 N ∧ q.2.2.1 324 = mRun T N j) _ n ?_ ?_ ⟨⟨rfl, rfl⟩, t0, e0⟩ (by omega)
    · rintro j ⟨p, i, Mj⟩ hj ⟨⟨h0, h1⟩, h2, h3⟩
      replace h0 : p = _ := h0
      replace h1 : i = Int32.ofNat j := h1
      subst h0 h1
      obtain ⟨M2, b1, t2, b3, b9⟩ := h2.min hM eT hT h3 (Lg_run hT hL j (by omega)) (by omega)
      have b4 : M2.1 324 = mRun T N (j + 1) := b3
      have hM2 := t2.ky hM
      refine Or.inl ⟨(pkR T N z (j + 1), Int32.ofNat (j + 1), M2), ?_, ⟨rfl, rfl⟩, t2, b4⟩
      unfold X12_peak_B9
      simp (disch := omega) only [le_n, b1, Option.bind_some, m_now hM2, ix0, ld324 hM2, b4, m_max, suc_n, Nat.zero_add]
      rw [if_neg (by omega)]
      rfl
    · rintro ⟨p, i, Mj⟩ ⟨⟨h0, h1⟩, h2, h3⟩
      replace h1 : i = Int32.ofNat n := h1
      subst h1
      refine ⟨(p, Mj), ?_, h0, h2⟩
      unfold X12_peak_B9
      simp (disch := omega) only [le_n]
      rw [if_pos (Nat.le_refl _)]
  obtain ⟨⟨p, Mx⟩, k1, k2, k3⟩ := key
  replace k2 : p = _ := k2
  subst k2
  obtain ⟨M', b1, b2, b3⟩ := k3.back hM eN
  refine ⟨M', ?_, b2, by rw [b3]; exact k3.2.2.1 4 (by decide) (by decide)⟩
  unfold sh_X12_peak X12_peak_F
  simp only [m_O hM, tr, k1, b1, Option.bind_some]
theorem m_flipsL {M1 : Gm} {z n : Nat} (r : Rf M T N k) (t0 : Tr M M1 N) (e0 : M1.1 324 = N) (hz : z < tt T) (hn : n ≤ 200) (hk : k < 2147470000) : ∃ q, lp (X12_flips_B45 319 (Int32.ofNat z) (Int32.ofNat n)) FU (0, 0, M1) = some q ∧ (q.1 = flR T N z n ∧ Tr M q.2 N) := by
  obtain ⟨hM, hT, hN, hL, eT, eN⟩ := r
  have h5 := hT.t.2
  refine lp_inv (fun j q => (q.1 = flR T N z j ∧ q.2.1 = Int32.ofNat j) ∧ Tr M q.2.2 N ∧ q.2.2.1 324 = mRun T N j) _ n ?_ ?_ ⟨⟨rfl, rfl⟩, t0, e0⟩ (by omega)
  · rintro j ⟨p, i, Mj⟩ hj ⟨⟨h0, h1⟩, h2, h3⟩
    replace h0 : p = _ := h0
    replace h1 : i = Int32.ofNat j := h1
    subst h0 h1
    replace h2 : Tr M Mj N := h2
    replace h3 : Mj.1 324 = mRun T N j := h3
    have hMj := h2.ky hM
    obtain ⟨M2, b1, t2, b3, b9⟩ := h2.min hM eT hT h3 (Lg_run hT hL j (by omega)) (by omega)
    have b4 : M2.1 324 = mRun T N (j + 1) := b3
    have hM2 := t2.ky hM
    refine Or.inl ⟨(flR T N z (j + 1), Int32.ofNat (j + 1), M2), ?_, ⟨rfl, rfl⟩, t2, b4⟩
    unfold X12_flips_B45 X12_flips_J86
    simp (disch := omega) only [le_n, b1, Option.bind_some, m_now hMj, ld324 hMj, h3, m_now hM2, ix50, ld324 hM2, b4, suc_n]
    rw [if_neg (by omega)]
    show _ = some (Sum.inl (flR T N z j + (if mRun T N (j + 1) (50 + z) = mRun T N j (50 + z) then 0 else 1), _, _))
    by_cases c : mRun T N j (50 + z) = mRun T N (j + 1) (50 + z)
    · rw [if_pos c, if_pos c.symm]
    · rw [if_neg c, if_neg (fun q => c q.symm)]
  · rintro ⟨p, i, Mj⟩ ⟨⟨h0, h1⟩, h2, h3⟩
    replace h1 : i = Int32.ofNat n := h1
    subst h1
    refine ⟨(p, Mj), ?_, h0, h2⟩
    unfold X12_flips_B45
    simp (disch := omega) only [le_n]
    rw [if_pos (Nat.le_refl _)]
theorem sb_0 {R : Nat → Int32} {z : Nat} : R (10 + z) = 0 ↔ ¬ sb R z = true := by
  unfold sb
  rw [decide_eq_true_eq, Ne, Classical.not_not]
theorem m_stays {M1 : Gm} {R : Nat → Int32} {z n : Nat} (x : Int32) (hM : Ky M) (hT : TOk T) (hR : NOk R T) (hL : LgOk R k) (eT : M.1 325 = T) (t0 : Tr M M1 N) (e0 : M1.1 324 = R) (hz : z < tz T) (hn : n ≤ 200) (hk : k < 2147470000) : ∃ M', lp (X12_borne_B38 319 (Int32.ofNat z) (Int32.ofNat n) x) FU (0, M1) = some M' ∧ (Tr M M' N ∧ (M'.1 324 (10 + z) = 0 ↔ ¬ sb (mRun T R n) z = true)) := by
  have h5 := hT.z.2
  refine lp_inv (fun j q => q.1 = Int32.ofNat j ∧ Tr M q.2 N ∧ q.2.1 324 = mRun T R j) _ n ?_ ?_ ⟨rfl, t0, e0⟩ (by omega)
  · rintro j ⟨i, Mj⟩ hj ⟨h1, h2, h3⟩
    replace h1 : i = Int32.ofNat j := h1
    subst h1
    replace h2 : Tr M Mj N := h2
    replace h3 : Mj.1 324 = mRun T R j := h3
    have hMj := h2.ky hM
    obtain ⟨M2, b1, t2, b3, b9⟩ := h2.min hM eT hT h3 (Lg_run hT hL j (by omega)) (by omega)
    by_cases c : sb (mRun T R j) z = true
    · refine Or.inr ⟨Mj, ?_, h2, ?_⟩
      · unfold X12_borne_B38
        simp (disch := omega) only [le_n, m_now hMj, ix10, ld324 hMj, h3, Option.bind_some]
        rw [if_neg (by omega), if_neg (fun q => sb_0.mp q c)]
      · rw [h3, sb_0]
        exact not_congr ⟨fun h => run_stay hT (by omega) (by omega) h, fun _ => c⟩
    · refine Or.inl ⟨(Int32.ofNat (j + 1), M2), ?_, rfl, t2, b3⟩
      unfold X12_borne_B38
      simp (disch := omega) only [le_n, m_now hMj, ix10, ld324 hMj, h3, Option.bind_some, b1, suc_n]
      rw [if_neg (by omega), if_pos (sb_0.mpr c)]
  · rintro ⟨i, Mj⟩ ⟨h1, h2, h3⟩
    replace h1 : i = Int32.ofNat n := h1
    subst h1
    replace h3 : Mj.1 324 = mRun T R n := h3
    refine ⟨Mj, ?_, h2, by rw [h3]; exact sb_0⟩
    unfold X12_borne_B38
    simp (disch := omega) only [le_n]
    rw [if_pos (Nat.le_refl _)]
theorem m_borne {z n : Nat} (r : Rf M T N k) (hz : z < tz T) (hn : n ≤ 200) (hk : k < 2147470000) : ∃ M', sh_X12_borne 319 (Int32.ofNat z) (Int32.ofNat n) M = some (if sb N z = true then -1 else brR T N z n 100, M') ∧ Rq M M' ∧ M'.1 319 4 = M.1 319 4 := by
  have r0 := r
  obtain ⟨hM, hT, hN, hL, eT, eN⟩ := r
  have h5 := hT.z.2
  have e10 := hN.sh hz
  unfold sh_X12_borne X12_borne_F
  simp (disch := omega) only [m_O hM, m_now hM, ix10, ld324 hM, eN, Option.bind_some, e10]
  by_cases c : sb N z = true
  · rw [if_pos c, if_pos rfl, if_pos c]
    exact ⟨M, rfl, Rq.rfl' _, rfl⟩
  rw [if_neg c, if_neg (by decide), if_neg c]
  have key : ∃ r, lp (X12_borne_B18 319 (Int32.ofNat z) (Int32.ofNat n)) FU (99, M) = some r ∧ ∃ M', Sum.elim (fun u7 => some ((-1), u7)) (fun u8 => some (u8.1, u8.2)) r = some (brR T N z n 100, M') ∧ Rq M M' ∧ M'.1 319 4 = M.1 319 4 := by
    refine lp_inv (fun j q => q.1 = Int32.ofNat (100 - j) + (-1) ∧ Rq M q.2 ∧ q.2.1 319 4 = M.1 319 4 ∧ (brR T N z n 100 = brR T N z n (100 - j))) _ 100 ?_ ?_ ⟨rfl, Rq.rfl' _, rfl, rfl⟩ (by omega)
    · rintro j ⟨i, M1⟩ hj ⟨h1, h2, h3, h4⟩
      obtain ⟨v, hv⟩ : ∃ v, 100 - j = v + 1 := ⟨99 - j, by omega⟩
      replace h1 : i = Int32.ofNat v := by rw [← pm1, ← hv]; exact h1
      rw [hv] at h4
      subst h1
      replace h2 : Rq M M1 := h2
      replace h3 : M1.1 319 4 = M.1 319 4 := h3
      obtain ⟨hM1, -, -, -, eT1, eN1⟩ := r0.q h2
      have hneg : ¬ Int32.ofNat v < 0 := nneg (by omega)
      have t0 : Tr M1 (wR M1 332 (mixR 305 (M1.1 324) (M1.1 332))) N := Tr.begin eN1
      have e0 : (wR M1 332 (mixR 305 (M1.1 324) (M1.1 332))).1 324 = N := (wR_ne _ _ (by decide)).trans eN1
      have tr := m_tries hM1
      generalize wR M1 332 (mixR 305 (M1.1 324) (M1.1 332)) = M2 at t0 e0 tr
      have hM2 := t0.ky hM1
      have t3 := t0.setN (k := 5 + z) (Int32.ofNat v) (by omega)
      have e3 : (sI M2 324 (5 + z) (Int32.ofNat v)).1 324 = ud N (5 + z) (Int32.ofNat v) := by rw [sI_own, e0]
      obtain ⟨M4, b1, t4, b3⟩ := m_stays (Int32.ofNat v) hM1 hT (hN.load hT hz ⟨v, rfl, by omega, by omega⟩) (hL.ud _ (by omega)) eT1 t3 e3 hz hn hk
      have hM4 := t4.ky hM1
      obtain ⟨M5, c1, c2, c3⟩ := t4.back hM1 eN1
      have q5 := h2.trans c2
      have z5 : M5.1 319 4 = M.1 319 4 := by rw [c3, t4.2.2.1 4 (by decide) (by decide)]; exact h3
      have st : stA M2 0 324 (Int32.ofNat (5 + z)) (Int32.ofNat v) = some (sI M2 324 (5 + z) (Int32.ofNat v)) := st324 hM2 _ (by omega)
      have eB : brR T N z n (v + 1) = if sb (mRun T (ud N (5 + z) (Int32.ofNat v)) n) z = true then brR T N z n v else Int32.ofNat v := rfl
      by_cases d : sb (mRun T (ud N (5 + z) (Int32.ofNat v)) n) z = true
      · refine Or.inl ⟨(Int32.ofNat v + (-1), M5), ?_, by rw [show 100 - (j + 1) = v by omega], q5, z5, ?_⟩
        · unfold X12_borne_B18 X12_borne_J66 X12_borne_J83
          simp (disch := omega) only [tr, m_now hM2, ix5, st, b1, m_now hM4, ix10, ld324 hM4, c1, Option.bind_some]
          rw [if_neg hneg, if_neg (fun q => b3.mp q d)]
          rfl
        · rw [show 100 - (j + 1) = v by omega, h4, eB, if_pos d]
      · refine Or.inr ⟨.inr (Int32.ofNat v, M5), ?_, M5, ?_, q5, z5⟩
        · unfold X12_borne_B18 X12_borne_J66 X12_borne_J83
          simp (disch := omega) only [tr, m_now hM2, ix5, st, b1, m_now hM4, ix10, ld324 hM4, c1, Option.bind_some]
          rw [if_neg hneg, if_pos (b3.mpr d)]
          rfl
        · rw [h4, eB, if_neg d]
          rfl
    · rintro ⟨i, M1⟩ ⟨h1, h2, h3, h4⟩
      replace h1 : i = -1 := h1
      subst h1
      refine ⟨.inl M1, rfl, M1, ?_, h2, h3⟩
      have : brR T N z n 100 = -1 := h4
      rw [this]
      rfl
  obtain ⟨r, k1, M', k2, k3⟩ := key
  refine ⟨M', ?_, k3⟩
  rw [k1]
  exact k2
end
