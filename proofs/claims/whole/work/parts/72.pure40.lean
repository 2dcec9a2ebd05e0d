/-! ===== PURE 40: YEARS ===== -/
theorem rm_n {a n : Nat} (ha : a < 2147483648) (hn : n < 2147483648) (h0 : 0 < n) : rmI (Int32.ofNat a) (Int32.ofNat n) = some (Int32.ofNat (a % n)) := by
  unfold rmI
  have e0 : Int32.ofNat n ≠ 0 := fun e => by
    rw [show (0 : Int32) = Int32.ofNat 0 from rfl, eq_n hn (by omega)] at e
    omega
  have e1 : Int32.ofNat a / Int32.ofNat n = Int32.ofNat (a / n) := by
    apply tI_eq
    have := Nat.div_le_self a n
    rw [tI_div (by rw [tn a ha]; omega), tn a ha, tn n hn, tn _ (by omega), Int.tdiv_eq_ediv_of_nonneg (by omega)]
    exact (Int.natCast_ediv a n).symm
  rw [if_neg e0, e1]
  congr 1
  apply tI_eq
  have h1 := Nat.div_add_mod a n
  have h2 : a / n * n = n * (a / n) := Nat.mul_comm _ _
  have h3 := Nat.mod_lt a h0
  have h4 := Nat.div_le_self a n
  rw [show Int32.ofNat (a / n) * Int32.ofNat n = Int32.ofNat (a / n * n) from (Int32.ofNat_mul _ _).symm]
  rw [tI_sub (by rw [tn a ha, tn _ (by omega)]; omega) (by rw [tn a ha, tn _ (by omega)]; omega), tn a ha, tn _ (by omega), tn _ (by omega)]
  omega
theorem ush16 (x : Int32) : ushI x 16 &&& 32767 = (x >>> ((16 : Int32) &&& 31)) &&& 32767 := by
  apply Int32.toBitVec_inj.mp
  have e1 : (ushI x 16 &&& 32767).toBitVec = (x.toBitVec >>> 16) &&& 32767#32 := rfl
  have e2 : (x >>> ((16 : Int32) &&& 31) &&& 32767).toBitVec = (x.toBitVec.sshiftRight 16) &&& 32767#32 := rfl
  rw [e1, e2]
  apply BitVec.eq_of_getLsbD_eq
  intro i hi
  rw [BitVec.getLsbD_and, BitVec.getLsbD_and, BitVec.getLsbD_ushiftRight, BitVec.getLsbD_sshiftRight]
  by_cases c : i < 15
  · rw [if_pos (by omega)]
    simp [show ¬ 32 ≤ i by omega]
  · have : (32767#32).getLsbD i = false := by
      have : ∀ i, i < 32 → 15 ≤ i → (32767#32).getLsbD i = false := by decide
      exact this i hi (by omega)
    rw [this, Bool.and_false, Bool.and_false]
theorem and15 (x : Int32) : isN (x &&& 32767) 0 32767 := by
  have h : (x &&& 32767).toBitVec.toNat ≤ 32767 := by
    show (x.toBitVec &&& 32767#32).toNat ≤ 32767
    rw [BitVec.toNat_and]
    exact Nat.and_le_right
  refine ⟨(x &&& 32767).toBitVec.toNat, ?_, Nat.zero_le _, h⟩
  apply Int32.toBitVec_inj.mp
  show _ = BitVec.ofNat 32 _
  rw [BitVec.ofNat_toNat, BitVec.setWidth_eq]
def nxS (s : Int32) : Int32 := s * 1103515245 + 12345
def dnS (s : Int32) (n : Nat) : Nat := (ushI s 16 &&& 32767).toNatClampNeg % n
theorem dn_rm (s : Int32) {n : Nat} (h0 : 0 < n) (hn : n < 1000) : rmI (ushI s 16 &&& 32767) (Int32.ofNat n) = some (Int32.ofNat (dnS s n)) := by
  have := isN_nn (and15 (ushI s 16)) (by omega)
  rw [this.1, rm_n (by omega) (by omega) h0]
  rfl
def mxR (R : Nat → Int32) (m : Int32) : Nat → Int32
  | 0 => m
  | z + 1 => maxI (mxR R m z) (R z)
/-- a LOAD may come by chance -/
def chS (T : Nat → Int32) (s : Int32) : Int32 := if dnS (nxS s) 4 = 0 ∧ 0 < tz T then nxS (nxS (nxS s)) else nxS s
def chN (T R : Nat → Int32) (s : Int32) : Nat → Int32 := if dnS (nxS s) 4 = 0 ∧ 0 < tz T then ud R (5 + dnS (nxS (nxS s)) (tz T)) (Int32.ofNat (dnS (nxS (nxS (nxS s))) 100)) else R
noncomputable def yrR (T N : Nat → Int32) (s : Int32) : Nat → Int32 × (Nat → Int32) × Int32
  | 0 => (s, N, 0)
  | n + 1 => (chS T (yrR T N s n).1, mMinute T (chN T (yrR T N s n).2.1 (yrR T N s n).1), mxR (mMinute T (chN T (yrR T N s n).2.1 (yrR T N s n).1)) (yrR T N s n).2.2 (tz T))
theorem yr_1 (T N : Nat → Int32) (s : Int32) (n : Nat) : (yrR T N s (n + 1)).1 = chS T (yrR T N s n).1 := rfl
theorem yr_2 (T N : Nat → Int32) (s : Int32) (n : Nat) : (yrR T N s (n + 1)).2.1 = mMinute T (chN T (yrR T N s n).2.1 (yrR T N s n).1) := rfl
theorem yr_3 (T N : Nat → Int32) (s : Int32) (n : Nat) : (yrR T N s (n + 1)).2.2 = mxR (mMinute T (chN T (yrR T N s n).2.1 (yrR T N s n).1)) (yrR T N s n).2.2 (tz T) := rfl
theorem ch_ok {T R : Nat → Int32} {k : Nat} (hT : TOk T) (hR : NOk R T) (hL : LgOk R k) (s : Int32) : NOk (chN T R s) T ∧ LgOk (chN T R s) k := by
  have h5 := hT.z.2
  unfold chN
  by_cases h : dnS (nxS s) 4 = 0 ∧ 0 < tz T
  · have h1 : dnS (nxS (nxS s)) (tz T) < tz T := Nat.mod_lt _ h.2
    have h2 : dnS (nxS (nxS (nxS s))) 100 < 100 := Nat.mod_lt _ (by omega)
    rw [if_pos h]
    generalize dnS (nxS (nxS s)) (tz T) = a at h1
    generalize dnS (nxS (nxS (nxS s))) 100 = b at h2
    exact ⟨hR.load hT h1 ⟨_, rfl, Nat.zero_le _, by omega⟩, hL.ud _ (by omega)⟩
  · rw [if_neg h]
    exact ⟨hR, hL⟩
theorem yr_ok {T N : Nat → Int32} {k : Nat} (hT : TOk T) (hN : NOk N T) (hL : LgOk N k) (s : Int32) : ∀ n, k + 20 * n + 20 < 2147483647 → NOk (yrR T N s n).2.1 T ∧ LgOk (yrR T N s n).2.1 (k + 20 * n)
  | 0, _ => ⟨hN, hL⟩
  | n + 1, h => by
    obtain ⟨a, b⟩ := yr_ok hT hN hL s n (by omega)
    obtain ⟨c, d⟩ := ch_ok hT a b (yrR T N s n).1
    rw [yr_2]
    exact ⟨c.minute hT, (Lg_minute hT d (by omega)).w (by omega)⟩
section
variable {M : Gm} {P P' k : Nat} {N T : Nat → Int32}
theorem c_draw (hM : Ky M) {n : Nat} (h0 : 0 < n) (hn : n < 1000) : sh_X3_draw 302 (Int32.ofNat n) M = some (Int32.ofNat (dnS (nxS (M.1 302 7)) n), sI M 302 7 (nxS (M.1 302 7))) := by
  unfold sh_X3_draw X3_draw_F X3_draw_J36
  have e : (sI M 302 7 (nxS (M.1 302 7))).1 302 7 = nxS (M.1 302 7) := by rw [sI_own, ud_at]
  have c0 : ¬ Int32.ofNat n ≤ 0 := by rw [show (0 : Int32) = Int32.ofNat 0 from rfl, le_n (by omega) (by omega)]; omega
  have en : ((M.1 302 7 * 1103515245) + 12345) = nxS (M.1 302 7) := rfl
  simp only [f_O hM, f_I hM, Option.bind_some, en, f_P hM, f_I (hM.sI _ _ _), e]
  rw [if_neg c0, dn_rm _ h0 hn, bs]
theorem c_maxL (w : Wd M P T) (s : Sd M 263 P N T k) {R : Nat → Int32} {k' : Nat} (r : Sd M 304 P R T k') (m x3 x5 : Int32) : lp (X3_liveYears_B86 302 263 x3 x5 M) FU (m, 0) = some (mxR R m (tz T)) := by
  have hT := w.2.2.2.2.2.1
  have hz := hT.z
  have e5 : M.1 P 5 = Int32.ofNat (tz T) := w.2.2.2.2.2.2.1.1.trans hz.1
  refine lp_for (fun j => (mxR R m j, Int32.ofNat j)) _ (tz T) (fun j hj => ?_) ?_ (by omega)
  · unfold X3_liveYears_B86
    simp (disch := omega) only [s_plan s.1, pg_I w.2.2.2.1, e5, le_n, f_trial w.1 w.2.2.1, s_heat r.1, sl1 r.1, (r.2.2.1.2.1 j hj).1, m_max, Option.bind_some, suc_n]
    rw [if_neg (by omega)]
    rfl
  · unfold X3_liveYears_B86
    simp (disch := omega) only [s_plan s.1, pg_I w.2.2.2.1, e5, le_n, Option.bind_some]
    rw [if_pos (Nat.le_refl _)]
theorem c_years (w : Wd M P T) (s : Sd M 263 P N T k) (t : StK M 304 P') (sd : Int32) {n : Nat} (hn : n ≤ 60) (hk : k < 2147470000) : ∃ M', sh_X3_liveYears 302 263 sd (Int32.ofNat n) M = some ((yrR T N sd n).2.2, M') ∧ Ft M M' ∧ Sd M' 304 P (yrR T N sd n).2.1 T (k + 20 * n) := by
  have hT := w.2.2.2.2.2.1
  have hz := hT.z
  have hN := s.2.2.2.1
  have hL := s.2.2.2.2
  obtain ⟨M0, a1, a2, a3⟩ := c_try w s (by decide) t
  have hM0 := (w.ft a2).1
  have a4 : Sd (sI M0 302 7 sd) 304 P N T k := ⟨a3.1.sI _ _ _, a3.2.1, a3.2.2.1.ext (fun a _ _ => sI_ne _ _ _ (by omega)), a3.2.2.2⟩
  have key : ∃ q, lp (X3_liveYears_B19 302 263 (Int32.ofNat n)) FU (0, 0, sI M0 302 7 sd) = some q ∧ (q.1 = (yrR T N sd n).2.2 ∧ Ft M q.2 ∧ Sd q.2 304 P (yrR T N sd n).2.1 T (k + 20 * n)) := by
    refine lp_inv (fun j q => (q.1 = (yrR T N sd j).2.2 ∧ q.2.1 = Int32.ofNat j) ∧ Ft M q.2.2 ∧ Sd q.2.2 304 P (yrR T N sd j).2.1 T (k + 20 * j) ∧ q.2.2.1 302 7 = (yrR T N sd j).1) _ n ?_ ?_ ⟨⟨rfl, rfl⟩, a2.set (by omega) _ _, a4, by rw [sI_own, ud_at]; rfl⟩ (by omega)
    · rintro j ⟨p, i, M1⟩ hj ⟨⟨h0, h1⟩, h2, h3, h4⟩
      replace h0 : p = _ := h0
      replace h1 : i = _ := h1
      subst h0 h1
      replace h2 : Ft M M1 := h2
      replace h3 : Sd M1 304 P (yrR T N sd j).2.1 T (k + 20 * j) := h3
      replace h4 : M1.1 302 7 = (yrR T N sd j).1 := h4
      have w1 := w.ft h2
      have s1 := s.ft h2 (by decide)
      rw [yr_1, yr_2, yr_3]
      generalize (yrR T N sd j).1 = ys at h4
      generalize (yrR T N sd j).2.1 = yr at h3
      generalize (yrR T N sd j).2.2 = ym
      -- behind the draws
      have fin : ∀ (M2 : Gm), Ft M M2 → Sd M2 304 P (chN T yr ys) T (k + 20 * j) → M2.1 302 7 = (chS T ys) → ∃ M3, X3_liveYears_J72 302 263 (Int32.ofNat n) ym (Int32.ofNat j) M2 = some (.inl (mxR (mMinute T (chN T yr ys)) ym (tz T), Int32.ofNat (j + 1), M3)) ∧ Ft M M3 ∧ Sd M3 304 P (mMinute T (chN T yr ys)) T (k + 20 * (j + 1)) ∧ M3.1 302 7 = (chS T ys) := fun M2 f2 s2 e2 => by
        have w2 := w.ft f2
        obtain ⟨M3, b1, b2, b3⟩ := c_passT2 w2 s2 (by omega)
        have f3 := f2.trans b2.1
        have w3 := w.ft f3
        have ml := c_maxL w3 (s.ft f3 (by decide)) b3 ym (Int32.ofNat n) (Int32.ofNat j)
        refine ⟨M3, ?_, f3, b3, by rw [b2.2.1]; exact e2⟩
        unfold X3_liveYears_J72
        simp only [f_clock w2.1 w2.2.2.1, f_trial w2.1 w2.2.2.1, b1, ml, Option.bind_some, suc_n]
      have d4 := c_draw (M := M1) w1.1 (n := 4) (by omega) (by omega)
      rw [h4] at d4
      have f1 : Ft M (sI M1 302 7 (nxS ys)) := h2.set (by omega) _ _
      have wq := w.ft f1
      have sq := s.ft f1 (by decide)
      have rq : Sd (sI M1 302 7 (nxS ys)) 304 P yr T (k + 20 * j) := ⟨h3.1.sI _ _ _, h3.2.1, h3.2.2.1.ext (fun a _ _ => sI_ne _ _ _ (by omega)), h3.2.2.2⟩
      have eq7 : (sI M1 302 7 (nxS ys)).1 302 7 = nxS ys := by rw [sI_own, ud_at]
      generalize sI M1 302 7 (nxS ys) = M2 at d4 f1 wq sq rq eq7
      have e5 : M2.1 P 5 = Int32.ofNat (tz T) := wq.2.2.2.2.2.2.1.1.trans hz.1
      have dd : ∀ s, dnS s 4 < 4 := fun s => Nat.mod_lt _ (by omega)
      have z4 : (Int32.ofNat (dnS (nxS ys) 4) = 0) ↔ dnS (nxS ys) 4 = 0 := by rw [show (0 : Int32) = Int32.ofNat 0 from rfl, eq_n (by have := dd (nxS ys); omega) (by omega)]
      have zz : (Int32.ofNat (tz T) ≤ 0) ↔ tz T = 0 := by rw [show (0 : Int32) = Int32.ofNat 0 from rfl, le_n (by omega) (by omega)]; omega
      by_cases c : dnS (nxS ys) 4 = 0 ∧ 0 < tz T
      · have eC : chN T yr ys = ud yr (5 + dnS (nxS (nxS ys)) (tz T)) (Int32.ofNat (dnS (nxS (nxS (nxS ys))) 100)) := by unfold chN; exact if_pos c
        have eS : chS T ys = nxS (nxS (nxS ys)) := by unfold chS; exact if_pos c
        have dz := c_draw (M := M2) wq.1 (n := tz T) c.2 (by omega)
        rw [eq7] at dz
        have hzz : dnS (nxS (nxS ys)) (tz T) < tz T := Nat.mod_lt _ c.2
        have hvv : dnS (nxS (nxS (nxS ys))) 100 < 100 := Nat.mod_lt _ (by omega)
        have f3 : Ft M (sI M2 302 7 (nxS (nxS ys))) := f1.set (by omega) _ _
        have w3 := w.ft f3
        have r3 : Sd (sI M2 302 7 (nxS (nxS ys))) 304 P yr T (k + 20 * j) := ⟨rq.1.sI _ _ _, rq.2.1, rq.2.2.1.ext (fun a _ _ => sI_ne _ _ _ (by omega)), rq.2.2.2⟩
        have eq3 : (sI M2 302 7 (nxS (nxS ys))).1 302 7 = nxS (nxS ys) := by rw [sI_own, ud_at]
        generalize sI M2 302 7 (nxS (nxS ys)) = M3 at dz f3 w3 r3 eq3
        have d1 := c_draw (M := M3) w3.1 (n := 100) (by omega) (by omega)
        rw [eq3] at d1
        have f4 : Ft M (sI M3 302 7 (nxS (nxS (nxS ys)))) := f3.set (by omega) _ _
        have r4 : Sd (sI M3 302 7 (nxS (nxS (nxS ys)))) 304 P yr T (k + 20 * j) := ⟨r3.1.sI _ _ _, r3.2.1, r3.2.2.1.ext (fun a _ _ => sI_ne _ _ _ (by omega)), r3.2.2.2⟩
        have eq4 : (sI M3 302 7 (nxS (nxS (nxS ys)))).1 302 7 = nxS (nxS (nxS ys)) := by rw [sI_own, ud_at]
        generalize sI M3 302 7 (nxS (nxS (nxS ys))) = M4 at d1 f4 r4 eq4
        have f5 : Ft M (sI M4 306 (dnS (nxS (nxS ys)) (tz T)) (Int32.ofNat (dnS (nxS (nxS (nxS ys))) 100))) := f4.set (by omega) _ _
        have st : stA M4 0 (304 + 2) (Int32.ofNat (dnS (nxS (nxS ys)) (tz T))) (Int32.ofNat (dnS (nxS (nxS (nxS ys))) 100)) = some (sI M4 306 (dnS (nxS (nxS ys)) (tz T)) (Int32.ofNat (dnS (nxS (nxS (nxS ys))) 100))) := ss2 r4.1 _ (by omega)
        have ck := ch_ok hT r4.2.2.2.1 r4.2.2.2.2 ys
        have r5 : Sd (sI M4 306 (dnS (nxS (nxS ys)) (tz T)) (Int32.ofNat (dnS (nxS (nxS (nxS ys))) 100))) 304 P (chN T yr ys) T (k + 20 * j) := ⟨r4.1.sI _ _ _, r4.2.1, by rw [eC]; exact r4.2.2.1.load hT hzz _, ck.1, ck.2⟩
        obtain ⟨M6, g1, g2, g3, g4⟩ := fin _ f5 r5 (by rw [sI_ne _ _ _ (by decide), eq4, eS])
        refine Or.inl ⟨(mxR (mMinute T (chN T yr ys)) ym (tz T), Int32.ofNat (j + 1), M6), ?_, ⟨rfl, rfl⟩, g2, g3, g4⟩
        rw [← g1]
        unfold X3_liveYears_B19
        simp (disch := omega) only [le_n]
        rw [if_neg (by omega), show (4 : Int32) = Int32.ofNat 4 from rfl, d4, bs, if_pos (z4.mpr c.1)]
        simp only [s_plan sq.1, pg_I wq.2.2.2.1, e5, bs]
        rw [if_neg (fun q => by have := zz.mp q; omega)]
        simp only [dz, bs, f_trial w3.1 w3.2.2.1, s_load r3.1]
        rw [show (100 : Int32) = Int32.ofNat 100 from rfl, d1, bs]
        simp only [st, bs]
      · have eC : chN T yr ys = yr := by unfold chN; exact if_neg c
        have eS : chS T ys = nxS ys := by unfold chS; exact if_neg c
        obtain ⟨M6, g1, g2, g3, g4⟩ := fin M2 f1 (by rw [eC]; exact rq) (by rw [eS]; exact eq7)
        refine Or.inl ⟨(mxR (mMinute T (chN T yr ys)) ym (tz T), Int32.ofNat (j + 1), M6), ?_, ⟨rfl, rfl⟩, g2, g3, g4⟩
        rw [← g1]
        unfold X3_liveYears_B19
        simp (disch := omega) only [le_n]
        rw [if_neg (by omega), show (4 : Int32) = Int32.ofNat 4 from rfl, d4, bs]
        by_cases c1 : dnS (nxS ys) 4 = 0
        · rw [if_pos (z4.mpr c1)]
          simp only [s_plan sq.1, pg_I wq.2.2.2.1, e5, bs]
          rw [if_pos (zz.mpr (by omega))]
        · rw [if_neg (fun q => c1 (z4.mp q))]
    · rintro ⟨p, i, M1⟩ ⟨⟨h0, h1⟩, h2, h3, h4⟩
      replace h1 : i = _ := h1
      subst h1
      refine ⟨(p, M1), ?_, h0, h2, h3⟩
      unfold X3_liveYears_B19
      simp (disch := omega) only [le_n]
      rw [if_pos (Nat.le_refl _)]
  obtain ⟨⟨p, M'⟩, k1, k2, k3, k4⟩ := key
  replace k2 : p = _ := k2
  subst k2
  refine ⟨M', ?_, k3, k4⟩
  unfold sh_X3_liveYears X3_liveYears_F
  simp only [f_O w.1, f_trial w.1 w.2.2.1, Option.bind_some, a1, f_P hM0, k1]
/-! the reference -/
theorem m_draw (hM : Ky M) {n : Nat} (h0 : 0 < n) (hn : n < 1000) : sh_X12_draw 319 (Int32.ofNat n) M = some (Int32.ofNat (dnS (nxS (M.1 319 34)) n), sI M 319 34 (nxS (M.1 319 34))) := by
  unfold sh_X12_draw X12_draw_F
  have e : (sI M 319 34 (nxS (M.1 319 34))).1 319 34 = nxS (M.1 319 34) := by rw [sI_own, ud_at]
  have en : ((M.1 319 34 * 1103515245) + 12345) = nxS (M.1 319 34) := rfl
  simp only [m_O hM, m_I hM, Option.bind_some, en, m_P hM, m_I (hM.sI _ _ _), e]
  rw [← ush16, dn_rm _ h0 hn, bs]
theorem m_maxL {R : Nat → Int32} (hM : Ky M) (hT : TOk T) (eT : M.1 325 = T) (eR : M.1 324 = R) (m x2 x3 x5 : Int32) : lp (X12_years_B104 319 x2 x3 x5 M) FU (m, 0) = some (mxR R m (tz T)) := by
  have hz := hT.z
  refine lp_for (fun j => (mxR R m j, Int32.ofNat j)) _ (tz T) (fun j hj => ?_) ?_ (by omega)
  · unfold X12_years_B104
    simp (disch := omega) only [m_zones hM, eT, hz.1, le_n, m_now hM, ix0, Nat.zero_add, ld324 hM, eR, m_max, Option.bind_some, suc_n]
    rw [if_neg (by omega)]
    rfl
  · unfold X12_years_B104
    simp (disch := omega) only [m_zones hM, eT, hz.1, le_n, Option.bind_some]
    rw [if_pos (Nat.le_refl _)]
theorem m_yearsL {M1 : Gm} (r : Rf M T N k) (hk : k < 2147470000) (t0 : Tr M M1 N) (e0 : M1.1 324 = N) (sd x3 : Int32) (e34 : M1.1 319 34 = sd) {n : Nat} (hn : n ≤ 60) : ∃ q, lp (X12_years_B51 319 (Int32.ofNat n) x3) FU (0, 0, M1) = some q ∧ (q.1 = (yrR T N sd n).2.2 ∧ Tr M q.2 N ∧ q.2.1 324 = (yrR T N sd n).2.1) := by
  obtain ⟨hM, hT, hN, hL, eT, eN⟩ := r
  have hz := hT.z
  refine lp_inv (fun j q => (q.1 = (yrR T N sd j).2.2 ∧ q.2.1 = Int32.ofNat j) ∧ Tr M q.2.2 N ∧ q.2.2.1 324 = (yrR T N sd j).2.1 ∧ q.2.2.1 319 34 = (yrR T N sd j).1) _ n ?_ ?_ ⟨⟨rfl, rfl⟩, t0, e0, e34⟩ (by omega)
  · rintro j ⟨p, i, M2⟩ hj ⟨⟨h0, h1⟩, h2, h3, h4⟩
    replace h0 : p = _ := h0
    replace h1 : i = _ := h1
    subst h0 h1
    replace h2 : Tr M M2 N := h2
    replace h3 : M2.1 324 = (yrR T N sd j).2.1 := h3
    replace h4 : M2.1 319 34 = (yrR T N sd j).1 := h4
    have ok := yr_ok hT hN hL sd j (by omega)
    rw [yr_1, yr_2, yr_3]
    generalize (yrR T N sd j).1 = ys at h4
    generalize (yrR T N sd j).2.1 = yr at h3 ok
    generalize (yrR T N sd j).2.2 = ym
    have hM2 := h2.ky hM
    have ck := ch_ok hT ok.1 ok.2 ys
    have fin : ∀ (M3 : Gm), Tr M M3 N → M3.1 324 = (chN T yr ys) → M3.1 319 34 = (chS T ys) → ∃ M4, X12_years_J97 319 (Int32.ofNat n) x3 ym (Int32.ofNat j) M3 = some (.inl (mxR (mMinute T (chN T yr ys)) ym (tz T), Int32.ofNat (j + 1), M4)) ∧ Tr M M4 N ∧ M4.1 324 = mMinute T (chN T yr ys) ∧ M4.1 319 34 = (chS T ys) := fun M3 t3 a3 b3 => by
      obtain ⟨M4, b1, t4, b4, b9⟩ := t3.min hM eT hT a3 ck.2 (by omega)
      refine ⟨M4, ?_, t4, b4, by rw [b9]; exact b3⟩
      unfold X12_years_J97
      simp only [b1, m_maxL (t4.ky hM) hT (t4.told.trans eT) b4 ym (Int32.ofNat n) x3 (Int32.ofNat j), Option.bind_some, suc_n]
    have d4 := m_draw hM2 (n := 4) (by omega) (by omega)
    rw [h4] at d4
    have t3 := h2.set (k := 34) (nxS ys) (Or.inr rfl)
    have a3 : (sI M2 319 34 (nxS ys)).1 324 = yr := (sI_ne _ _ _ (by decide)).trans h3
    have b3 : (sI M2 319 34 (nxS ys)).1 319 34 = nxS ys := by rw [sI_own, ud_at]
    generalize sI M2 319 34 (nxS ys) = M3 at d4 t3 a3 b3
    have hM3 := t3.ky hM
    have eT3 := t3.told.trans eT
    have dd : ∀ s, dnS s 4 < 4 := fun s => Nat.mod_lt _ (by omega)
    have z4 : (Int32.ofNat (dnS (nxS ys) 4) = 0) ↔ dnS (nxS ys) 4 = 0 := by rw [show (0 : Int32) = Int32.ofNat 0 from rfl, eq_n (by have := dd (nxS ys); omega) (by omega)]
    have zz : (Int32.ofNat (tz T) ≤ 0) ↔ tz T = 0 := by rw [show (0 : Int32) = Int32.ofNat 0 from rfl, le_n (by omega) (by omega)]; omega
    by_cases c : dnS (nxS ys) 4 = 0 ∧ 0 < tz T
    · have eC : chN T yr ys = ud yr (5 + dnS (nxS (nxS ys)) (tz T)) (Int32.ofNat (dnS (nxS (nxS (nxS ys))) 100)) := by unfold chN; exact if_pos c
      have eS : chS T ys = nxS (nxS (nxS ys)) := by unfold chS; exact if_pos c
      have hzz : dnS (nxS (nxS ys)) (tz T) < tz T := Nat.mod_lt _ c.2
      have dz := m_draw hM3 (n := tz T) c.2 (by omega)
      rw [b3] at dz
      have t4 := t3.set (k := 34) (nxS (nxS ys)) (Or.inr rfl)
      have a4 : (sI M3 319 34 (nxS (nxS ys))).1 324 = yr := (sI_ne _ _ _ (by decide)).trans a3
      have b4 : (sI M3 319 34 (nxS (nxS ys))).1 319 34 = nxS (nxS ys) := by rw [sI_own, ud_at]
      generalize sI M3 319 34 (nxS (nxS ys)) = M4 at dz t4 a4 b4
      have hM4 := t4.ky hM
      have d1 := m_draw hM4 (n := 100) (by omega) (by omega)
      rw [b4] at d1
      have t5 := t4.set (k := 34) (nxS (nxS (nxS ys))) (Or.inr rfl)
      have a5 : (sI M4 319 34 (nxS (nxS (nxS ys)))).1 324 = yr := (sI_ne _ _ _ (by decide)).trans a4
      have b5 : (sI M4 319 34 (nxS (nxS (nxS ys)))).1 319 34 = nxS (nxS (nxS ys)) := by rw [sI_own, ud_at]
      generalize sI M4 319 34 (nxS (nxS (nxS ys))) = M5 at d1 t5 a5 b5
      have hM5 := t5.ky hM
      have t6 := t5.setN (k := 5 + dnS (nxS (nxS ys)) (tz T)) (Int32.ofNat (dnS (nxS (nxS (nxS ys))) 100)) (by omega)
      have st : stA M5 0 324 (Int32.ofNat (5 + dnS (nxS (nxS ys)) (tz T))) (Int32.ofNat (dnS (nxS (nxS (nxS ys))) 100)) = some (sI M5 324 (5 + dnS (nxS (nxS ys)) (tz T)) (Int32.ofNat (dnS (nxS (nxS (nxS ys))) 100))) := st324 hM5 _ (by omega)
      obtain ⟨M7, g1, g2, g3, g4⟩ := fin _ t6 (by rw [sI_own, a5, eC]) (by rw [sI_ne _ _ _ (by decide), b5, eS])
      refine Or.inl ⟨(mxR (mMinute T (chN T yr ys)) ym (tz T), Int32.ofNat (j + 1), M7), ?_, ⟨rfl, rfl⟩, g2, g3, g4⟩
      rw [← g1]
      unfold X12_years_B51
      simp (disch := omega) only [le_n, Option.bind_some]
      rw [if_neg (by omega), show (4 : Int32) = Int32.ofNat 4 from rfl, d4, bs, if_pos (z4.mpr c.1), m_zones hM3, bs, eT3, hz.1, if_neg (fun q => by have := zz.mp q; omega), bs, dz, bs]
      simp only [m_now hM4, Option.bind_some]
      rw [show (100 : Int32) = Int32.ofNat 100 from rfl, d1, bs]
      simp only [ix5, st, Option.bind_some]
    · have eC : chN T yr ys = yr := by unfold chN; exact if_neg c
      have eS : chS T ys = nxS ys := by unfold chS; exact if_neg c
      obtain ⟨M7, g1, g2, g3, g4⟩ := fin M3 t3 (by rw [eC]; exact a3) (by rw [eS]; exact b3)
      refine Or.inl ⟨(mxR (mMinute T (chN T yr ys)) ym (tz T), Int32.ofNat (j + 1), M7), ?_, ⟨rfl, rfl⟩, g2, g3, g4⟩
      rw [← g1]
      unfold X12_years_B51
      simp (disch := omega) only [le_n, Option.bind_some]
      rw [if_neg (by omega), show (4 : Int32) = Int32.ofNat 4 from rfl, d4, bs]
      by_cases c1 : dnS (nxS ys) 4 = 0
      · rw [if_pos (z4.mpr c1), m_zones hM3, bs, eT3, hz.1, if_pos (zz.mpr (by omega))]
      · rw [if_neg (fun q => c1 (z4.mp q))]
  · rintro ⟨p, i, M2⟩ ⟨⟨h0, h1⟩, h2, h3, h4⟩
    replace h1 : i = _ := h1
    subst h1
    refine ⟨(p, M2), ?_, h0, h2, h3⟩
    unfold X12_years_B51
    simp (disch := omega) only [le_n]
    rw [if_pos (Nat.le_refl _)]
end
