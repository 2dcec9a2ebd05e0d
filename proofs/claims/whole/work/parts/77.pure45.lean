/-! ===== PURE 45: bind, log, count ===== -/
section
variable {M : Gm} {P D k : Nat} {N T : Nat → Int32}
theorem q_run {f g : Gm → Option (Int32 × Gm)} {v : Int32} {j : Nat} {M1 : Gm} (h : Inv M j) (cv : CV M M.1 P D (1300 * j)) (hf : f M = some (0, sI M1 345 0 v)) (hft : Ft M M1)
    (hg : ∀ M0, Rf M0 (M.1 325) (M.1 324) (1300 * j) → Rs M.1 M0.1 → ∃ M2, g M0 = some (v, M2) ∧ Rq M0 M2 ∧ M2.1 319 4 = 0) : Ans f g M j := by
  have hl := h.2.1
  have r0 : Rs M.1 (sI M1 345 0 v).1 := by
    refine ⟨fun a ha => ?_, fun k hk => ?_⟩
    · simp only [List.mem_cons, List.not_mem_nil, or_false] at ha
      rw [sI_ne _ _ _ (by omega), hft.2.2 a (by omega)]
    · rw [sI_ne _ _ _ (by decide), hft.2.2 319 (by omega)]
  obtain ⟨M2, a, b, c⟩ := hg (sI M1 345 0 v) (cv.rf hl ((Sc.ft hft).trans (Sc.set (by omega) _ _)) (r0.1 324 (by decide)) (r0.1 325 (by decide))) r0
  exact q_ok h hf hft a b c
theorem m_isW {x : Int32} {m : Nat} (hm : m < 10000) : sh_X12_isIn x 0 (Int32.ofNat m) M = some (bI (vl x (m + 1))) := by
  rw [m_isIn]
  congr 1
  apply bI_c
  rw [vl_iff (by omega), tn m (by omega), show (0 : Int32).toInt = 0 from rfl]
  omega
theorem a_bind {j : Nat} (h : Inv M j) (x1 x2 x3 : Int32) : Ans (sh_L_bind 64 x1 x2 x3 345) (sh_X12_bind 319 x1 x2 x3) M j := by
  obtain ⟨⟨P, D, cv⟩, rm⟩ := id h
  obtain ⟨⟨o, w, -, t6⟩, ⟨mk, -, -, -, -⟩, ⟨n, c, c1, c2, c3⟩, -⟩ := id cv
  have s := c3.1
  have hM := w.1
  have hT := w.2.2.2.2.2.1
  have h10 := hT.t.2
  have h6 := hT.d.2
  by_cases v1 : vl x1 (tt (M.1 325))
  · by_cases v2 : vl x2 (td (M.1 325))
    · by_cases v3 : vl x3 2
      · obtain ⟨t, ht, e1⟩ := id v1
        obtain ⟨d, hd, e2⟩ := id v2
        have wy : sh_X11_needWhat x3 1 M = some (.inl ()) := c_what_y (m := 1) (by omega) v3
        have ref : ∀ M1, Rf M1 (M.1 325) (M.1 324) (1300 * j) → sh_X12_bind 319 x1 x2 x3 M1 = some (if x3 = 0 then M.1 325 (79 + 6 * t + d) else M.1 324 (82 + 6 * t + d), sI M1 319 4 0) := fun M1 r => by
          obtain ⟨hM1, -, -, -, eT, eN⟩ := id r
          have hM0 : Ky (sI M1 319 4 0) := hM1.sI _ _ _
          have f4 : (sI M1 319 4 0).1 325 = M.1 325 := (sI_ne _ _ _ (by decide)).trans eT
          have f5 : (sI M1 319 4 0).1 324 = M.1 324 := (sI_ne _ _ _ (by decide)).trans eN
          have iw : sh_X12_isIn x3 0 1 (sI M1 319 4 0) = some (bI (vl x3 2)) := m_isW (m := 1) (by omega)
          unfold sh_X12_bind X12_bind_F X12_bind_J55
          rw [m_O hM1, bs, m_P hM1, bs, m_isTrip hM0 hT f4, bs, bI_t v1, if_neg (by decide), m_isDevice hM0 hT f4, bs, bI_t v2, if_neg (by decide), iw, bs, bI_t v3, if_neg (by decide), e1, e2, m_weight hM0 (by omega) (by omega), m_wanted hM0 (by omega) (by omega), bs, bs, f4, f5]
          split <;> rfl
        have cls : sh_X11_bind 64 x1 x2 x3 M = some (.inl (if x3 = 0 then M.1 325 (79 + 6 * t + d) else M.1 324 (82 + 6 * t + d))) := by
          unfold sh_X11_bind X11_bind_F X11_bind_J67
          rw [o_O hM, bs, c_needTrip_y w o v1, bs, Sum.elim_inl, c_needDevice_y w o v2, bs, Sum.elim_inl, wy, bs, Sum.elim_inl, o_plan hM o, bs, e1, e2]
          rcases c_bindOf w ht hd with ⟨b1, b2⟩ | ⟨i, b1, b2, b3⟩
          · rw [b2, bs, if_pos rfl]
            have ew : M.1 325 (79 + 6 * t + d) = 0 := by
              have := isN_nn (hT.2.2.2.2.1 t d (by omega) (by omega)).1 (by omega)
              unfold wn at b1
              rw [this.1, b1]; rfl
            have en : M.1 324 (82 + 6 * t + d) = 0 := (s.2.2.2.1.2.2.2.2.1 t d (by omega) (by omega)).2.1 b1
            rw [ew, en, ite_self]
          · have ba := bind_at w.2.2.2.1 hT w.2.2.2.2.2.2 ht b1
            rw [b3, bs, if_neg (ne_m1 (by omega))]
            by_cases q0 : x3 = 0
            · rw [if_pos q0, if_pos q0, bs, p_binds w.2.2.2.1, bs, p_bind w.2.2.2.1 ba.1, bs, ba.2.2.1, bs, b2]
            · rw [if_neg q0, if_neg q0, o_mem hM o, bs, mm_now hM mk, bs, s_wanted s.1, bs, sl13 s.1 ba.1, bs, s.2.2.1.2.2.2.2.2.1 t i ht b1, b2]
        refine q_pure h cv ?_ (fun M1 r _ _ => ref M1 r)
        unfold sh_L_bind L_bind_F
        rw [cls, bs, Sum.elim_inl, st345_0 hM, bs]
      · have wy : sh_X11_needWhat x3 1 M = some (.inr (1, nwM M (13, 0))) := c_what_n (m := 1) (by omega) v3
        refine q_ref (e := 1) (q := 13) h cv (by decide) (Or.inl rfl) ?_ (fun M1 r => ?_)
        · unfold sh_L_bind L_bind_F sh_X11_bind X11_bind_F
          rw [o_O hM, bs, c_needTrip_y w o v1, bs, Sum.elim_inl, c_needDevice_y w o v2, bs, Sum.elim_inl, wy, bs, Sum.elim_inr]
          rfl
        · obtain ⟨hM1, -, -, -, eT, eN⟩ := id r
          have hM0 : Ky (sI M1 319 4 0) := hM1.sI _ _ _
          have f4 : (sI M1 319 4 0).1 325 = M.1 325 := (sI_ne _ _ _ (by decide)).trans eT
          have iw : sh_X12_isIn x3 0 1 (sI M1 319 4 0) = some (bI (vl x3 2)) := m_isW (m := 1) (by omega)
          unfold sh_X12_bind X12_bind_F X12_bind_J30
          rw [m_O hM1, bs, m_P hM1, bs, m_isTrip hM0 hT f4, bs, bI_t v1, if_neg (by decide), m_isDevice hM0 hT f4, bs, bI_t v2, if_neg (by decide), iw, bs, bI_f v3, if_pos rfl, m_fail hM0, bs]
    · refine q_ref (e := 1) (q := 13) h cv (by decide) (Or.inl rfl) ?_ (fun M1 r => ?_)
      · unfold sh_L_bind L_bind_F sh_X11_bind X11_bind_F
        rw [o_O hM, bs, c_needTrip_y w o v1, bs, Sum.elim_inl, c_needDevice_n w o v2, bs, Sum.elim_inr]
        rfl
      · obtain ⟨hM1, -, -, -, eT, eN⟩ := id r
        have hM0 : Ky (sI M1 319 4 0) := hM1.sI _ _ _
        have f4 : (sI M1 319 4 0).1 325 = M.1 325 := (sI_ne _ _ _ (by decide)).trans eT
        unfold sh_X12_bind X12_bind_F X12_bind_J30
        rw [m_O hM1, bs, m_P hM1, bs, m_isTrip hM0 hT f4, bs, bI_t v1, if_neg (by decide), m_isDevice hM0 hT f4, bs, bI_f v2, if_pos rfl, m_fail hM0, bs]
  · refine q_ref (e := 1) (q := 13) h cv (by decide) (Or.inl rfl) ?_ (fun M1 r => ?_)
    · unfold sh_L_bind L_bind_F sh_X11_bind X11_bind_F
      rw [o_O hM, bs, c_needTrip_n w o v1, bs, Sum.elim_inr]
      rfl
    · obtain ⟨hM1, -, -, -, eT, eN⟩ := id r
      have hM0 : Ky (sI M1 319 4 0) := hM1.sI _ _ _
      have f4 : (sI M1 319 4 0).1 325 = M.1 325 := (sI_ne _ _ _ (by decide)).trans eT
      unfold sh_X12_bind X12_bind_F X12_bind_J30
      rw [m_O hM1, bs, m_P hM1, bs, m_isTrip hM0 hT f4, bs, bI_f v1, if_pos rfl, m_fail hM0, bs]
theorem min_n {a b : Nat} (ha : a < 2147483648) (hb : b < 2147483648) : minI (Int32.ofNat a) (Int32.ofNat b) = Int32.ofNat (min a b) := by
  unfold minI
  by_cases c : b < a
  · rw [if_pos ((lt_n hb ha).mpr c), Nat.min_eq_right (by omega)]
  · rw [if_neg (fun q => c ((lt_n hb ha).mp q)), Nat.min_eq_left (by omega)]
theorem sub_n {a b : Nat} (h : b ≤ a) (ha : a < 2147483648) : Int32.ofNat a - Int32.ofNat b = Int32.ofNat (a - b) := by
  apply tI_eq
  rw [tI_sub (by rw [tn a ha, tn b (by omega)]; omega) (by rw [tn a ha, tn b (by omega)]; omega), tn a ha, tn b (by omega), tn _ (by omega)]
  omega
theorem a_log {j : Nat} (h : Inv M j) (hj : j ≤ 512) (x1 x2 : Int32) : Ans (sh_L_log 64 x1 x2 345) (sh_X12_log 319 x1 x2) M j := by
  obtain ⟨⟨P, D, cv⟩, rm⟩ := id h
  obtain ⟨⟨o, w, -, t6⟩, ⟨mk, -, -, -, -⟩, ⟨n, c, c1, c2, c3⟩, -⟩ := id cv
  have s := c3.1
  have hM := w.1
  have hL := s.2.2.2.2
  have e18 : M.1 263 18 = Int32.ofNat (min 40 (lg (M.1 324))) := s.2.2.1.1.2.2.2.1
  have h40 : min 40 (lg (M.1 324)) ≤ 40 := Nat.min_le_left _ _
  have hlg := hL.2
  have pre : ∀ M1, Rf M1 (M.1 325) (M.1 324) (1300 * j) → ∀ (c : Prop), bI c = bI (vl x1 (min 40 (lg (M.1 324)))) → True := fun _ _ _ _ => trivial
  have refI : ∀ M0 : Gm, Ky M0 → M0.1 324 = M.1 324 → (ldA M0 0 324 144).bind (fun v5 => (sh_J9_min_7cf53 40 v5 M0).bind fun q7 => sh_X12_isIn x1 0 (q7 - 1) M0) = some (bI (vl x1 (min 40 (lg (M.1 324))))) := fun M0 hM0 e0 => by
    rw [ld324_144 hM0, bs, m_min, bs, e0, hL.1, show (40 : Int32) = Int32.ofNat 40 from rfl, min_n (by omega) (by omega), m_isIn]
    congr 1
    apply bI_c
    rw [vl_iff (by omega), tI_sub (by rw [tn _ (by omega), show (1 : Int32).toInt = 1 from rfl]; omega) (by rw [tn _ (by omega), show (1 : Int32).toInt = 1 from rfl]; omega), tn _ (by omega), show (0 : Int32).toInt = 0 from rfl, show (1 : Int32).toInt = 1 from rfl]
    omega
  have refS : ∀ M1, Rf M1 (M.1 325) (M.1 324) (1300 * j) → sh_X12_log 319 x1 x2 M1 = if vlD : bI (vl x1 (min 40 (lg (M.1 324)))) = 0 then X12_log_J41 319 x1 x2 (sI M1 319 4 0) else if bI (vl x2 4) = 0 then X12_log_J41 319 x1 x2 (sI M1 319 4 0) else X12_log_J42 319 x1 x2 1 (sI M1 319 4 0) := fun M1 r => by
    obtain ⟨hM1, -, -, -, eT, eN⟩ := id r
    have hM0 : Ky (sI M1 319 4 0) := hM1.sI _ _ _
    have f5 : (sI M1 319 4 0).1 324 = M.1 324 := (sI_ne _ _ _ (by decide)).trans eN
    have iw : sh_X12_isIn x2 0 3 (sI M1 319 4 0) = some (bI (vl x2 4)) := m_isW (m := 3) (by omega)
    have e0 := refI _ hM0 f5
    rw [ld324_144 hM0, bs, m_min, bs] at e0
    unfold sh_X12_log X12_log_F
    rw [m_O hM1, bs, m_P hM1, bs, m_now hM0, bs, ld324_144 hM0, bs, m_min, bs, e0, bs, iw, bs]
    split <;> rfl
  by_cases v2 : vl x2 4
  · have wy : sh_X11_needWhat x2 3 M = some (.inl ()) := c_what_y (m := 3) (by omega) v2
    by_cases v1 : vl x1 (min 40 (lg (M.1 324)))
    · obtain ⟨a, ha, e1⟩ := id v1
      obtain ⟨b, hb, e2⟩ := id v2
      have nn1 := vl_no (by omega) v1
      refine q_pure (v := M.1 324 (145 + (4 * ((lg (M.1 324) - 1 - a) % 40) + b))) h cv ?_ (fun M1 r _ _ => ?_)
      · unfold sh_L_log L_log_F sh_X11_log X11_log_F
        rw [o_O hM, bs, wy, bs, Sum.elim_inl, o_mem hM o, bs, mm_now hM mk, bs, if_neg nn1.1, s_I s.1, bs, e18, if_pos (by rw [tI_lt]; have := nn1.2; rw [tI_le] at this; omega), e1, e2, c_logCell s (by omega) ha hb, bs, bs, Sum.elim_inl, st345_0 hM, bs]
      · obtain ⟨hM1, -, -, -, eT, eN⟩ := id r
        have hM0 : Ky (sI M1 319 4 0) := hM1.sI _ _ _
        have f5 : (sI M1 319 4 0).1 324 = M.1 324 := (sI_ne _ _ _ (by decide)).trans eN
        rw [refS M1 r, bI_t v1, dif_neg (by decide), bI_t v2, if_neg (by decide)]
        unfold X12_log_J42 X12_log_J83
        have hmod := Nat.mod_lt (lg (M.1 324) - 1 - a) (show 0 < 40 by omega)
        rw [if_neg (by decide), m_now hM0, bs, bs, ld324_144 hM0, bs, f5, hL.1, e1, e2, show (1 : Int32) = Int32.ofNat 1 from rfl, sub_n (by omega) (by omega), sub_n (by omega) (by omega), rm40 (by omega), bs, mu4, ix145, ad_n, ld324 hM0 (by omega), bs, f5, Nat.add_assoc]
    · refine q_ref (e := 1) (q := 13) h cv (by decide) (Or.inl rfl) ?_ (fun M1 r => ?_)
      · unfold sh_L_log L_log_F sh_X11_log X11_log_F X11_log_J25
        rw [o_O hM, bs, wy, bs, Sum.elim_inl, o_mem hM o, bs, mm_now hM mk, bs, s_I s.1, bs, e18]
        by_cases c1 : x1 < 0
        · rw [if_pos c1]; rfl
        · rw [if_neg c1, if_neg (fun q => v1 (vl_lt (by omega) c1 (by rw [tI_lt] at q; rw [tI_le]; omega)))]; rfl
      · have hM0 : Ky (sI M1 319 4 0) := r.1.sI _ _ _
        rw [refS M1 r, bI_f v1, dif_pos rfl]
        unfold X12_log_J41 X12_log_J42 X12_log_J83
        rw [if_pos rfl, m_fail hM0, bs]
  · have wy : sh_X11_needWhat x2 3 M = some (.inr (1, nwM M (13, 0))) := c_what_n (m := 3) (by omega) v2
    refine q_ref (e := 1) (q := 13) h cv (by decide) (Or.inl rfl) ?_ (fun M1 r => ?_)
    · unfold sh_L_log L_log_F sh_X11_log X11_log_F
      rw [o_O hM, bs, wy, bs, Sum.elim_inr]; rfl
    · have hM0 : Ky (sI M1 319 4 0) := r.1.sI _ _ _
      rw [refS M1 r, bI_f v2, if_pos rfl]
      have e : X12_log_J41 319 x1 x2 (sI M1 319 4 0) = some (0, sI (sI M1 319 4 0) 319 4 1) := by
        unfold X12_log_J41 X12_log_J42 X12_log_J83
        rw [if_pos rfl, m_fail hM0, bs]
      rw [e]
      split <;> rfl
/-! count -/
theorem count_c (hM : Ky M) (o : ObK M P D) (mk : MmK M 257) : ∀ x, sh_X11_count 64 x M = X11_count_F 64 x M := fun x => by
  unfold sh_X11_count
  rw [o_O hM, bs]
theorem count_m (hM : Ky M) : ∀ x, sh_X12_count 319 x M = X12_count_F 319 x M := fun x => by
  unfold sh_X12_count
  rw [m_O hM, bs]
theorem a_count {j : Nat} (h : Inv M j) (hj : j ≤ 512) (x : Int32) : Ans (sh_L_count 64 x 345) (sh_X12_count 319 x) M j := by
  obtain ⟨⟨P, D, cv⟩, rm⟩ := id h
  obtain ⟨⟨o, w, -, t6⟩, ⟨mk, -, -, ⟨P2, tk⟩, -⟩, ⟨n, c, c1, c2, c3⟩, -, ⟨tl, t1, t2, t3, t4⟩, -⟩ := id cv
  obtain ⟨s, ⟨ax, a1, a2, a3, a4, a5⟩, nv, no, st⟩ := id c3
  have hM := w.1
  have hT := w.2.2.2.2.2.1
  have hP := w.2.2.2.1
  have pv := w.2.2.2.2.2.2
  have hL := s.2.2.2.2
  have hk : 1300 * j < 2147470000 := by omega
  have opn : ∀ v M1, sh_X11_count 64 x M = some (.inl (v, M1)) → Ky M1 → sh_L_count 64 x 345 M = some (0, sI M1 345 0 v) := fun v M1 a hM1 => by
    unfold sh_L_count L_count_F
    rw [a, bs, Sum.elim_inl, st345_0 hM1, bs]
  by_cases vx : vl x 20
  · obtain ⟨m, hm, e⟩ := vx
    subst e
    match m, hm with
    | 0, _ =>
      refine q_pure (v := M.1 325 163) h cv (opn _ M ?_ hM) (fun M1 r g9' g8' => ?_)
      · rw [count_c hM o mk]
        unfold X11_count_F
        rw [o_mem hM o, bs, mm_now hM mk, bs, if_pos (by decide), o_plan hM o, bs, pg_I hP, bs, pv.1.1]
      · obtain ⟨hM1, -, -, -, eT, eN⟩ := id r
        have hM0 : Ky (sI M1 319 4 0) := hM1.sI _ _ _
        have f4 : (sI M1 319 4 0).1 325 = M.1 325 := (sI_ne _ _ _ (by decide)).trans eT
        have f5 : (sI M1 319 4 0).1 324 = M.1 324 := (sI_ne _ _ _ (by decide)).trans eN
        have g8 : (sI M1 319 4 0).1 328 = M.1 328 := (sI_ne _ _ _ (by decide)).trans g8'
        have g9 : ∀ i, i ≠ 4 → (sI M1 319 4 0).1 319 i = M.1 319 i := fun i hi => by rw [sI_own, ud_ne _ _ hi, g9']
        rw [count_m hM1]
        unfold X12_count_F
        rw [m_P hM1, bs, if_pos (by decide), m_told hM0, bs, ix163, ld325 hM0 (by omega), bs, f4]
    | 1, _ =>
      refine q_pure (v := M.1 325 164) h cv (opn _ M ?_ hM) (fun M1 r g9' g8' => ?_)
      · rw [count_c hM o mk]
        unfold X11_count_F
        rw [o_mem hM o, bs, mm_now hM mk, bs, if_neg (by decide), if_pos (by decide), o_plan hM o, bs, pg_I hP, bs, pv.1.2.1]
      · obtain ⟨hM1, -, -, -, eT, eN⟩ := id r
        have hM0 : Ky (sI M1 319 4 0) := hM1.sI _ _ _
        have f4 : (sI M1 319 4 0).1 325 = M.1 325 := (sI_ne _ _ _ (by decide)).trans eT
        have f5 : (sI M1 319 4 0).1 324 = M.1 324 := (sI_ne _ _ _ (by decide)).trans eN
        have g8 : (sI M1 319 4 0).1 328 = M.1 328 := (sI_ne _ _ _ (by decide)).trans g8'
        have g9 : ∀ i, i ≠ 4 → (sI M1 319 4 0).1 319 i = M.1 319 i := fun i hi => by rw [sI_own, ud_ne _ _ hi, g9']
        rw [count_m hM1]
        unfold X12_count_F
        rw [m_P hM1, bs, if_neg (by decide), if_pos (by decide), m_told hM0, bs, ix163, ld325 hM0 (by omega), bs, f4]
    | 2, _ =>
      refine q_pure (v := M.1 325 165) h cv (opn _ M ?_ hM) (fun M1 r g9' g8' => ?_)
      · rw [count_c hM o mk]
        unfold X11_count_F
        rw [o_mem hM o, bs, mm_now hM mk, bs, if_neg (by decide), if_neg (by decide), if_pos (by decide), o_plan hM o, bs, pg_I hP, bs, pv.1.2.2.1]
      · obtain ⟨hM1, -, -, -, eT, eN⟩ := id r
        have hM0 : Ky (sI M1 319 4 0) := hM1.sI _ _ _
        have f4 : (sI M1 319 4 0).1 325 = M.1 325 := (sI_ne _ _ _ (by decide)).trans eT
        have f5 : (sI M1 319 4 0).1 324 = M.1 324 := (sI_ne _ _ _ (by decide)).trans eN
        have g8 : (sI M1 319 4 0).1 328 = M.1 328 := (sI_ne _ _ _ (by decide)).trans g8'
        have g9 : ∀ i, i ≠ 4 → (sI M1 319 4 0).1 319 i = M.1 319 i := fun i hi => by rw [sI_own, ud_ne _ _ hi, g9']
        rw [count_m hM1]
        unfold X12_count_F
        rw [m_P hM1, bs, if_neg (by decide), if_neg (by decide), if_pos (by decide), m_told hM0, bs, ix163, ld325 hM0 (by omega), bs, f4]
    | 3, _ =>
      refine q_pure (v := M.1 325 166) h cv (opn _ M ?_ hM) (fun M1 r g9' g8' => ?_)
      · rw [count_c hM o mk]
        unfold X11_count_F
        rw [o_mem hM o, bs, mm_now hM mk, bs, if_neg (by decide), if_neg (by decide), if_neg (by decide), if_pos (by decide), o_plan hM o, bs, pg_I hP, bs, pv.1.2.2.2.1, ← t6]
      · obtain ⟨hM1, -, -, -, eT, eN⟩ := id r
        have hM0 : Ky (sI M1 319 4 0) := hM1.sI _ _ _
        have f4 : (sI M1 319 4 0).1 325 = M.1 325 := (sI_ne _ _ _ (by decide)).trans eT
        have f5 : (sI M1 319 4 0).1 324 = M.1 324 := (sI_ne _ _ _ (by decide)).trans eN
        have g8 : (sI M1 319 4 0).1 328 = M.1 328 := (sI_ne _ _ _ (by decide)).trans g8'
        have g9 : ∀ i, i ≠ 4 → (sI M1 319 4 0).1 319 i = M.1 319 i := fun i hi => by rw [sI_own, ud_ne _ _ hi, g9']
        rw [count_m hM1]
        unfold X12_count_F
        rw [m_P hM1, bs, if_neg (by decide), if_neg (by decide), if_neg (by decide), if_pos (by decide), m_told hM0, bs, ix163, ld325 hM0 (by omega), bs, f4]
    | 4, _ =>
      refine q_pure (v := M.1 325 167) h cv (opn _ M ?_ hM) (fun M1 r g9' g8' => ?_)
      · rw [count_c hM o mk]
        unfold X11_count_F
        rw [o_mem hM o, bs, mm_now hM mk, bs, if_neg (by decide), if_neg (by decide), if_neg (by decide), if_neg (by decide), if_pos (by decide), o_plan hM o, bs, pg_I hP, bs, pv.1.2.2.2.2]
      · obtain ⟨hM1, -, -, -, eT, eN⟩ := id r
        have hM0 : Ky (sI M1 319 4 0) := hM1.sI _ _ _
        have f4 : (sI M1 319 4 0).1 325 = M.1 325 := (sI_ne _ _ _ (by decide)).trans eT
        have f5 : (sI M1 319 4 0).1 324 = M.1 324 := (sI_ne _ _ _ (by decide)).trans eN
        have g8 : (sI M1 319 4 0).1 328 = M.1 328 := (sI_ne _ _ _ (by decide)).trans g8'
        have g9 : ∀ i, i ≠ 4 → (sI M1 319 4 0).1 319 i = M.1 319 i := fun i hi => by rw [sI_own, ud_ne _ _ hi, g9']
        rw [count_m hM1]
        unfold X12_count_F
        rw [m_P hM1, bs, if_neg (by decide), if_neg (by decide), if_neg (by decide), if_neg (by decide), if_pos (by decide), m_told hM0, bs, ix163, ld325 hM0 (by omega), bs, f4]
    | 5, _ =>
      refine q_pure (v := M.1 324 142) h cv (opn _ M ?_ hM) (fun M1 r g9' g8' => ?_)
      · rw [count_c hM o mk]
        unfold X11_count_F
        rw [o_mem hM o, bs, mm_now hM mk, bs, if_neg (by decide), if_neg (by decide), if_neg (by decide), if_neg (by decide), if_neg (by decide), if_pos (by decide), s_I s.1, bs, s.2.2.1.1.1]
      · obtain ⟨hM1, -, -, -, eT, eN⟩ := id r
        have hM0 : Ky (sI M1 319 4 0) := hM1.sI _ _ _
        have f4 : (sI M1 319 4 0).1 325 = M.1 325 := (sI_ne _ _ _ (by decide)).trans eT
        have f5 : (sI M1 319 4 0).1 324 = M.1 324 := (sI_ne _ _ _ (by decide)).trans eN
        have g8 : (sI M1 319 4 0).1 328 = M.1 328 := (sI_ne _ _ _ (by decide)).trans g8'
        have g9 : ∀ i, i ≠ 4 → (sI M1 319 4 0).1 319 i = M.1 319 i := fun i hi => by rw [sI_own, ud_ne _ _ hi, g9']
        rw [count_m hM1]
        unfold X12_count_F
        rw [m_P hM1, bs, if_neg (by decide), if_neg (by decide), if_neg (by decide), if_neg (by decide), if_neg (by decide), if_pos (by decide), m_now hM0, bs, ld324_142 hM0, bs, f5]
    | 6, _ =>
      refine q_pure (v := M.1 324 143) h cv (opn _ M ?_ hM) (fun M1 r g9' g8' => ?_)
      · rw [count_c hM o mk]
        unfold X11_count_F
        rw [o_mem hM o, bs, mm_now hM mk, bs, if_neg (by decide), if_neg (by decide), if_neg (by decide), if_neg (by decide), if_neg (by decide), if_neg (by decide), if_pos (by decide), s_I s.1, bs, s.2.2.1.1.2.1]
      · obtain ⟨hM1, -, -, -, eT, eN⟩ := id r
        have hM0 : Ky (sI M1 319 4 0) := hM1.sI _ _ _
        have f4 : (sI M1 319 4 0).1 325 = M.1 325 := (sI_ne _ _ _ (by decide)).trans eT
        have f5 : (sI M1 319 4 0).1 324 = M.1 324 := (sI_ne _ _ _ (by decide)).trans eN
        have g8 : (sI M1 319 4 0).1 328 = M.1 328 := (sI_ne _ _ _ (by decide)).trans g8'
        have g9 : ∀ i, i ≠ 4 → (sI M1 319 4 0).1 319 i = M.1 319 i := fun i hi => by rw [sI_own, ud_ne _ _ hi, g9']
        rw [count_m hM1]
        unfold X12_count_F
        rw [m_P hM1, bs, if_neg (by decide), if_neg (by decide), if_neg (by decide), if_neg (by decide), if_neg (by decide), if_neg (by decide), if_pos (by decide), m_now hM0, bs, ld324_143 hM0, bs, f5]
    | 7, _ =>
      refine q_pure (v := mkB (sb (M.1 324)) (tz (M.1 325))) h cv (opn _ M ?_ hM) (fun M1 r g9' g8' => ?_)
      · rw [count_c hM o mk]
        unfold X11_count_F
        rw [o_mem hM o, bs, mm_now hM mk, bs, if_neg (by decide), if_neg (by decide), if_neg (by decide), if_neg (by decide), if_neg (by decide), if_neg (by decide), if_neg (by decide), if_pos (by decide), c_shutBits w s, bs]
      · obtain ⟨hM1, -, -, -, eT, eN⟩ := id r
        have hM0 : Ky (sI M1 319 4 0) := hM1.sI _ _ _
        have f4 : (sI M1 319 4 0).1 325 = M.1 325 := (sI_ne _ _ _ (by decide)).trans eT
        have f5 : (sI M1 319 4 0).1 324 = M.1 324 := (sI_ne _ _ _ (by decide)).trans eN
        have g8 : (sI M1 319 4 0).1 328 = M.1 328 := (sI_ne _ _ _ (by decide)).trans g8'
        have g9 : ∀ i, i ≠ 4 → (sI M1 319 4 0).1 319 i = M.1 319 i := fun i hi => by rw [sI_own, ud_ne _ _ hi, g9']
        rw [count_m hM1]
        unfold X12_count_F
        rw [m_P hM1, bs, if_neg (by decide), if_neg (by decide), if_neg (by decide), if_neg (by decide), if_neg (by decide), if_neg (by decide), if_neg (by decide), if_pos (by decide), m_shutSet hM0 hT f4 f5 r.2.2.1, bs]
    | 8, _ =>
      refine q_pure (v := onR (M.1 324) (tt (M.1 325))) h cv (opn _ M ?_ hM) (fun M1 r g9' g8' => ?_)
      · rw [count_c hM o mk]
        unfold X11_count_F
        rw [o_mem hM o, bs, mm_now hM mk, bs, if_neg (by decide), if_neg (by decide), if_neg (by decide), if_neg (by decide), if_neg (by decide), if_neg (by decide), if_neg (by decide), if_neg (by decide), if_pos (by decide), c_onBits w s, bs]
      · obtain ⟨hM1, -, -, -, eT, eN⟩ := id r
        have hM0 : Ky (sI M1 319 4 0) := hM1.sI _ _ _
        have f4 : (sI M1 319 4 0).1 325 = M.1 325 := (sI_ne _ _ _ (by decide)).trans eT
        have f5 : (sI M1 319 4 0).1 324 = M.1 324 := (sI_ne _ _ _ (by decide)).trans eN
        have g8 : (sI M1 319 4 0).1 328 = M.1 328 := (sI_ne _ _ _ (by decide)).trans g8'
        have g9 : ∀ i, i ≠ 4 → (sI M1 319 4 0).1 319 i = M.1 319 i := fun i hi => by rw [sI_own, ud_ne _ _ hi, g9']
        rw [count_m hM1]
        unfold X12_count_F
        rw [m_P hM1, bs, if_neg (by decide), if_neg (by decide), if_neg (by decide), if_neg (by decide), if_neg (by decide), if_neg (by decide), if_neg (by decide), if_neg (by decide), if_pos (by decide), m_onSet hM0 hT f4 f5, bs]
    | 9, _ =>
      obtain ⟨e, q, M1, b1, b2, b3⟩ := c_firstMinutes w s tk hk
      refine q_run (v := e) h cv (opn _ M1 ?_ (w.ft b2).1) b2 (fun M0 r r9 => ?_)
      · rw [count_c hM o mk]
        unfold X11_count_F
        rw [o_mem hM o, bs, mm_now hM mk, bs, if_neg (by decide), if_neg (by decide), if_neg (by decide), if_neg (by decide), if_neg (by decide), if_neg (by decide), if_neg (by decide), if_neg (by decide), if_neg (by decide), if_pos (by decide), o_fs hM o, bs, b1, bs]
      · have hM0 : Ky (sI M0 319 4 0) := r.1.sI _ _ _
        have r1 := r.z (x := 0)
        obtain ⟨e2, q2, M3, d1, d2, d3, -, d5⟩ := m_first r1 hk
        rw [(b3.uq d3).1]
        refine ⟨M3, ?_, (Rq.z M0 0).trans d2, by rw [d5, sI_own, ud_at]⟩
        rw [count_m r.1]
        unfold X12_count_F
        rw [m_P r.1, bs, if_neg (by decide), if_neg (by decide), if_neg (by decide), if_neg (by decide), if_neg (by decide), if_neg (by decide), if_neg (by decide), if_neg (by decide), if_neg (by decide), if_pos (by decide), d1, bs]
    | 10, _ =>
      obtain ⟨e, e0, q, M1, b1, b2, b3, b4⟩ := c_firstZone w s tk hk
      refine q_run (v := e) h cv (opn _ M1 ?_ (w.ft b2).1) b2 (fun M0 r r9 => ?_)
      · rw [count_c hM o mk]
        unfold X11_count_F
        rw [o_mem hM o, bs, mm_now hM mk, bs, if_neg (by decide), if_neg (by decide), if_neg (by decide), if_neg (by decide), if_neg (by decide), if_neg (by decide), if_neg (by decide), if_neg (by decide), if_neg (by decide), if_neg (by decide), if_pos (by decide), o_fs hM o, bs, b1, bs]
      · have hM0 : Ky (sI M0 319 4 0) := r.1.sI _ _ _
        have r1 := r.z (x := 0)
        obtain ⟨e2, q2, M3, d1, d2, d3, d4, d5⟩ := m_first r1 hk
        have eq := (b3.uq d3).2
        subst eq
        have ez := b4.uq d4
        refine ⟨M3, ?_, (Rq.z M0 0).trans d2, by rw [d5, sI_own, ud_at]⟩
        rw [count_m r.1]
        unfold X12_count_F
        rw [m_P r.1, bs, if_neg (by decide), if_neg (by decide), if_neg (by decide), if_neg (by decide), if_neg (by decide), if_neg (by decide), if_neg (by decide), if_neg (by decide), if_neg (by decide), if_neg (by decide), if_pos (by decide), d1, bs, m_I (hM0.eq d2.1), bs, ← ez]
    | 11, _ =>
      obtain ⟨M1, b1, b2⟩ := c_needed w s tk hk
      refine q_run (v := (bestD (M.1 325) (M.1 324) (td (M.1 325))).1) h cv (opn _ M1 ?_ (w.ft b2).1) b2 (fun M0 r r9 => ?_)
      · rw [count_c hM o mk]
        unfold X11_count_F
        rw [o_mem hM o, bs, mm_now hM mk, bs, if_neg (by decide), if_neg (by decide), if_neg (by decide), if_neg (by decide), if_neg (by decide), if_neg (by decide), if_neg (by decide), if_neg (by decide), if_neg (by decide), if_neg (by decide), if_neg (by decide), if_pos (by decide), o_fs hM o, bs, b1, bs]
      · have hM0 : Ky (sI M0 319 4 0) := r.1.sI _ _ _
        have r1 := r.z (x := 0)
        obtain ⟨M3, d1, d2, d5⟩ := m_needed r1 hk
        refine ⟨M3, ?_, (Rq.z M0 0).trans d2, by rw [d5, sI_own, ud_at]⟩
        rw [count_m r.1]
        unfold X12_count_F
        rw [m_P r.1, bs, if_neg (by decide), if_neg (by decide), if_neg (by decide), if_neg (by decide), if_neg (by decide), if_neg (by decide), if_neg (by decide), if_neg (by decide), if_neg (by decide), if_neg (by decide), if_neg (by decide), if_pos (by decide), d1, bs]
    | 12, _ =>
      obtain ⟨e, q, M1, b1, b2, b3⟩ := c_again w s tk hk
      refine q_run (v := e) h cv (opn _ M1 ?_ (w.ft b2).1) b2 (fun M0 r r9 => ?_)
      · rw [count_c hM o mk]
        unfold X11_count_F
        rw [o_mem hM o, bs, mm_now hM mk, bs, if_neg (by decide), if_neg (by decide), if_neg (by decide), if_neg (by decide), if_neg (by decide), if_neg (by decide), if_neg (by decide), if_neg (by decide), if_neg (by decide), if_neg (by decide), if_neg (by decide), if_neg (by decide), if_pos (by decide), o_fs hM o, bs, b1, bs]
      · have hM0 : Ky (sI M0 319 4 0) := r.1.sI _ _ _
        have r1 := r.z (x := 0)
        obtain ⟨e2, q2, M3, d1, d2, d3, d5⟩ := m_again r1 hk
        rw [(b3.uq d3).1]
        refine ⟨M3, ?_, (Rq.z M0 0).trans d2, by rw [d5, sI_own, ud_at]⟩
        rw [count_m r.1]
        unfold X12_count_F
        rw [m_P r.1, bs, if_neg (by decide), if_neg (by decide), if_neg (by decide), if_neg (by decide), if_neg (by decide), if_neg (by decide), if_neg (by decide), if_neg (by decide), if_neg (by decide), if_neg (by decide), if_neg (by decide), if_neg (by decide), if_pos (by decide), d1, bs]
    | 13, _ =>
      refine q_pure (v := Int32.ofNat (min 40 (lg (M.1 324)))) h cv (opn _ M ?_ hM) (fun M1 r g9' g8' => ?_)
      · rw [count_c hM o mk]
        unfold X11_count_F
        rw [o_mem hM o, bs, mm_now hM mk, bs, if_neg (by decide), if_neg (by decide), if_neg (by decide), if_neg (by decide), if_neg (by decide), if_neg (by decide), if_neg (by decide), if_neg (by decide), if_neg (by decide), if_neg (by decide), if_neg (by decide), if_neg (by decide), if_neg (by decide), if_pos (by decide), s_I s.1, bs, s.2.2.1.1.2.2.2.1]
      · obtain ⟨hM1, -, -, -, eT, eN⟩ := id r
        have hM0 : Ky (sI M1 319 4 0) := hM1.sI _ _ _
        have f4 : (sI M1 319 4 0).1 325 = M.1 325 := (sI_ne _ _ _ (by decide)).trans eT
        have f5 : (sI M1 319 4 0).1 324 = M.1 324 := (sI_ne _ _ _ (by decide)).trans eN
        have g8 : (sI M1 319 4 0).1 328 = M.1 328 := (sI_ne _ _ _ (by decide)).trans g8'
        have g9 : ∀ i, i ≠ 4 → (sI M1 319 4 0).1 319 i = M.1 319 i := fun i hi => by rw [sI_own, ud_ne _ _ hi, g9']
        rw [count_m hM1]
        unfold X12_count_F
        rw [m_P hM1, bs, if_neg (by decide), if_neg (by decide), if_neg (by decide), if_neg (by decide), if_neg (by decide), if_neg (by decide), if_neg (by decide), if_neg (by decide), if_neg (by decide), if_neg (by decide), if_neg (by decide), if_neg (by decide), if_neg (by decide), if_pos (by decide), m_now hM0, bs, ld324_144 hM0, bs, m_min, bs, f5, hL.1, show (40 : Int32) = Int32.ofNat 40 from rfl, min_n (by omega) (by have := hL.2; omega)]
    | 14, _ =>
      refine q_pure (v := Int32.ofNat n) h cv (opn _ M ?_ hM) (fun M1 r g9' g8' => ?_)
      · rw [count_c hM o mk]
        unfold X11_count_F
        rw [o_mem hM o, bs, mm_now hM mk, bs, if_neg (by decide), if_neg (by decide), if_neg (by decide), if_neg (by decide), if_neg (by decide), if_neg (by decide), if_neg (by decide), if_neg (by decide), if_neg (by decide), if_neg (by decide), if_neg (by decide), if_neg (by decide), if_neg (by decide), if_neg (by decide), if_pos (by decide), bs, mm_I hM mk, bs, a3]
      · obtain ⟨hM1, -, -, -, eT, eN⟩ := id r
        have hM0 : Ky (sI M1 319 4 0) := hM1.sI _ _ _
        have f4 : (sI M1 319 4 0).1 325 = M.1 325 := (sI_ne _ _ _ (by decide)).trans eT
        have f5 : (sI M1 319 4 0).1 324 = M.1 324 := (sI_ne _ _ _ (by decide)).trans eN
        have g8 : (sI M1 319 4 0).1 328 = M.1 328 := (sI_ne _ _ _ (by decide)).trans g8'
        have g9 : ∀ i, i ≠ 4 → (sI M1 319 4 0).1 319 i = M.1 319 i := fun i hi => by rw [sI_own, ud_ne _ _ hi, g9']
        rw [count_m hM1]
        unfold X12_count_F
        rw [m_P hM1, bs, if_neg (by decide), if_neg (by decide), if_neg (by decide), if_neg (by decide), if_neg (by decide), if_neg (by decide), if_neg (by decide), if_neg (by decide), if_neg (by decide), if_neg (by decide), if_neg (by decide), if_neg (by decide), if_neg (by decide), if_neg (by decide), if_pos (by decide), m_I hM0, bs, g9 26 (by decide), c1]
    | 15, _ =>
      refine q_pure (v := Int32.ofNat c) h cv (opn _ M ?_ hM) (fun M1 r g9' g8' => ?_)
      · rw [count_c hM o mk]
        unfold X11_count_F
        rw [o_mem hM o, bs, mm_now hM mk, bs, if_neg (by decide), if_neg (by decide), if_neg (by decide), if_neg (by decide), if_neg (by decide), if_neg (by decide), if_neg (by decide), if_neg (by decide), if_neg (by decide), if_neg (by decide), if_neg (by decide), if_neg (by decide), if_neg (by decide), if_neg (by decide), if_neg (by decide), if_pos (by decide), bs, mm_I hM mk, bs, nv.1]
      · obtain ⟨hM1, -, -, -, eT, eN⟩ := id r
        have hM0 : Ky (sI M1 319 4 0) := hM1.sI _ _ _
        have f4 : (sI M1 319 4 0).1 325 = M.1 325 := (sI_ne _ _ _ (by decide)).trans eT
        have f5 : (sI M1 319 4 0).1 324 = M.1 324 := (sI_ne _ _ _ (by decide)).trans eN
        have g8 : (sI M1 319 4 0).1 328 = M.1 328 := (sI_ne _ _ _ (by decide)).trans g8'
        have g9 : ∀ i, i ≠ 4 → (sI M1 319 4 0).1 319 i = M.1 319 i := fun i hi => by rw [sI_own, ud_ne _ _ hi, g9']
        rw [count_m hM1]
        unfold X12_count_F
        rw [m_P hM1, bs, if_neg (by decide), if_neg (by decide), if_neg (by decide), if_neg (by decide), if_neg (by decide), if_neg (by decide), if_neg (by decide), if_neg (by decide), if_neg (by decide), if_neg (by decide), if_neg (by decide), if_neg (by decide), if_neg (by decide), if_neg (by decide), if_neg (by decide), if_pos (by decide), m_I hM0, bs, g9 28 (by decide), c2]
    | 16, _ =>
      refine q_pure (v := Int32.ofNat tl) h cv (opn _ M ?_ hM) (fun M1 r g9' g8' => ?_)
      · rw [count_c hM o mk]
        unfold X11_count_F
        rw [o_mem hM o, bs, mm_now hM mk, bs, if_neg (by decide), if_neg (by decide), if_neg (by decide), if_neg (by decide), if_neg (by decide), if_neg (by decide), if_neg (by decide), if_neg (by decide), if_neg (by decide), if_neg (by decide), if_neg (by decide), if_neg (by decide), if_neg (by decide), if_neg (by decide), if_neg (by decide), if_neg (by decide), if_pos (by decide), o_I hM, bs, t1]
      · obtain ⟨hM1, -, -, -, eT, eN⟩ := id r
        have hM0 : Ky (sI M1 319 4 0) := hM1.sI _ _ _
        have f4 : (sI M1 319 4 0).1 325 = M.1 325 := (sI_ne _ _ _ (by decide)).trans eT
        have f5 : (sI M1 319 4 0).1 324 = M.1 324 := (sI_ne _ _ _ (by decide)).trans eN
        have g8 : (sI M1 319 4 0).1 328 = M.1 328 := (sI_ne _ _ _ (by decide)).trans g8'
        have g9 : ∀ i, i ≠ 4 → (sI M1 319 4 0).1 319 i = M.1 319 i := fun i hi => by rw [sI_own, ud_ne _ _ hi, g9']
        rw [count_m hM1]
        unfold X12_count_F
        rw [m_P hM1, bs, if_neg (by decide), if_neg (by decide), if_neg (by decide), if_neg (by decide), if_neg (by decide), if_neg (by decide), if_neg (by decide), if_neg (by decide), if_neg (by decide), if_neg (by decide), if_neg (by decide), if_neg (by decide), if_neg (by decide), if_neg (by decide), if_neg (by decide), if_neg (by decide), if_pos (by decide), m_I hM0, bs, g9 11 (by decide), t2]
    | 17, _ =>
      have lst : ∀ i, i < 3 → ldA M 0 (257 + 5) (Int32.ofNat i) = some (M.1 (257 + 5) i) := fun i hi => l_A (mm_kd hM mk).2.2.2.2.2 hi (by decide)
      have lz : ldA M 0 (257 + 5) 0 = some (M.1 (257 + 5) 0) := lst 0 (by omega)
      refine q_pure (v := M.1 328 0) h cv (opn _ M ?_ hM) (fun M1 r g9' g8' => ?_)
      · rw [count_c hM o mk]
        unfold X11_count_F
        rw [o_mem hM o, bs, mm_now hM mk, bs, if_neg (by decide), if_neg (by decide), if_neg (by decide), if_neg (by decide), if_neg (by decide), if_neg (by decide), if_neg (by decide), if_neg (by decide), if_neg (by decide), if_neg (by decide), if_neg (by decide), if_neg (by decide), if_neg (by decide), if_neg (by decide), if_neg (by decide), if_neg (by decide), if_neg (by decide), if_pos (by decide), bs, mm_st hM mk, bs, lz, bs, st 0 (by omega)]
      · obtain ⟨hM1, -, -, -, eT, eN⟩ := id r
        have hM0 : Ky (sI M1 319 4 0) := hM1.sI _ _ _
        have f4 : (sI M1 319 4 0).1 325 = M.1 325 := (sI_ne _ _ _ (by decide)).trans eT
        have f5 : (sI M1 319 4 0).1 324 = M.1 324 := (sI_ne _ _ _ (by decide)).trans eN
        have g8 : (sI M1 319 4 0).1 328 = M.1 328 := (sI_ne _ _ _ (by decide)).trans g8'
        have g9 : ∀ i, i ≠ 4 → (sI M1 319 4 0).1 319 i = M.1 319 i := fun i hi => by rw [sI_own, ud_ne _ _ hi, g9']
        rw [count_m hM1]
        unfold X12_count_F
        rw [m_P hM1, bs, if_neg (by decide), if_neg (by decide), if_neg (by decide), if_neg (by decide), if_neg (by decide), if_neg (by decide), if_neg (by decide), if_neg (by decide), if_neg (by decide), if_neg (by decide), if_neg (by decide), if_neg (by decide), if_neg (by decide), if_neg (by decide), if_neg (by decide), if_neg (by decide), if_neg (by decide), if_pos (by decide), m_status hM0, bs, show (Int32.ofNat 17 - 17) = Int32.ofNat 0 from rfl, ld328 hM0 (by omega), bs, g8]
    | 18, _ =>
      have lst : ∀ i, i < 3 → ldA M 0 (257 + 5) (Int32.ofNat i) = some (M.1 (257 + 5) i) := fun i hi => l_A (mm_kd hM mk).2.2.2.2.2 hi (by decide)
      have lz : ldA M 0 (257 + 5) 1 = some (M.1 (257 + 5) 1) := lst 1 (by omega)
      refine q_pure (v := M.1 328 1) h cv (opn _ M ?_ hM) (fun M1 r g9' g8' => ?_)
      · rw [count_c hM o mk]
        unfold X11_count_F
        rw [o_mem hM o, bs, mm_now hM mk, bs, if_neg (by decide), if_neg (by decide), if_neg (by decide), if_neg (by decide), if_neg (by decide), if_neg (by decide), if_neg (by decide), if_neg (by decide), if_neg (by decide), if_neg (by decide), if_neg (by decide), if_neg (by decide), if_neg (by decide), if_neg (by decide), if_neg (by decide), if_neg (by decide), if_neg (by decide), if_neg (by decide), if_pos (by decide), bs, mm_st hM mk, bs, lz, bs, st 1 (by omega)]
      · obtain ⟨hM1, -, -, -, eT, eN⟩ := id r
        have hM0 : Ky (sI M1 319 4 0) := hM1.sI _ _ _
        have f4 : (sI M1 319 4 0).1 325 = M.1 325 := (sI_ne _ _ _ (by decide)).trans eT
        have f5 : (sI M1 319 4 0).1 324 = M.1 324 := (sI_ne _ _ _ (by decide)).trans eN
        have g8 : (sI M1 319 4 0).1 328 = M.1 328 := (sI_ne _ _ _ (by decide)).trans g8'
        have g9 : ∀ i, i ≠ 4 → (sI M1 319 4 0).1 319 i = M.1 319 i := fun i hi => by rw [sI_own, ud_ne _ _ hi, g9']
        rw [count_m hM1]
        unfold X12_count_F
        rw [m_P hM1, bs, if_neg (by decide), if_neg (by decide), if_neg (by decide), if_neg (by decide), if_neg (by decide), if_neg (by decide), if_neg (by decide), if_neg (by decide), if_neg (by decide), if_neg (by decide), if_neg (by decide), if_neg (by decide), if_neg (by decide), if_neg (by decide), if_neg (by decide), if_neg (by decide), if_neg (by decide), if_neg (by decide), if_pos (by decide), m_status hM0, bs, show (Int32.ofNat 18 - 17) = Int32.ofNat 1 from rfl, ld328 hM0 (by omega), bs, g8]
    | 19, _ =>
      have lst : ∀ i, i < 3 → ldA M 0 (257 + 5) (Int32.ofNat i) = some (M.1 (257 + 5) i) := fun i hi => l_A (mm_kd hM mk).2.2.2.2.2 hi (by decide)
      have lz : ldA M 0 (257 + 5) 2 = some (M.1 (257 + 5) 2) := lst 2 (by omega)
      refine q_pure (v := M.1 328 2) h cv (opn _ M ?_ hM) (fun M1 r g9' g8' => ?_)
      · rw [count_c hM o mk]
        unfold X11_count_F
        rw [o_mem hM o, bs, mm_now hM mk, bs, if_neg (by decide), if_neg (by decide), if_neg (by decide), if_neg (by decide), if_neg (by decide), if_neg (by decide), if_neg (by decide), if_neg (by decide), if_neg (by decide), if_neg (by decide), if_neg (by decide), if_neg (by decide), if_neg (by decide), if_neg (by decide), if_neg (by decide), if_neg (by decide), if_neg (by decide), if_neg (by decide), if_neg (by decide), if_pos (by decide), bs, mm_st hM mk, bs, lz, bs, st 2 (by omega)]
      · obtain ⟨hM1, -, -, -, eT, eN⟩ := id r
        have hM0 : Ky (sI M1 319 4 0) := hM1.sI _ _ _
        have f4 : (sI M1 319 4 0).1 325 = M.1 325 := (sI_ne _ _ _ (by decide)).trans eT
        have f5 : (sI M1 319 4 0).1 324 = M.1 324 := (sI_ne _ _ _ (by decide)).trans eN
        have g8 : (sI M1 319 4 0).1 328 = M.1 328 := (sI_ne _ _ _ (by decide)).trans g8'
        have g9 : ∀ i, i ≠ 4 → (sI M1 319 4 0).1 319 i = M.1 319 i := fun i hi => by rw [sI_own, ud_ne _ _ hi, g9']
        rw [count_m hM1]
        unfold X12_count_F
        rw [m_P hM1, bs, if_neg (by decide), if_neg (by decide), if_neg (by decide), if_neg (by decide), if_neg (by decide), if_neg (by decide), if_neg (by decide), if_neg (by decide), if_neg (by decide), if_neg (by decide), if_neg (by decide), if_neg (by decide), if_neg (by decide), if_neg (by decide), if_neg (by decide), if_neg (by decide), if_neg (by decide), if_neg (by decide), if_neg (by decide), if_pos (by decide), m_status hM0, bs, show (Int32.ofNat 19 - 17) = Int32.ofNat 2 from rfl, ld328 hM0 (by omega), bs, g8]
    | m + 20, hh => omega
  · have n0n : ¬ x = 0 := vl_ne vx (m := 0) (by omega)
    have n1n : ¬ x = 1 := vl_ne vx (m := 1) (by omega)
    have n2n : ¬ x = 2 := vl_ne vx (m := 2) (by omega)
    have n3n : ¬ x = 3 := vl_ne vx (m := 3) (by omega)
    have n4n : ¬ x = 4 := vl_ne vx (m := 4) (by omega)
    have n5n : ¬ x = 5 := vl_ne vx (m := 5) (by omega)
    have n6n : ¬ x = 6 := vl_ne vx (m := 6) (by omega)
    have n7n : ¬ x = 7 := vl_ne vx (m := 7) (by omega)
    have n8n : ¬ x = 8 := vl_ne vx (m := 8) (by omega)
    have n9n : ¬ x = 9 := vl_ne vx (m := 9) (by omega)
    have n10n : ¬ x = 10 := vl_ne vx (m := 10) (by omega)
    have n11n : ¬ x = 11 := vl_ne vx (m := 11) (by omega)
    have n12n : ¬ x = 12 := vl_ne vx (m := 12) (by omega)
    have n13n : ¬ x = 13 := vl_ne vx (m := 13) (by omega)
    have n14n : ¬ x = 14 := vl_ne vx (m := 14) (by omega)
    have n15n : ¬ x = 15 := vl_ne vx (m := 15) (by omega)
    have n16n : ¬ x = 16 := vl_ne vx (m := 16) (by omega)
    have n17n : ¬ x = 17 := vl_ne vx (m := 17) (by omega)
    have n18n : ¬ x = 18 := vl_ne vx (m := 18) (by omega)
    have n19n : ¬ x = 19 := vl_ne vx (m := 19) (by omega)
    refine q_ref (e := 1) (q := 13) h cv (by decide) (Or.inl rfl) ?_ (fun M1 r => ?_)
    · unfold sh_L_count L_count_F
      rw [count_c hM o mk]
      unfold X11_count_F
      rw [o_mem hM o, bs, mm_now hM mk, bs, if_neg n0n, if_neg n1n, if_neg n2n, if_neg n3n, if_neg n4n, if_neg n5n, if_neg n6n, if_neg n7n, if_neg n8n, if_neg n9n, if_neg n10n, if_neg n11n, if_neg n12n, if_neg n13n, if_neg n14n, if_neg n15n, if_neg n16n, if_neg n17n, if_neg n18n, if_neg n19n]
      rfl
    · have hM0 : Ky (sI M1 319 4 0) := r.1.sI _ _ _
      rw [count_m r.1]
      unfold X12_count_F
      rw [m_P r.1, bs, if_neg n0n, if_neg n1n, if_neg n2n, if_neg n3n, if_neg n4n, if_neg n5n, if_neg n6n, if_neg n7n, if_neg n8n, if_neg n9n, if_neg n10n, if_neg n11n, if_neg n12n, if_neg n13n, if_neg n14n, if_neg n15n, if_neg n16n, if_neg n17n, if_neg n18n, if_neg n19n, m_fail hM0, bs]
end
