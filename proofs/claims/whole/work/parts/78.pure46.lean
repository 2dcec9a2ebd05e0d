/-! ===== PURE 46: ahead, bears, flips, fits, look, years ===== -/
section
variable {M : Gm} {P D k : Nat} {N T : Nat → Int32}
/-- the reference ahead by n minutes -/
theorem m_aheadL {M1 : Gm} (r : Rf M T N k) (t0 : Tr M M1 N) (e0 : M1.1 324 = N) {n : Nat} (hn : n ≤ 200) (hk : k < 2147470000) (x1 x3 : Int32) : ∃ M', lp (X12_ahead_B52 319 x1 (Int32.ofNat n) x3) FU (0, M1) = some M' ∧ (Tr M M' N ∧ M'.1 324 = mRun T N n) := by
  obtain ⟨hM, hT, hN, hL, eT, eN⟩ := r
  refine lp_inv (fun j q => q.1 = Int32.ofNat j ∧ Tr M q.2 N ∧ q.2.1 324 = mRun T N j) _ n ?_ ?_ ⟨rfl, t0, e0⟩ (by omega)
  · rintro j ⟨i, Mj⟩ hj ⟨h1, h2, h3⟩
    replace h1 : i = Int32.ofNat j := h1
    subst h1
    replace h2 : Tr M Mj N := h2
    replace h3 : Mj.1 324 = mRun T N j := h3
    obtain ⟨M2, b1, t2, b3, b9⟩ := h2.min hM eT hT h3 (Lg_run hT hL j (by omega)) (by omega)
    refine Or.inl ⟨(Int32.ofNat (j + 1), M2), ?_, rfl, t2, b3⟩
    unfold X12_ahead_B52
    simp (disch := omega) only [le_n, b1, Option.bind_some, suc_n]
    rw [if_neg (by omega)]
  · rintro ⟨i, Mj⟩ ⟨h1, h2, h3⟩
    replace h1 : i = Int32.ofNat n := h1
    subst h1
    refine ⟨Mj, ?_, h2, h3⟩
    unfold X12_ahead_B52
    simp (disch := omega) only [le_n]
    rw [if_pos (Nat.le_refl _)]
theorem in_n {x : Int32} {a b : Nat} (h : (a : Int) ≤ x.toInt ∧ x.toInt ≤ b) : ∃ n, x = Int32.ofNat n ∧ a ≤ n ∧ n ≤ b := ⟨x.toInt.toNat, ofNat_tI (by omega), by omega, by omega⟩
theorem a_ahead {j : Nat} (h : Inv M j) (hj : j ≤ 512) (x1 x2 x3 : Int32) : Ans (sh_L_ahead 64 x1 x2 x3 345) (sh_X12_ahead 319 x1 x2 x3) M j := by
  obtain ⟨⟨P, D, cv⟩, rm⟩ := id h
  obtain ⟨⟨o, w, -, t6⟩, ⟨mk, -, -, ⟨P2, tk⟩, -⟩, ⟨n0', c, c1, c2, c3⟩, -⟩ := id cv
  have s := c3.1
  have hM := w.1
  have hT := w.2.2.2.2.2.1
  have h5 := hT.z.2
  have hk : 1300 * j < 2147470000 := by omega
  have iw : ∀ M0 : Gm, sh_X12_isIn x3 0 2 M0 = some (bI (vl x3 3)) := fun M0 => m_isW (m := 2) (by omega)
  by_cases v1 : vl x1 (tz (M.1 325))
  · by_cases v3 : vl x3 3
    · have wy : sh_X11_needWhat x3 2 M = some (.inl ()) := c_what_y (m := 2) (by omega) v3
      by_cases v2 : (0 : Int32).toInt ≤ x2.toInt ∧ x2.toInt ≤ (200 : Int32).toInt
      · obtain ⟨z, hz, e1⟩ := id v1
        obtain ⟨n, e2, -, hn⟩ := in_n (a := 0) (b := 200) v2
        obtain ⟨m, hm, e3⟩ := id v3
        subst e1 e2 e3
        obtain ⟨M1, b1, b2, b3⟩ := c_stateAhead w s tk hn hk
        have w1 := w.ft b2
        have sv := b3.2.2.1.2.1 z hz
        have ref : ∀ M0, Rf M0 (M.1 325) (M.1 324) (1300 * j) → ∀ (a : Nat) (y : Int32), y = Int32.ofNat a → a ≤ 20 → (∀ (s : Nat) (Mx : Gm), X12_ahead_J92 319 (Int32.ofNat z) s y Mx = (ldA Mx 0 s (y + Int32.ofNat z)).bind fun v1 => (sh_X12_laysBack 319 Mx).bind fun q3 => some (v1, q3)) → (∀ Mx : Gm, (if Int32.ofNat m = 0 then X12_ahead_J92 319 (Int32.ofNat z) 324 0 Mx else if Int32.ofNat m = 1 then X12_ahead_J92 319 (Int32.ofNat z) 324 20 Mx else X12_ahead_J92 319 (Int32.ofNat z) 324 10 Mx) = X12_ahead_J92 319 (Int32.ofNat z) 324 y Mx) → ∃ M2, sh_X12_ahead 319 (Int32.ofNat z) (Int32.ofNat n) (Int32.ofNat m) M0 = some (mRun (M.1 325) (M.1 324) n (a + z), M2) ∧ Rq M0 M2 ∧ M2.1 319 4 = 0 := fun M0 r a y ey ha hJ hI => by
          have r1 := r.z (x := 0)
          obtain ⟨hM0, -, -, -, eT, eN⟩ := id r1
          have t0 : Tr (sI M0 319 4 0) (wR (sI M0 319 4 0) 332 (mixR 305 ((sI M0 319 4 0).1 324) ((sI M0 319 4 0).1 332))) (M.1 324) := Tr.begin eN
          have e0 : (wR (sI M0 319 4 0) 332 (mixR 305 ((sI M0 319 4 0).1 324) ((sI M0 319 4 0).1 332))).1 324 = M.1 324 := (wR_ne _ _ (by decide)).trans eN
          have tr := m_tries hM0
          generalize wR (sI M0 319 4 0) 332 (mixR 305 ((sI M0 319 4 0).1 324) ((sI M0 319 4 0).1 332)) = M3 at t0 e0 tr
          obtain ⟨M4, d1, d2, d3⟩ := m_aheadL r1 t0 e0 hn hk (Int32.ofNat z) (Int32.ofNat m)
          have hM4 := d2.ky hM0
          obtain ⟨M5, g1, g2, g3⟩ := d2.back hM0 eN
          refine ⟨M5, ?_, (Rq.z M0 0).trans g2, by rw [g3, d2.2.2.1 4 (by decide) (by decide), sI_own, ud_at]⟩
          unfold sh_X12_ahead X12_ahead_F
          rw [m_O r.1, bs, m_P r.1, bs, m_isZone hM0 hT eT, bs, bI_t v1, if_neg (by decide), iw, bs, bI_t v3, if_neg (by decide), m_isIn, bs, bI_t v2, if_neg (by decide), tr, bs, d1, bs, m_now hM4, bs, hI, hJ, ey, ad_n, ld324 hM4 (by omega), bs, g1, bs, d3]
        have opn : ∀ v, sh_X11_ahead 64 (Int32.ofNat z) (Int32.ofNat n) (Int32.ofNat m) M = some (.inl (v, M1)) → sh_L_ahead 64 (Int32.ofNat z) (Int32.ofNat n) (Int32.ofNat m) 345 M = some (0, sI M1 345 0 v) := fun v a => by
          unfold sh_L_ahead L_ahead_F
          rw [a, bs, Sum.elim_inl, st345_0 w1.1, bs]
        have cl : sh_X11_ahead 64 (Int32.ofNat z) (Int32.ofNat n) (Int32.ofNat m) M = (if Int32.ofNat m = 0 then (gfR M1 304 7 3).bind fun v21 => (ldA M1 0 v21 (Int32.ofNat z)).bind fun v23 => some (.inl (v23, M1)) else if Int32.ofNat m = 1 then (gfR M1 304 7 6).bind fun v25 => (ldA M1 0 v25 (Int32.ofNat z)).bind fun v27 => some (.inl (v27, M1)) else (sh_X7_isShut 304 (Int32.ofNat z) M1).bind fun q29 => if q29 = 0 then X11_ahead_J94 0 M1 else X11_ahead_J94 1 M1) := by
          unfold sh_X11_ahead X11_ahead_F
          rw [o_O hM, bs, c_needZone_y w o v1, bs, Sum.elim_inl, wy, bs, Sum.elim_inl, c_min_y v2, bs, Sum.elim_inl, o_fs hM o, bs, o_mem hM o, bs, mm_now hM mk, bs, b1, bs]
        have hm' : m = 0 ∨ m = 1 ∨ m = 2 := by omega
        rcases hm' with e | e | e
        · subst e
          refine q_run h cv (opn (mRun (M.1 325) (M.1 324) n z) ?_) b2 (fun M0 r _ => ?_)
          · rw [cl, if_pos (by decide), s_heat b3.1, bs, sl1 b3.1 (by omega), bs, sv.1]
          · have := ref M0 r 0 0 rfl (by omega) (fun _ _ => rfl) (fun Mx => if_pos rfl)
            rw [Nat.zero_add] at this
            exact this
        · subst e
          refine q_run h cv (opn (mRun (M.1 325) (M.1 324) n (20 + z)) ?_) b2 (fun M0 r _ => ref M0 r 20 20 rfl (by omega) (fun _ _ => rfl) (fun Mx => ?_))
          · rw [cl, if_neg (by decide), if_pos (by decide), s_temp b3.1, bs, sl4 b3.1 (by omega), bs, sv.2.2.2.1]
          · rw [if_neg (by decide), if_pos (by decide)]
        · subst e
          refine q_run h cv (opn (mRun (M.1 325) (M.1 324) n (10 + z)) ?_) b2 (fun M0 r _ => ref M0 r 10 10 rfl (by omega) (fun _ _ => rfl) (fun Mx => ?_))
          · rw [cl, if_neg (by decide), if_neg (by decide), c_shutE hT b3 hz, bs, b3.2.2.2.1.sh hz]
            unfold X11_ahead_J94
            by_cases cc : sb (mRun (M.1 325) (M.1 324) n) z = true
            · rw [bI_t cc, if_neg (by decide), if_pos cc]
            · rw [bI_f cc, if_pos rfl, if_neg cc]
          · rw [if_neg (by decide), if_neg (by decide)]
      · refine q_ref (e := 2) (q := 14) h cv (by decide) (Or.inr rfl) ?_ (fun M1 r => ?_)
        · unfold sh_L_ahead L_ahead_F sh_X11_ahead X11_ahead_F
          rw [o_O hM, bs, c_needZone_y w o v1, bs, Sum.elim_inl, wy, bs, Sum.elim_inl, c_min_n v2, bs, Sum.elim_inr]
          rfl
        · obtain ⟨hM0, -, -, -, eT, eN⟩ := r.z (x := 0)
          unfold sh_X12_ahead X12_ahead_F
          rw [m_O r.1, bs, m_P r.1, bs, m_isZone hM0 hT eT, bs, bI_t v1, if_neg (by decide), iw, bs, bI_t v3, if_neg (by decide), m_isIn, bs, bI_f v2, if_pos rfl, m_fail hM0, bs]
    · have wy : sh_X11_needWhat x3 2 M = some (.inr (1, nwM M (13, 0))) := c_what_n (m := 2) (by omega) v3
      refine q_ref (e := 1) (q := 13) h cv (by decide) (Or.inl rfl) ?_ (fun M1 r => ?_)
      · unfold sh_L_ahead L_ahead_F sh_X11_ahead X11_ahead_F
        rw [o_O hM, bs, c_needZone_y w o v1, bs, Sum.elim_inl, wy, bs, Sum.elim_inr]
        rfl
      · obtain ⟨hM0, -, -, -, eT, eN⟩ := r.z (x := 0)
        unfold sh_X12_ahead X12_ahead_F X12_ahead_J22
        rw [m_O r.1, bs, m_P r.1, bs, m_isZone hM0 hT eT, bs, bI_t v1, if_neg (by decide), iw, bs, bI_f v3, if_pos rfl, m_fail hM0, bs]
  · refine q_ref (e := 1) (q := 13) h cv (by decide) (Or.inl rfl) ?_ (fun M1 r => ?_)
    · unfold sh_L_ahead L_ahead_F sh_X11_ahead X11_ahead_F
      rw [o_O hM, bs, c_needZone_n w o v1, bs, Sum.elim_inr]
      rfl
    · obtain ⟨hM0, -, -, -, eT, eN⟩ := r.z (x := 0)
      unfold sh_X12_ahead X12_ahead_F X12_ahead_J22
      rw [m_O r.1, bs, m_P r.1, bs, m_isZone hM0 hT eT, bs, bI_f v1, if_pos rfl, m_fail hM0, bs]
theorem a_bears {j : Nat} (h : Inv M j) (hj : j ≤ 512) (x1 x2 x3 : Int32) : Ans (sh_L_bears 64 x1 x2 x3 345) (sh_X12_bears 319 x1 x2 x3) M j := by
  obtain ⟨⟨P, D, cv⟩, rm⟩ := id h
  obtain ⟨⟨o, w, -, t6⟩, ⟨mk, -, -, ⟨P2, tk⟩, -⟩, ⟨n0', c, c1, c2, c3⟩, -⟩ := id cv
  have s := c3.1
  have hM := w.1
  have hT := w.2.2.2.2.2.1
  have h5 := hT.z.2
  have hk : 1300 * j < 2147470000 := by omega
  have iw : ∀ M0 : Gm, sh_X12_isIn x3 0 1 M0 = some (bI (vl x3 2)) := fun M0 => m_isW (m := 1) (by omega)
  by_cases v1 : vl x1 (tz (M.1 325))
  · by_cases v3 : vl x3 2
    · have wy : sh_X11_needWhat x3 1 M = some (.inl ()) := c_what_y (m := 1) (by omega) v3
      obtain ⟨z, hz, e1⟩ := id v1
      obtain ⟨m, hm, e3⟩ := id v3
      subst e1 e3
      have hm' : m = 0 ∨ m = 1 := by omega
      rcases hm' with e | e
      · subst e
        by_cases v2 : (1 : Int32).toInt ≤ x2.toInt ∧ x2.toInt ≤ (200 : Int32).toInt
        · obtain ⟨n, e2, -, hn⟩ := in_n (a := 1) (b := 200) v2
          subst e2
          obtain ⟨M1, b1, b2⟩ := c_peak w s tk hz hn hk
          refine q_run (M1 := M1) (v := pkR (M.1 325) (M.1 324) z n) h cv ?_ b2 (fun M0 r _ => ?_)
          · unfold sh_L_bears L_bears_F sh_X11_bears X11_bears_F X11_bears_J24 X11_bears_J66
            rw [o_O hM, bs, c_needZone_y w o v1, bs, Sum.elim_inl, wy, bs, Sum.elim_inl, if_pos (by decide), c_min_y v2, bs, Sum.elim_inl, if_pos (by decide), o_fs hM o, bs, o_mem hM o, bs, mm_now hM mk, bs, b1, bs, bs, Sum.elim_inl, st345_0 (w.ft b2).1, bs]
          · have r1 := r.z (x := 0)
            obtain ⟨hM0, -, -, -, eT, eN⟩ := id r1
            obtain ⟨M3, d1, d2, d5⟩ := m_peak r1 hz hn hk
            refine ⟨M3, ?_, (Rq.z M0 0).trans d2, by rw [d5, sI_own, ud_at]⟩
            unfold sh_X12_bears X12_bears_F X12_bears_J42 X12_bears_J73
            rw [m_O r.1, bs, m_P r.1, bs, m_isZone hM0 hT eT, bs, bI_t v1, if_neg (by decide), iw, bs, bI_t v3, if_neg (by decide), if_pos (by decide), m_isIn, bs, bI_t v2, if_neg (by decide), if_pos (by decide), d1, bs]
        · refine q_ref (e := 2) (q := 14) h cv (by decide) (Or.inr rfl) ?_ (fun M1 r => ?_)
          · unfold sh_L_bears L_bears_F sh_X11_bears X11_bears_F X11_bears_J24
            rw [o_O hM, bs, c_needZone_y w o v1, bs, Sum.elim_inl, wy, bs, Sum.elim_inl, if_pos (by decide), c_min_n v2, bs, Sum.elim_inr]
            rfl
          · obtain ⟨hM0, -, -, -, eT, eN⟩ := r.z (x := 0)
            unfold sh_X12_bears X12_bears_F X12_bears_J42
            rw [m_O r.1, bs, m_P r.1, bs, m_isZone hM0 hT eT, bs, bI_t v1, if_neg (by decide), iw, bs, bI_t v3, if_neg (by decide), if_pos (by decide), m_isIn, bs, bI_f v2, if_pos rfl, m_fail hM0, bs]
      · subst e
        by_cases v2 : (1 : Int32).toInt ≤ x2.toInt ∧ x2.toInt ≤ (60 : Int32).toInt
        · obtain ⟨n, e2, -, hn⟩ := in_n (a := 1) (b := 60) v2
          subst e2
          obtain ⟨M1, b1, b2⟩ := c_greatestLoad w s tk hz (show n ≤ 200 by omega) hk
          refine q_run (M1 := M1) (v := if sb (M.1 324) z = true then -1 else brR (M.1 325) (M.1 324) z n 100) h cv ?_ b2 (fun M0 r _ => ?_)
          · unfold sh_L_bears L_bears_F sh_X11_bears X11_bears_F X11_bears_J24 X11_bears_J66
            rw [o_O hM, bs, c_needZone_y w o v1, bs, Sum.elim_inl, wy, bs, Sum.elim_inl, if_neg (by decide), c_min_y v2, bs, Sum.elim_inl, if_neg (by decide), o_fs hM o, bs, o_mem hM o, bs, mm_now hM mk, bs, b1, bs, bs, Sum.elim_inl, st345_0 (w.ft b2).1, bs]
          · have r1 := r.z (x := 0)
            obtain ⟨hM0, -, -, -, eT, eN⟩ := id r1
            obtain ⟨M3, d1, d2, d5⟩ := m_borne r1 hz (show n ≤ 200 by omega) hk
            refine ⟨M3, ?_, (Rq.z M0 0).trans d2, by rw [d5, sI_own, ud_at]⟩
            unfold sh_X12_bears X12_bears_F X12_bears_J42 X12_bears_J73
            rw [m_O r.1, bs, m_P r.1, bs, m_isZone hM0 hT eT, bs, bI_t v1, if_neg (by decide), iw, bs, bI_t v3, if_neg (by decide), if_neg (by decide), m_isIn, bs, bI_t v2, if_neg (by decide), if_neg (by decide), d1, bs]
        · refine q_ref (e := 2) (q := 14) h cv (by decide) (Or.inr rfl) ?_ (fun M1 r => ?_)
          · unfold sh_L_bears L_bears_F sh_X11_bears X11_bears_F X11_bears_J24
            rw [o_O hM, bs, c_needZone_y w o v1, bs, Sum.elim_inl, wy, bs, Sum.elim_inl, if_neg (by decide), c_min_n v2, bs, Sum.elim_inr]
            rfl
          · obtain ⟨hM0, -, -, -, eT, eN⟩ := r.z (x := 0)
            unfold sh_X12_bears X12_bears_F X12_bears_J42
            rw [m_O r.1, bs, m_P r.1, bs, m_isZone hM0 hT eT, bs, bI_t v1, if_neg (by decide), iw, bs, bI_t v3, if_neg (by decide), if_neg (by decide), m_isIn, bs, bI_f v2, if_pos rfl, m_fail hM0, bs]
    · have wy : sh_X11_needWhat x3 1 M = some (.inr (1, nwM M (13, 0))) := c_what_n (m := 1) (by omega) v3
      refine q_ref (e := 1) (q := 13) h cv (by decide) (Or.inl rfl) ?_ (fun M1 r => ?_)
      · unfold sh_L_bears L_bears_F sh_X11_bears X11_bears_F
        rw [o_O hM, bs, c_needZone_y w o v1, bs, Sum.elim_inl, wy, bs, Sum.elim_inr]
        rfl
      · obtain ⟨hM0, -, -, -, eT, eN⟩ := r.z (x := 0)
        unfold sh_X12_bears X12_bears_F X12_bears_J22
        rw [m_O r.1, bs, m_P r.1, bs, m_isZone hM0 hT eT, bs, bI_t v1, if_neg (by decide), iw, bs, bI_f v3, if_pos rfl, m_fail hM0, bs]
  · refine q_ref (e := 1) (q := 13) h cv (by decide) (Or.inl rfl) ?_ (fun M1 r => ?_)
    · unfold sh_L_bears L_bears_F sh_X11_bears X11_bears_F
      rw [o_O hM, bs, c_needZone_n w o v1, bs, Sum.elim_inr]
      rfl
    · obtain ⟨hM0, -, -, -, eT, eN⟩ := r.z (x := 0)
      unfold sh_X12_bears X12_bears_F X12_bears_J22
      rw [m_O r.1, bs, m_P r.1, bs, m_isZone hM0 hT eT, bs, bI_f v1, if_pos rfl, m_fail hM0, bs]
theorem a_flips {j : Nat} (h : Inv M j) (hj : j ≤ 512) (x1 x2 : Int32) : Ans (sh_L_flips 64 x1 x2 345) (sh_X12_flips 319 x1 x2) M j := by
  obtain ⟨⟨P, D, cv⟩, rm⟩ := id h
  obtain ⟨⟨o, w, -, t6⟩, ⟨mk, -, -, ⟨P2, tk⟩, -⟩, ⟨n0', c, c1, c2, c3⟩, -⟩ := id cv
  have s := c3.1
  have hM := w.1
  have hT := w.2.2.2.2.2.1
  have hk : 1300 * j < 2147470000 := by omega
  by_cases v1 : vl x1 (tt (M.1 325))
  · by_cases v2 : (1 : Int32).toInt ≤ x2.toInt ∧ x2.toInt ≤ (200 : Int32).toInt
    · obtain ⟨z, hz, e1⟩ := id v1
      obtain ⟨n, e2, -, hn⟩ := in_n (a := 1) (b := 200) v2
      subst e1 e2
      obtain ⟨M1, b1, b2⟩ := c_flips w s tk hz hn hk
      refine q_run (M1 := M1) (v := flR (M.1 325) (M.1 324) z n) h cv ?_ b2 (fun M0 r _ => ?_)
      · unfold sh_L_flips L_flips_F sh_X11_flips X11_flips_F
        rw [o_O hM, bs, c_needTrip_y w o v1, bs, Sum.elim_inl, c_min_y v2, bs, Sum.elim_inl, o_fs hM o, bs, o_mem hM o, bs, mm_now hM mk, bs, b1, bs, bs, Sum.elim_inl, st345_0 (w.ft b2).1, bs]
      · have r1 := r.z (x := 0)
        obtain ⟨hM0, -, -, -, eT, eN⟩ := id r1
        have t0 : Tr (sI M0 319 4 0) (wR (sI M0 319 4 0) 332 (mixR 305 ((sI M0 319 4 0).1 324) ((sI M0 319 4 0).1 332))) (M.1 324) := Tr.begin eN
        have e0 : (wR (sI M0 319 4 0) 332 (mixR 305 ((sI M0 319 4 0).1 324) ((sI M0 319 4 0).1 332))).1 324 = M.1 324 := (wR_ne _ _ (by decide)).trans eN
        have tr := m_tries hM0
        generalize wR (sI M0 319 4 0) 332 (mixR 305 ((sI M0 319 4 0).1 324) ((sI M0 319 4 0).1 332)) = M3 at t0 e0 tr
        obtain ⟨⟨v, M4⟩, d1, d2, d3⟩ := m_flipsL r1 t0 e0 hz hn hk
        replace d2 : v = _ := d2
        subst d2
        replace d3 : Tr (sI M0 319 4 0) M4 (M.1 324) := d3
        obtain ⟨M5, g1, g2, g3⟩ := d3.back hM0 eN
        refine ⟨M5, ?_, (Rq.z M0 0).trans g2, by rw [g3, d3.2.2.1 4 (by decide) (by decide), sI_own, ud_at]⟩
        unfold sh_X12_flips X12_flips_F
        rw [m_O r.1, bs, m_P r.1, bs, m_isTrip hM0 hT eT, bs, bI_t v1, if_neg (by decide), m_isIn, bs, bI_t v2, if_neg (by decide), tr, bs, d1, bs, g1, bs]
    · refine q_ref (e := 2) (q := 14) h cv (by decide) (Or.inr rfl) ?_ (fun M1 r => ?_)
      · unfold sh_L_flips L_flips_F sh_X11_flips X11_flips_F
        rw [o_O hM, bs, c_needTrip_y w o v1, bs, Sum.elim_inl, c_min_n v2, bs, Sum.elim_inr]
        rfl
      · obtain ⟨hM0, -, -, -, eT, eN⟩ := r.z (x := 0)
        unfold sh_X12_flips X12_flips_F
        rw [m_O r.1, bs, m_P r.1, bs, m_isTrip hM0 hT eT, bs, bI_t v1, if_neg (by decide), m_isIn, bs, bI_f v2, if_pos rfl, m_fail hM0, bs]
  · refine q_ref (e := 1) (q := 13) h cv (by decide) (Or.inl rfl) ?_ (fun M1 r => ?_)
    · unfold sh_L_flips L_flips_F sh_X11_flips X11_flips_F
      rw [o_O hM, bs, c_needTrip_n w o v1, bs, Sum.elim_inr]
      rfl
    · obtain ⟨hM0, -, -, -, eT, eN⟩ := r.z (x := 0)
      unfold sh_X12_flips X12_flips_F
      rw [m_O r.1, bs, m_P r.1, bs, m_isTrip hM0 hT eT, bs, bI_f v1, if_pos rfl, m_fail hM0, bs]
theorem a_fits {j : Nat} (h : Inv M j) (hj : j ≤ 512) (x1 x2 : Int32) : Ans (sh_L_fits 64 x1 x2 345) (sh_X12_fits 319 x1 x2) M j := by
  obtain ⟨⟨P, D, cv⟩, rm⟩ := id h
  obtain ⟨⟨o, w, -, t6⟩, ⟨mk, -, -, ⟨P2, tk⟩, -⟩, ⟨n0', c, c1, c2, c3⟩, -⟩ := id cv
  obtain ⟨s, -, nv, no, -⟩ := id c3
  have hM := w.1
  have hT := w.2.2.2.2.2.1
  have hk : 1300 * j < 2147470000 := by omega
  have iw : ∀ M0 : Gm, sh_X12_isIn x2 0 1 M0 = some (bI (vl x2 2)) := fun M0 => m_isW (m := 1) (by omega)
  by_cases v1 : vl x1 (tz (M.1 325))
  · by_cases v2 : vl x2 2
    · have wy : sh_X11_needWhat x2 1 M = some (.inl ()) := c_what_y (m := 1) (by omega) v2
      obtain ⟨z, hz, e1⟩ := id v1
      subst e1
      obtain ⟨M1, b1, b2, b3, b4, -⟩ := c_tryLeaks w s tk mk nv no (z := z) (m := 0) hz (by omega) hk
      replace b1 : sh_X3_tryLeaks 302 257 (Int32.ofNat z) 0 M = some M1 := b1
      have w1 := w.ft b2
      have o1 : ObK M1 P D := by
        exact o.ext (fun a k h => b2.2.1 a k (by omega))
      generalize hp : fitP c (M.1 334) (M.1 335) (M.1 336) (M.1 325) (M.1 324) z = p at b3 b4
      refine q_run (M1 := M1) (v := if x2 = 0 then Int32.ofNat (fL p 50).length else hdI (fL p 50)) h cv ?_ b2 (fun M0 r r9 => ?_)
      · unfold sh_L_fits L_fits_F sh_X11_fits X11_fits_F X11_fits_J44
        rw [o_O hM, bs, c_needZone_y w o v1, bs, Sum.elim_inl, wy, bs, Sum.elim_inl, o_fs hM o, bs, o_mem hM o, bs, b1, bs, o_fs w1.1 o1, bs, bs, f_I w1.1, f_I w1.1, bs, bs, b3, b4]
        split <;> (rw [bs, Sum.elim_inl, st345_0 w1.1]; rfl)
      · have r1 := r.z (x := 0)
        obtain ⟨hM0, -, -, -, eT, eN⟩ := id r1
        have ne : ∀ b, b ≠ 319 → (sI M0 319 4 0).1 b = M0.1 b := fun b hb => sI_ne _ _ _ hb
        obtain ⟨M3, d1, d2, d5, d6⟩ := m_tellFits (c := c) (nz := M.1 334) (nm := M.1 335) (nh := M.1 336) r1 hk (by rw [sI_own, ud_ne _ _ (by decide), r9.2 28 (by decide)]; exact c2) nv.2.1 ((ne 334 (by decide)).trans (r9.1 334 (by decide))) ((ne 335 (by decide)).trans (r9.1 335 (by decide))) ((ne 336 (by decide)).trans (r9.1 336 (by decide))) no hz
        rw [hp] at d6
        have hM3 : Ky M3 := hM0.eq d2.1
        refine ⟨M3, ?_, (Rq.z M0 0).trans d2, by rw [d5, sI_own, ud_at]⟩
        unfold sh_X12_fits X12_fits_F X12_fits_J83
        rw [m_O r.1, bs, m_P r.1, bs, m_isZone hM0 hT eT, bs, bI_t v1, if_neg (by decide), iw, bs, bI_t v2, if_neg (by decide), d1, bs, m_fitsL hM3 (fun v a b => (d6 v a b).1) x2, bs]
        split <;> rfl
    · have wy : sh_X11_needWhat x2 1 M = some (.inr (1, nwM M (13, 0))) := c_what_n (m := 1) (by omega) v2
      refine q_ref (e := 1) (q := 13) h cv (by decide) (Or.inl rfl) ?_ (fun M1 r => ?_)
      · unfold sh_L_fits L_fits_F sh_X11_fits X11_fits_F
        rw [o_O hM, bs, c_needZone_y w o v1, bs, Sum.elim_inl, wy, bs, Sum.elim_inr]
        rfl
      · obtain ⟨hM0, -, -, -, eT, eN⟩ := r.z (x := 0)
        unfold sh_X12_fits X12_fits_F X12_fits_J22
        rw [m_O r.1, bs, m_P r.1, bs, m_isZone hM0 hT eT, bs, bI_t v1, if_neg (by decide), iw, bs, bI_f v2, if_pos rfl, m_fail hM0, bs]
  · refine q_ref (e := 1) (q := 13) h cv (by decide) (Or.inl rfl) ?_ (fun M1 r => ?_)
    · unfold sh_L_fits L_fits_F sh_X11_fits X11_fits_F
      rw [o_O hM, bs, c_needZone_n w o v1, bs, Sum.elim_inr]
      rfl
    · obtain ⟨hM0, -, -, -, eT, eN⟩ := r.z (x := 0)
      unfold sh_X12_fits X12_fits_F X12_fits_J22
      rw [m_O r.1, bs, m_P r.1, bs, m_isZone hM0 hT eT, bs, bI_f v1, if_pos rfl, m_fail hM0, bs]
theorem a_look {j : Nat} (h : Inv M j) (hj : j ≤ 512) (x1 x2 : Int32) : Ans (sh_L_look 64 x1 x2 345) (sh_X12_look 319 x1 x2) M j := by
  obtain ⟨⟨P, D, cv⟩, rm⟩ := id h
  obtain ⟨⟨o, w, -, t6⟩, ⟨mk, -, -, ⟨P2, tk⟩, -⟩, ⟨n0', c, c1, c2, c3⟩, -⟩ := id cv
  obtain ⟨s, -, nv, no, -⟩ := id c3
  have hM := w.1
  have hT := w.2.2.2.2.2.1
  have hk : 1300 * j < 2147470000 := by omega
  have iw : ∀ M0 : Gm, sh_X12_isIn x2 0 1 M0 = some (bI (vl x2 2)) := fun M0 => m_isW (m := 1) (by omega)
  by_cases v1 : vl x1 (tz (M.1 325))
  · by_cases v2 : vl x2 2
    · have wy : sh_X11_needWhat x2 1 M = some (.inl ()) := c_what_y (m := 1) (by omega) v2
      obtain ⟨z, hz, e1⟩ := id v1
      subst e1
      obtain ⟨M1, b1, b2, b3, b4, b5⟩ := c_tryLeaks w s tk mk nv no (z := z) (m := 20) hz (by omega) hk
      replace b1 : sh_X3_tryLeaks 302 257 (Int32.ofNat z) 20 M = some M1 := b1
      have w1 := w.ft b2
      have oft : ∀ M', Ft M M' → ObK M' P D := fun M' b2 => by
        exact o.ext (fun a k h => b2.2.1 a k (by omega))
      generalize hp : fitP c (M.1 334) (M.1 335) (M.1 336) (M.1 325) (M.1 324) z = p at b3 b4 b5
      obtain ⟨M4, f1, f2, f3, f4⟩ := c_findLook (l := fL p 50) (h := fun v i => mRun (leaked (M.1 325) z v) (M.1 324) i z) w1.1 w1.2.2.1 (fL_len p 50) b3 (fun f i a b => b5 rfl f i a b)
      have g4 := b2.trans f2
      have w4 := w.ft g4
      replace f3 : M4.1 302 3 = (loR (lkU p (fun v i => mRun (leaked (M.1 325) z v) (M.1 324) i z)) 21).1 := f3
      replace f4 : M4.1 302 4 = Int32.ofNat (loR (lkU p (fun v i => mRun (leaked (M.1 325) z v) (M.1 324) i z)) 21).2 := f4
      generalize hU : loR (lkU p (fun v i => mRun (leaked (M.1 325) z v) (M.1 324) i z)) 21 = U at f3 f4
      refine q_run (M1 := M4) (v := if x2 = 0 then U.1 else Int32.ofNat U.2) h cv ?_ g4 (fun M0 r r9 => ?_)
      · unfold sh_L_look L_look_F sh_X11_look X11_look_F X11_look_J52
        rw [o_O hM, bs, c_needZone_y w o v1, bs, Sum.elim_inl, wy, bs, Sum.elim_inl, o_fs hM o, bs, o_mem hM o, bs, b1, bs, o_fs w1.1 (oft _ b2), bs, f1, bs, o_fs w4.1 (oft _ g4), bs, bs, f_I w4.1, f_I w4.1, bs, bs, f3, f4]
        split <;> (rw [bs, Sum.elim_inl, st345_0 w4.1]; rfl)
      · have r1 := r.z (x := 0)
        obtain ⟨hM0, -, -, -, eT, eN⟩ := id r1
        have ne : ∀ b, b ≠ 319 → (sI M0 319 4 0).1 b = M0.1 b := fun b hb => sI_ne _ _ _ hb
        obtain ⟨M3, d1, d2, d5, d6⟩ := m_tellFits (c := c) (nz := M.1 334) (nm := M.1 335) (nh := M.1 336) r1 hk (by rw [sI_own, ud_ne _ _ (by decide), r9.2 28 (by decide)]; exact c2) nv.2.1 ((ne 334 (by decide)).trans (r9.1 334 (by decide))) ((ne 335 (by decide)).trans (r9.1 335 (by decide))) ((ne 336 (by decide)).trans (r9.1 336 (by decide))) no hz
        rw [hp] at d6
        have hM3 : Ky M3 := hM0.eq d2.1
        have lo := m_lookL (p := p) (h := fun v i => mRun (leaked (M.1 325) z v) (M.1 324) i z) hM3 (fun v a b => (d6 v a b).1) (fun v n a b e => (d6 v a b).2 n e) x2
        rw [hU] at lo
        refine ⟨M3, ?_, (Rq.z M0 0).trans d2, by rw [d5, sI_own, ud_at]⟩
        unfold sh_X12_look X12_look_F X12_look_J89
        rw [m_O r.1, bs, m_P r.1, bs, m_isZone hM0 hT eT, bs, bI_t v1, if_neg (by decide), iw, bs, bI_t v2, if_neg (by decide), d1, bs, lo, bs]
        split <;> rfl
    · have wy : sh_X11_needWhat x2 1 M = some (.inr (1, nwM M (13, 0))) := c_what_n (m := 1) (by omega) v2
      refine q_ref (e := 1) (q := 13) h cv (by decide) (Or.inl rfl) ?_ (fun M1 r => ?_)
      · unfold sh_L_look L_look_F sh_X11_look X11_look_F
        rw [o_O hM, bs, c_needZone_y w o v1, bs, Sum.elim_inl, wy, bs, Sum.elim_inr]
        rfl
      · obtain ⟨hM0, -, -, -, eT, eN⟩ := r.z (x := 0)
        unfold sh_X12_look X12_look_F X12_look_J22
        rw [m_O r.1, bs, m_P r.1, bs, m_isZone hM0 hT eT, bs, bI_t v1, if_neg (by decide), iw, bs, bI_f v2, if_pos rfl, m_fail hM0, bs]
  · refine q_ref (e := 1) (q := 13) h cv (by decide) (Or.inl rfl) ?_ (fun M1 r => ?_)
    · unfold sh_L_look L_look_F sh_X11_look X11_look_F
      rw [o_O hM, bs, c_needZone_n w o v1, bs, Sum.elim_inr]
      rfl
    · obtain ⟨hM0, -, -, -, eT, eN⟩ := r.z (x := 0)
      unfold sh_X12_look X12_look_F X12_look_J22
      rw [m_O r.1, bs, m_P r.1, bs, m_isZone hM0 hT eT, bs, bI_f v1, if_pos rfl, m_fail hM0, bs]
theorem a_years {j : Nat} (h : Inv M j) (hj : j ≤ 512) (x1 x2 x3 : Int32) : Ans (sh_L_years 64 x1 x2 x3 345) (sh_X12_years 319 x1 x2 x3) M j := by
  obtain ⟨⟨P, D, cv⟩, rm⟩ := id h
  obtain ⟨⟨o, w, -, t6⟩, ⟨mk, -, -, ⟨P2, tk⟩, -⟩, ⟨n0', c, c1, c2, c3⟩, -⟩ := id cv
  have s := c3.1
  have hM := w.1
  have hT := w.2.2.2.2.2.1
  have hk : 1300 * j < 2147470000 := by omega
  have iw : ∀ M0 : Gm, sh_X12_isIn x3 0 2 M0 = some (bI (vl x3 3)) := fun M0 => m_isW (m := 2) (by omega)
  by_cases v3 : vl x3 3
  · have wy : sh_X11_needWhat x3 2 M = some (.inl ()) := c_what_y (m := 2) (by omega) v3
    by_cases v2 : (0 : Int32).toInt ≤ x2.toInt ∧ x2.toInt ≤ (60 : Int32).toInt
    · obtain ⟨n, e2, -, hn⟩ := in_n (a := 0) (b := 60) v2
      obtain ⟨m, hm, e3⟩ := id v3
      subst e2 e3
      obtain ⟨M1, b1, b2, b3⟩ := c_years w s tk x1 hn hk
      have w1 := w.ft b2
      have s1 := s.ft b2 (by decide)
      have mk1 := mk.ft b2
      have o1 : ObK M1 P D := by
        exact o.ext (fun a k h => b2.2.1 a k (by omega))
      have e19 : M1.1 304 19 = (yrR (M.1 325) (M.1 324) x1 n).2.1 144 := b3.2.2.1.1.2.2.2.2
      have e19' : M1.1 263 19 = M.1 324 144 := s1.2.2.1.1.2.2.2.2
      refine q_run (M1 := M1) (v := if Int32.ofNat m = 0 then (yrR (M.1 325) (M.1 324) x1 n).2.2 else if Int32.ofNat m = 1 then mkB (sb (yrR (M.1 325) (M.1 324) x1 n).2.1) (tz (M.1 325)) else (yrR (M.1 325) (M.1 324) x1 n).2.1 144 - M.1 324 144) h cv ?_ b2 (fun M0 r _ => ?_)
      · unfold sh_L_years L_years_F sh_X11_years X11_years_F
        rw [o_O hM, bs, wy, bs, Sum.elim_inl, c_min_y v2, bs, Sum.elim_inl, o_fs hM o, bs, o_mem hM o, bs, mm_now hM mk, bs, b1, bs, o_fs w1.1 o1, bs, bs, f_trial w1.1 w1.2.2.1, bs, bs, c_shutBits w1 b3, bs, s_I b3.1, bs, o_mem w1.1 o1, bs, mm_now w1.1 mk1, bs, s_I s1.1, bs, e19, e19']
        split
        · rw [bs, Sum.elim_inl, st345_0 w1.1]; rfl
        · split <;> (rw [bs, Sum.elim_inl, st345_0 w1.1]; rfl)
      · have r1 := r.z (x := 0)
        obtain ⟨hM0, -, -, -, eT, eN⟩ := id r1
        have t0 : Tr (sI M0 319 4 0) (wR (sI M0 319 4 0) 332 (mixR 305 ((sI M0 319 4 0).1 324) ((sI M0 319 4 0).1 332))) (M.1 324) := Tr.begin eN
        have e0 : (wR (sI M0 319 4 0) 332 (mixR 305 ((sI M0 319 4 0).1 324) ((sI M0 319 4 0).1 332))).1 324 = M.1 324 := (wR_ne _ _ (by decide)).trans eN
        have tr := m_tries hM0
        generalize wR (sI M0 319 4 0) 332 (mixR 305 ((sI M0 319 4 0).1 324) ((sI M0 319 4 0).1 332)) = M3 at t0 e0 tr
        have hM3 := t0.ky hM0
        obtain ⟨⟨v, M4⟩, d1, d2, d3, d4⟩ := m_yearsL r1 hk (t0.set (k := 34) x1 (Or.inr rfl)) ((sI_ne _ _ _ (by decide)).trans e0) x1 (Int32.ofNat m) (by rw [sI_own, ud_at]) hn
        replace d2 : v = _ := d2
        subst d2
        replace d3 : Tr (sI M0 319 4 0) M4 (M.1 324) := d3
        replace d4 : M4.1 324 = (yrR (M.1 325) (M.1 324) x1 n).2.1 := d4
        have hM4 := d3.ky hM0
        obtain ⟨M5, g1, g2, g3⟩ := d3.back hM0 eN
        have e332 : M4.1 332 144 = M.1 324 144 := by rw [d3.2.1, mixR_lt (by omega)]
        have l332 : ldA M4 0 332 144 = some (M4.1 332 144) := ld332 (j := 144) hM4 (by decide)
        refine ⟨M5, ?_, (Rq.z M0 0).trans g2, by rw [g3, d3.2.2.1 4 (by decide) (by decide), sI_own, ud_at]⟩
        unfold sh_X12_years X12_years_F X12_years_J179
        rw [m_O r.1, bs, m_P r.1, bs, iw, bs, bI_t v3, if_neg (by decide), m_isIn, bs, bI_t v2, if_neg (by decide), tr, bs, m_P hM3, bs, d1, bs]
        simp only [g1, bs, m_shutSet hM4 hT (d3.told.trans eT) d4 b3.2.2.2.1, m_now hM4, ld324_144 hM4, m_then hM4, l332, d4, e332]
        split
        · rfl
        · split <;> rfl
    · refine q_ref (e := 2) (q := 14) h cv (by decide) (Or.inr rfl) ?_ (fun M1 r => ?_)
      · unfold sh_L_years L_years_F sh_X11_years X11_years_F
        rw [o_O hM, bs, wy, bs, Sum.elim_inl, c_min_n v2, bs, Sum.elim_inr]
        rfl
      · obtain ⟨hM0, -, -, -, eT, eN⟩ := r.z (x := 0)
        unfold sh_X12_years X12_years_F
        rw [m_O r.1, bs, m_P r.1, bs, iw, bs, bI_t v3, if_neg (by decide), m_isIn, bs, bI_f v2, if_pos rfl, m_fail hM0, bs]
  · have wy : sh_X11_needWhat x3 2 M = some (.inr (1, nwM M (13, 0))) := c_what_n (m := 2) (by omega) v3
    refine q_ref (e := 1) (q := 13) h cv (by decide) (Or.inl rfl) ?_ (fun M1 r => ?_)
    · unfold sh_L_years L_years_F sh_X11_years X11_years_F
      rw [o_O hM, bs, wy, bs, Sum.elim_inr]
      rfl
    · obtain ⟨hM0, -, -, -, eT, eN⟩ := r.z (x := 0)
      unfold sh_X12_years X12_years_F
      rw [m_O r.1, bs, m_P r.1, bs, iw, bs, bI_f v3, if_pos rfl, m_fail hM0, bs]
end
