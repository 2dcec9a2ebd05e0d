/-! ===== CLAUSE: one CLAUSE, and all of them ===== -/
section
variable {C R C' R' C2 R2 : Gm} {b : Nat → Int32} {n e D : Nat}
/-- a FAULT ahead of a CLAUSE -/
theorem Kz.bad (pr : Pre C R b n D e) {k : Int32} (hk : k ≠ 0) : ∃ C' R', sh_X6_fail 66 k C = some C' ∧ sh_X12_wrong 319 k R = some R' ∧ Kz C R C' R' b n D e ∧ Ky R' ∧ R'.1 319 18 ≠ 0 := by
  obtain ⟨j, ja, c0, w, pk, hD, ds, dr, hg, h11⟩ := pr
  unfold POk at hD
  have hT := dr.1
  obtain ⟨m, hm, em⟩ := dr.m
  have cD6 : C.1 D 6 = Int32.ofNat (tt (R.1 327)) := dr.2.1.2.1.trans hT.t.1
  obtain ⟨C', R', g1, g2, g3, g4, g5⟩ := (Si.start (a := D) j (by omega) (by omega)).fail ja hk
  have rowD := g3.2.1.2.2.1
  refine ⟨C', R', g1, g2, ⟨⟨by rw [g3.2.1.1], fun i k _ => by rw [g3.2.1.1], fun i i1 i2 => g3.own i1 (by omega), g3.2.1.2.1⟩, ⟨g3.2.2.1.1, g3.2.2.1.2.2.2.2.1, g3.2.2.1.2.2.2.2.2⟩, ⟨g3.pk pk, by rw [g3.2.1.1]; exact ds⟩, Or.inr ⟨g5, e, g4⟩, fun q => absurd q g5, ?_, tt (R.1 327), m, hT.t.2, hm, ?_, ?_⟩, g3.1.2.1, by rw [g4.2.2.1]; exact g5⟩
  · rw [g3.2.2.1.2.2.2.1]; exact hg
  · rw [rowD]; exact cD6
  · rw [rowD]; exact em
theorem j53_bad (h : Ky R) (r : R.1 319 18 ≠ 0) {x : Int32} (hx : x ≠ 5) : X12_readClause_J53 319 x R = some R := by
  unfold X12_readClause_J53 X12_readClause_J70
  rw [if_neg hx, m_I h, bs, if_neg r]
theorem j19_ok (h : Ky R) (r : R.1 319 18 = 0) {k m c : Nat} (hk : k < 5) (ec : R.1 327 (163 + k) = Int32.ofNat c) (hc : c < 2147483648) (mo : sh_X12_mostOf (Int32.ofNat k) R = some (Int32.ofNat m)) (hm : m < 2147483648) : X12_readClause_J19 319 (Int32.ofNat k) R = if c = m then (sh_X12_wrong 319 2 R).bind fun q9 => X12_readClause_J53 319 (Int32.ofNat k) q9 else X12_readClause_J70 319 (Int32.ofNat k) R := by
  unfold X12_readClause_J19
  rw [m_I h, bs, if_pos r, if_neg (fun q => by have := (le_n (a := 5) (by omega) (by omega)).mp q; omega), m_readTold h, bs, ld327_c h hk, bs, ec, mo, bs]
  by_cases c1 : c = m
  · rw [if_pos c1, if_pos (by rw [c1])]
  · rw [if_neg c1, if_neg (fun q => c1 ((eq_n hc hm).mp q))]
    unfold X12_readClause_J53
    rw [if_neg (fun q => by have := (eq_n (a := k) (b := 5) (by omega) (by omega)).mp q; omega)]
/-- a CLAUSE -/
theorem k_clause (pr : Pre C R b n D e) : ∃ C' R', sh_X6_readClause 66 D C = some C' ∧ sh_X12_readClause 319 R = some R' ∧ Kz C R C' R' b n D e := by
  have pr' := id pr
  obtain ⟨j, ja, c0, w, pk, hD, ds, dr, hg, h11⟩ := pr'
  have hT := dr.1
  have kR := j.2.1
  have kC := j.1.1
  have r18 : R.1 319 18 = 0 := ja.2.2.1.trans c0
  have wW := fun s s1 s2 => j.isW ja.1 (s := s) s1 s2
  obtain ⟨r, r1, r2⟩ := j_which j ja (i := 0) (by decide)
  replace r1 : sh_X12_which 319 320 R = some r := r1
  have len : (wdN.getD 0 []).length = 6 := rfl
  rw [len] at r2
  have ck : sh_X6_readClause 66 D C = if bI (isWd b n e 3) = 0 then (if bI (isWd b n e 7) = 0 then (if bI (isWd b n e 12) = 0 then (if bI (isWd b n e 16) = 0 then (if bI (isWd b n e 17) = 0 then (if bI (isWd b n e 18) = 0 then (sh_X6_fail 66 1 C).bind fun q => some q else (sh_X6_readForeseen 66 D C).bind fun q => some q) else (sh_X6_readWall 66 D C).bind fun q => some q) else (sh_X6_readBind 66 D C).bind fun q => some q) else (sh_X6_readDevice 66 D C).bind fun q => some q) else (sh_X6_readTrip 66 D C).bind fun q => some q) else (sh_X6_readZone 66 D C).bind fun q => some q := by
    unfold sh_X6_readClause X6_readClause_F X6_readClause_J107
    rw [rd_O kC, bs, wW 3 (by omega) (by omega), bs, wW 7 (by omega) (by omega), bs, wW 12 (by omega) (by omega), bs, wW 16 (by omega) (by omega), bs, wW 17 (by omega) (by omega), bs, wW 18 (by omega) (by omega), bs]
  have rk : sh_X12_readClause 319 R = if r = -1 then (sh_X12_wrong 319 1 R).bind fun q5 => X12_readClause_J19 319 r q5 else X12_readClause_J19 319 r R := by
    unfold sh_X12_readClause X12_readClause_F
    rw [m_O kR, bs, m_words kR, bs, r1, bs]
  rcases r2 with ⟨c, -⟩ | ⟨-, ⟨er, q⟩ | ⟨k, hk, er, q, f⟩⟩
  · exact absurd c0 c
  · obtain ⟨C', R', g1, g2, g3, g4, g5⟩ := Kz.bad pr (k := 1) (by decide)
    refine ⟨C', R', ?_, ?_, g3⟩
    · rw [ck, bI_f (p := isWd b n e 3) (q 0 (by omega)), if_pos rfl, bI_f (p := isWd b n e 7) (q 1 (by omega)), if_pos rfl, bI_f (p := isWd b n e 12) (q 2 (by omega)), if_pos rfl, bI_f (p := isWd b n e 16) (q 3 (by omega)), if_pos rfl, bI_f (p := isWd b n e 17) (q 4 (by omega)), if_pos rfl, bI_f (p := isWd b n e 18) (q 5 (by omega)), if_pos rfl, g1, bs]
    · rw [rk, if_pos er, g2, bs]
      unfold X12_readClause_J19
      rw [m_I g4, bs, if_neg g5, j53_bad g4 g5 (by rw [er]; decide)]
  · have rk2 : sh_X12_readClause 319 R = X12_readClause_J19 319 (Int32.ofNat k) R := by rw [rk, if_neg (by rw [er]; exact ne_m1' (by omega)), er]
    have full : ∀ k', k' < 5 → X12_readClause_J19 319 (Int32.ofNat k') R = ((sh_X12_wrong 319 2 R).bind fun q9 => X12_readClause_J53 319 (Int32.ofNat k') q9) → ∃ C' R', sh_X6_fail 66 2 C = some C' ∧ X12_readClause_J19 319 (Int32.ofNat k') R = some R' ∧ Kz C R C' R' b n D e := fun k' h1 h2 => by
      obtain ⟨C', R', g1, g2, g3, g4, g5⟩ := Kz.bad pr (k := 2) (by decide)
      exact ⟨C', R', g1, by rw [h2, g2, bs, j53_bad g4 g5 (fun q => by have := (eq_n (a := k') (b := 5) (by omega) (by omega)).mp q; omega)], g3⟩
    have w0 := fun u hu => f u hu
    rw [rk2, ck]
    have : k = 0 ∨ k = 1 ∨ k = 2 ∨ k = 3 ∨ k = 4 ∨ k = 5 := by omega
    rcases this with v | v | v | v | v | v
    · subst v
      rw [bI_t (p := isWd b n e 3) q, if_neg (by decide)]
      have jj := j19_ok kR r18 (k := 0) (m := 5) (c := tz (R.1 327)) (by omega) hT.z.1 (by have := hT.z.2; omega) rfl (by omega)
      by_cases c : tz (R.1 327) = 5
      · rw [if_pos c] at jj
        obtain ⟨C', R', g1, g2, g3⟩ := full 0 (by omega) jj
        refine ⟨C', R', ?_, g2, g3⟩
        unfold sh_X6_readZone X6_readZone_F
        rw [rd_O kC, bs, pg_I pk, bs, if_neg (by rw [dr.2.1.1, hT.z.1, c]; decide), g1, bs, bs]
      · rw [if_neg c] at jj
        obtain ⟨C', R', g1, g2, g3⟩ := k_zone pr (by have := hT.z.2; omega)
        exact ⟨C', R', by rw [g1, bs], jj.trans g2, g3⟩
    · subst v
      rw [bI_f (p := isWd b n e 3) (f 0 (by omega)), if_pos rfl, bI_t (p := isWd b n e 7) q, if_neg (by decide)]
      have jj := j19_ok kR r18 (k := 1) (m := 10) (c := tt (R.1 327)) (by omega) hT.t.1 (by have := hT.t.2; omega) rfl (by omega)
      by_cases c : tt (R.1 327) = 10
      · rw [if_pos c] at jj
        obtain ⟨C', R', g1, g2, g3⟩ := full 1 (by omega) jj
        refine ⟨C', R', ?_, g2, g3⟩
        unfold sh_X6_readTrip X6_readTrip_F
        rw [rd_O kC, bs, pg_I pk, bs, if_neg (by rw [dr.2.1.2.1, hT.t.1, c]; decide), g1, bs, bs]
      · rw [if_neg c] at jj
        obtain ⟨C', R', g1, g2, g3⟩ := k_trip pr (by have := hT.t.2; omega)
        exact ⟨C', R', by rw [g1, bs], jj.trans g2, g3⟩
    · subst v
      rw [bI_f (p := isWd b n e 3) (f 0 (by omega)), if_pos rfl, bI_f (p := isWd b n e 7) (f 1 (by omega)), if_pos rfl, bI_t (p := isWd b n e 12) q, if_neg (by decide)]
      have jj := j19_ok kR r18 (k := 2) (m := 6) (c := td (R.1 327)) (by omega) hT.d.1 (by have := hT.d.2; omega) rfl (by omega)
      by_cases c : td (R.1 327) = 6
      · rw [if_pos c] at jj
        obtain ⟨C', R', g1, g2, g3⟩ := full 2 (by omega) jj
        refine ⟨C', R', ?_, g2, g3⟩
        unfold sh_X6_readDevice X6_readDevice_F
        rw [rd_O kC, bs, pg_I pk, bs, if_neg (by rw [dr.2.1.2.2.1, hT.d.1, c]; decide), g1, bs, bs]
      · rw [if_neg c] at jj
        obtain ⟨C', R', g1, g2, g3⟩ := k_device pr (by have := hT.d.2; omega)
        exact ⟨C', R', by rw [g1, bs], jj.trans g2, g3⟩
    · subst v
      rw [bI_f (p := isWd b n e 3) (f 0 (by omega)), if_pos rfl, bI_f (p := isWd b n e 7) (f 1 (by omega)), if_pos rfl, bI_f (p := isWd b n e 12) (f 2 (by omega)), if_pos rfl, bI_t (p := isWd b n e 16) q, if_neg (by decide)]
      obtain ⟨L, l⟩ := dr.2.2.2.2.2.1
      have l60 := l.1.2.2
      have jj := j19_ok kR r18 (k := 3) (m := 100000) (c := L.length) (by omega) l.1.2.1 (by omega) rfl (by omega)
      rw [if_neg (by omega)] at jj
      obtain ⟨C', R', g1, g2, g3⟩ := k_bind pr
      exact ⟨C', R', by rw [g1, bs], jj.trans g2, g3⟩
    · subst v
      rw [bI_f (p := isWd b n e 3) (f 0 (by omega)), if_pos rfl, bI_f (p := isWd b n e 7) (f 1 (by omega)), if_pos rfl, bI_f (p := isWd b n e 12) (f 2 (by omega)), if_pos rfl, bI_f (p := isWd b n e 16) (f 3 (by omega)), if_pos rfl, bI_t (p := isWd b n e 17) q, if_neg (by decide)]
      have jj := j19_ok kR r18 (k := 4) (m := 8) (c := tw (R.1 327)) (by omega) hT.w.1 (by have := hT.w.2; omega) rfl (by omega)
      by_cases c : tw (R.1 327) = 8
      · rw [if_pos c] at jj
        obtain ⟨C', R', g1, g2, g3⟩ := full 4 (by omega) jj
        refine ⟨C', R', ?_, g2, g3⟩
        unfold sh_X6_readWall X6_readWall_F
        rw [rd_O kC, bs, pg_I pk, bs, if_neg (by rw [dr.2.1.2.2.2.1, hT.w.1, c]; decide), g1, bs, bs]
      · rw [if_neg c] at jj
        obtain ⟨C', R', g1, g2, g3⟩ := k_wall pr (by have := hT.w.2; omega)
        exact ⟨C', R', by rw [g1, bs], jj.trans g2, g3⟩
    · subst v
      rw [bI_f (p := isWd b n e 3) (f 0 (by omega)), if_pos rfl, bI_f (p := isWd b n e 7) (f 1 (by omega)), if_pos rfl, bI_f (p := isWd b n e 12) (f 2 (by omega)), if_pos rfl, bI_f (p := isWd b n e 16) (f 3 (by omega)), if_pos rfl, bI_f (p := isWd b n e 17) (f 4 (by omega)), if_pos rfl, bI_t (p := isWd b n e 18) q, if_neg (by decide)]
      obtain ⟨C', R', g1, g2, g3⟩ := k_seen pr
      refine ⟨C', R', by rw [g1, bs], ?_, g3⟩
      unfold X12_readClause_J19
      rw [m_I kR, bs, if_pos r18, if_pos (by decide)]
      exact g2
end
/-! the loops -/
/-- the class's changes while it reads -/
def Kc (C C' : Gm) (D : Nat) : Prop := C'.2.2 = C.2.2 ∧ (∀ i k, i ≠ D + 4 → C'.2.1 i k = C.2.1 i k) ∧ (∀ i, i ≠ 66 → (i < D ∨ D + 94 < i) → C'.1 i = C.1 i) ∧ C'.1 66 1 = C.1 66 1
/-- the reference's -/
def Kr (R R' : Gm) : Prop := R'.2 = R.2 ∧ (∀ i, i ∉ [319, 326, 327] → R'.1 i = R.1 i) ∧ ∀ k, (k < 12 ∨ k = 13 ∨ k = 20 ∨ 21 < k) → R'.1 319 k = R.1 319 k
/-- both readers between two CLAUSES, at the TOKEN from e on -/
def Lk (C R : Gm) (b : Nat → Int32) (n D e : Nat) : Prop := Jc C R b n ∧ jA C R b n e ∧ (PlK C D ∧ DsK C.2.1) ∧ (C.1 66 5 = 0 → DrV C D (R.1 326) (R.1 327) ∧ R.1 319 21 = C.1 D 11) ∧ (R.1 319 21 = 0 ∨ R.1 319 21 = 1) ∧
  ∃ t m, t ≤ 10 ∧ m ≤ 60 ∧ C.1 D 6 = Int32.ofNat t ∧ C.1 D 8 = Int32.ofNat m
section
variable {C R C' R' C2 R2 : Gm} {b : Nat → Int32} {n e D : Nat}
theorem Kc.rfl' (C : Gm) (D : Nat) : Kc C C D := ⟨rfl, fun _ _ _ => rfl, fun _ _ _ => rfl, rfl⟩
theorem Kr.rfl' (R : Gm) : Kr R R := ⟨rfl, fun _ _ => rfl, fun _ _ => rfl⟩
theorem Kc.trans (f : Kc C C' D) (g : Kc C' C2 D) : Kc C C2 D := ⟨g.1.trans f.1, fun i k h => (g.2.1 i k h).trans (f.2.1 i k h), fun i h1 h2 => (g.2.2.1 i h1 h2).trans (f.2.2.1 i h1 h2), g.2.2.2.trans f.2.2.2⟩
theorem Kr.trans (f : Kr R R') (g : Kr R' R2) : Kr R R2 := ⟨g.1.trans f.1, fun i h => (g.2.1 i h).trans (f.2.1 i h), fun k h => (g.2.2 k h).trans (f.2.2 k h)⟩
theorem Kc.fk (f : Fk C C') (D : Nat) : Kc C C' D := ⟨by rw [f.1.1], fun i k _ => by rw [f.1.1], fun i h _ => f.1.2 i (by simp only [List.mem_singleton]; exact h), f.2⟩
theorem Jc.k (j : Jc C R b n) (f : Kc C C' D) (g : Kr R R') (hD : POk D) : Jc C' R' b n := by
  unfold POk at hD
  obtain ⟨⟨a1, a2, a3, a4⟩, b1, b2, b3, b4⟩ := j
  refine ⟨⟨a1.ext (fun a _ => by unfold kd; rw [f.1]) (fun k => f.2.1 319 k (by omega)), ?_, ⟨a3.1, fun i hi => ?_⟩, f.2.2.2.trans a4⟩, b1.eq g.1, ?_, (g.2.1 329 (by decide)).trans b3, (g.2.2 13 (by omega)).trans b4⟩
  · unfold RdK at *; rw [f.2.1 66 0 (by omega)]; exact a2
  · rw [f.2.2.1 65 (by omega) (by omega)]; exact a3.2 i hi
  · rw [g.1]; exact b2
theorem Lk.step (h : Lk C R b n D e) (hD : POk D) (c0 : C.1 66 5 = 0) (w : tK b n e ≠ 0) : ∃ C1 C' R' e', sh_X6_readClause 66 D C = some C1 ∧ sh_X6_nextToken 66 C1 = some C' ∧ sh_X12_readClause 319 R = some R' ∧ Lk C' R' b n D e' ∧ Kc C C' D ∧ Kr R R' ∧ (C'.1 66 5 = 0 → e + 1 ≤ e') := by
  obtain ⟨j, ja, ⟨pk, ds⟩, dd, hg, sf⟩ := h
  obtain ⟨C1, R', q1, q2, q3⟩ := k_clause ⟨j, ja, c0, w, pk, hD, ds, (dd c0).1, hg, (dd c0).2⟩
  obtain ⟨u1, u2, ⟨u3, u4⟩, u5, u6, u7, t, m, t1, m1, t2, m2⟩ := q3
  have kc : Kc C C1 D := u1
  have kr : Kr R R' := u2
  have j1 := j.k kc kr hD
  obtain ⟨C', v1, v2, v3, e', v4, v5⟩ := j_next j1 u5
  have cD : C'.1 D = C1.1 D := v2.1.2 D (by unfold POk at hD; simp only [List.mem_singleton]; omega)
  refine ⟨C1, C', R', e', q1, v1, q2, ⟨j1.f v2 (Fq.rfl' _), v5, ⟨u3.eq v2.1.1, by rw [v2.1.1]; exact u4⟩, fun q => ?_, u7, t, m, t1, m1, by rw [cD]; exact t2, by rw [cD]; exact m2⟩, kc.trans (Kc.fk v2 D), kr, v4⟩
  have d := u6 (by rw [← v3]; exact q)
  refine ⟨d.1.rd u3 v2.1.1 (fun a h1 h2 => v2.1.2 a (by unfold POk at hD; simp only [List.mem_singleton]; omega)), by rw [cD]; exact d.2⟩
theorem j_loop (hD : POk D) (hn : n ≤ 700) : ∀ k e c C R, (C.1 66 5 = 0 → n ≤ e + k ∧ c ≤ e) → c ≤ 700 → Lk C R b n D e → ∃ C' R' e', lp (X6_readText_B34 66 D) (k + 1) (Int32.ofNat c, C) = some C' ∧ lp (X12_plan_B68 319) (k + 1) R = some R' ∧ Lk C' R' b n D e' ∧ Kc C C' D ∧ Kr R R' := by
  intro k
  induction k with
  | zero =>
    intro e c C R hh hc h
    have j := h.1
    have ja := h.2.1
    refine ⟨C, R, e, ?_, ?_, h, Kc.rfl' _ _, Kr.rfl' _⟩
    · rw [lp_succ]
      unfold X6_readText_B34
      rw [rd_I j.1.1, bs, rd_I j.1.1, bs, rd_I j.1.1, bs, j.1.2.2.2, ja.1.2.1]
      by_cases c1 : Int32.ofNat n ≤ Int32.ofNat c
      · rw [if_pos c1]; rfl
      · rw [if_neg c1]
        by_cases c2 : C.1 66 5 = 0
        · have tk : tK b n e = 0 := by
            refine Classical.byContradiction fun w => ?_
            have h1 := tB_ok (b := b) ja.1.2.2.2
            have h2 := (tE_ok (b := b) ja.1.2.2.2)
            have := h2.2.2 w
            have := (hh c2).1
            omega
          rw [tk, if_pos (show Int32.ofNat 0 = 0 from rfl)]; rfl
        · rw [if_neg c2, ite_self]; rfl
    · rw [lp_succ]
      unfold X12_plan_B68
      rw [m_I j.2.1, bs, m_I j.2.1, bs, ja.2.2.1, ja.2.1.2.2.1]
      by_cases c2 : C.1 66 5 = 0
      · have tk : tK b n e = 0 := by
          refine Classical.byContradiction fun w => ?_
          have h1 := tB_ok (b := b) ja.1.2.2.2
          have h2 := (tE_ok (b := b) ja.1.2.2.2)
          have := h2.2.2 w
          have := (hh c2).1
          omega
        rw [if_pos c2, tk, if_pos (show Int32.ofNat 0 = 0 from rfl)]; rfl
      · rw [if_neg c2]; rfl
  | succ k ih =>
    intro e c C R hh hc h
    have j := h.1
    have ja := h.2.1
    have tk4 : tK b n e ≤ 4 := ck_4 b n (tB b n e)
    by_cases go : C.1 66 5 = 0 ∧ tK b n e ≠ 0
    · obtain ⟨C1, C', R', e', q1, q2, q3, q4, q5, q6, q7⟩ := h.step hD go.1 go.2
      have h1 := tB_ok (b := b) ja.1.2.2.2
      have h2 := (tE_ok (b := b) ja.1.2.2.2)
      have h3 := h2.2.2 go.2
      have h4 := hh go.1
      obtain ⟨C3, R3, e3, w1, w2, w3, w4, w5⟩ := ih e' (c + 1) C' R' (fun q => by have := q7 q; omega) (by omega) q4
      have ln0 : ¬ Int32.ofNat n ≤ Int32.ofNat c := fun q => by have := (le_n (by omega) (by omega)).mp q; omega
      have tk0 : ¬ Int32.ofNat (tK b n e) = 0 := fun q => go.2 ((eq_n (b := 0) (by omega) (by omega)).mp q)
      refine ⟨C3, R3, e3, ?_, ?_, w3, q5.trans w4, q6.trans w5⟩
      · rw [lp_succ]
        have : X6_readText_B34 66 D (Int32.ofNat c, C) = some (.inl (Int32.ofNat (c + 1), C')) := by
          unfold X6_readText_B34
          rw [rd_I j.1.1, bs, rd_I j.1.1, bs, rd_I j.1.1, bs, j.1.2.2.2, ja.1.2.1, if_neg ln0, if_neg tk0, if_pos go.1, q1, bs, q2, bs, pl1]
        rw [this]
        exact w1
      · rw [lp_succ]
        have : X12_plan_B68 319 R = some (.inl R') := by
          unfold X12_plan_B68
          rw [m_I j.2.1, bs, m_I j.2.1, bs, ja.2.2.1, ja.2.1.2.2.1, if_pos go.1, if_neg tk0, q3, bs]
        rw [this]
        exact w2
    · refine ⟨C, R, e, ?_, ?_, h, Kc.rfl' _ _, Kr.rfl' _⟩
      · rw [lp_succ]
        unfold X6_readText_B34
        rw [rd_I j.1.1, bs, rd_I j.1.1, bs, rd_I j.1.1, bs, j.1.2.2.2, ja.1.2.1]
        by_cases c1 : Int32.ofNat n ≤ Int32.ofNat c
        · rw [if_pos c1]; rfl
        · rw [if_neg c1]
          by_cases c2 : C.1 66 5 = 0
          · have tk : tK b n e = 0 := Classical.byContradiction fun w => go ⟨c2, w⟩
            rw [tk, if_pos (show Int32.ofNat 0 = 0 from rfl)]; rfl
          · rw [if_neg c2, ite_self]; rfl
      · rw [lp_succ]
        unfold X12_plan_B68
        rw [m_I j.2.1, bs, m_I j.2.1, bs, ja.2.2.1, ja.2.1.2.2.1]
        by_cases c2 : C.1 66 5 = 0
        · have tk : tK b n e = 0 := Classical.byContradiction fun w => go ⟨c2, w⟩
          rw [if_pos c2, tk, if_pos (show Int32.ofNat 0 = 0 from rfl)]; rfl
        · rw [if_neg c2]; rfl
end
