/-! ===== LEX 4: the two readers side by side, C the class's memory, R the reference's ===== -/
section
variable {C R C' R' : Gm} {b : Nat → Int32} {n e e' : Nat}
/-- what stays -/
def Jc (C R : Gm) (b : Nat → Int32) (n : Nat) : Prop := (Ky C ∧ RdK C ∧ Tx C b n ∧ C.1 66 1 = Int32.ofNat n) ∧ Ky R ∧ WkK R.2.1 ∧ R.1 329 = b ∧ R.1 319 13 = Int32.ofNat n
/-- changes of the readers alone -/
def Fk (C C' : Gm) : Prop := Fm [66] C C' ∧ C'.1 66 1 = C.1 66 1
def Fq (R R' : Gm) : Prop := Fm [319] R R' ∧ ∀ k, (k < 12 ∨ k = 13 ∨ 19 < k) → R'.1 319 k = R.1 319 k
theorem Fk.rfl' (C : Gm) : Fk C C := ⟨Fm.rfl' _ _, rfl⟩
theorem Fq.rfl' (R : Gm) : Fq R R := ⟨Fm.rfl' _ _, fun _ _ => rfl⟩
theorem Fk.trans {C2 : Gm} (f : Fk C C') (g : Fk C' C2) : Fk C C2 := ⟨f.1.trans g.1 (fun _ h => h) (fun _ h => h), g.2.trans f.2⟩
theorem Fq.trans {R2 : Gm} (f : Fq R R') (g : Fq R' R2) : Fq R R2 := ⟨f.1.trans g.1 (fun _ h => h) (fun _ h => h), fun k hk => (g.2 k hk).trans (f.2 k hk)⟩
theorem Jc.f (j : Jc C R b n) (f : Fk C C') (g : Fq R R') : Jc C' R' b n := by
  obtain ⟨⟨a1, a2, a3, a4⟩, b1, b2, b3, b4⟩ := j
  refine ⟨⟨a1.fm f.1, ?_, ⟨a3.1, fun i hi => ?_⟩, f.2.trans a4⟩, b1.fm g.1, ?_, (g.1.2 329 (by decide)).trans b3, (g.2 13 (by omega)).trans b4⟩
  · unfold RdK at *; rw [f.1.1]; exact a2
  · rw [f.1.2 65 (by decide)]; exact a3.2 i hi
  · rw [g.1.1]; exact b2
/-- the class's reader at the TOKEN from e on -/
def Cz (C : Gm) (b : Nat → Int32) (n e : Nat) : Prop := C.1 66 2 = Int32.ofNat (tE b n e) ∧ C.1 66 3 = Int32.ofNat (tK b n e) ∧ C.1 66 4 = Int32.ofNat (tB b n e) ∧ e ≤ n
/-- both at it -/
def jA (C R : Gm) (b : Nat → Int32) (n e : Nat) : Prop := Cz C b n e ∧ RT R b n e ∧ R.1 319 18 = C.1 66 5 ∧ (C.1 66 5 ≠ 0 → R.1 319 19 = C.1 66 4)
/-- the reference at one that the class has still to read; or a FAULT -/
def jB (C R : Gm) (b : Nat → Int32) (n e : Nat) : Prop := (C.1 66 5 = 0 ∧ R.1 319 18 = 0 ∧ ∃ e', e ≤ e' ∧ C.1 66 2 = Int32.ofNat e' ∧ RT R b n e') ∨ (C.1 66 5 ≠ 0 ∧ ∃ e', jA C R b n e')
theorem jB.le (h : jB C R b n e) (hh : e' ≤ e) : jB C R b n e' := by
  rcases h with ⟨a, a', e2, c, d⟩ | h
  · exact Or.inl ⟨a, a', e2, by omega, d⟩
  · exact Or.inr h
theorem c_fail (h : Ky C) (k : Int32) : sh_X6_fail 66 k C = some (if C.1 66 5 = 0 then sI C 66 5 k else C) := by
  unfold sh_X6_fail X6_fail_F X6_fail_J12
  rw [rd_O h, bs, rd_I h, bs]
  by_cases c : C.1 66 5 = 0
  · rw [if_pos c, if_pos c, rd_P h, bs]
  · rw [if_neg c, if_neg c]
theorem m_wrong (h : Ky R) (k : Int32) : sh_X12_wrong 319 k R = some (if R.1 319 18 = 0 then sI (sI R 319 18 k) 319 19 (R.1 319 16) else R) := by
  unfold sh_X12_wrong X12_wrong_F
  rw [m_O h, bs, m_I h, bs]
  by_cases c : R.1 319 18 = 0
  · rw [if_pos c, if_pos c, m_P h, bs, m_I (h.sI _ _ _), bs, sI_own, ud_ne _ _ (by decide), m_P (h.sI _ _ _), bs]
  · rw [if_neg c, if_neg c]
/-- a FAULT here -/
theorem j_fail (j : Jc C R b n) (h : jA C R b n e) {k : Int32} (hk : k ≠ 0) : ∃ C' R', sh_X6_fail 66 k C = some C' ∧ sh_X12_wrong 319 k R = some R' ∧ Fk C C' ∧ Fq R R' ∧ jA C' R' b n e ∧ C'.1 66 5 ≠ 0 := by
  obtain ⟨⟨a1, a2, a3, a4⟩, b1, b2, b3, b4⟩ := j
  obtain ⟨⟨z2, z3, z4, zn⟩, rt, h1, h2⟩ := id h
  by_cases c : C.1 66 5 = 0
  · refine ⟨sI C 66 5 k, sI (sI R 319 18 k) 319 19 (R.1 319 16), by rw [c_fail a1, if_pos c], by rw [m_wrong b1, if_pos (h1.trans c)], ⟨(Fm.rfl' _ _).set (by decide) _ _, by rw [sI_own, ud_ne _ _ (by decide)]⟩, ⟨((Fm.rfl' _ _).set (by decide) _ _).set (by decide) _ _, fun k hk => by rw [sI_own, ud_ne _ _ (by omega), sI_own, ud_ne _ _ (by omega)]⟩, ⟨?_, ?_, ?_, fun _ => ?_⟩, by rw [sI_own, ud_at]; exact hk⟩
    · unfold Cz
      rw [sI_own, ud_ne _ _ (by decide), ud_ne _ _ (by decide), ud_ne _ _ (by decide)]
      exact ⟨z2, z3, z4, zn⟩
    · unfold RT at *
      rw [sI_own, sI_own, ud_ne _ _ (by decide), ud_ne _ _ (by decide), ud_ne _ _ (by decide), ud_ne _ _ (by decide), ud_ne _ _ (by decide), ud_ne _ _ (by decide), ud_ne _ _ (by decide), ud_ne _ _ (by decide), ud_ne _ _ (by decide), ud_ne _ _ (by decide), ud_ne _ _ (by decide), ud_ne _ _ (by decide)]
      exact rt
    · rw [sI_own, ud_ne _ _ (by decide), sI_own, ud_at, sI_own, ud_at]
    · rw [sI_own, ud_at, sI_own, ud_ne _ _ (by decide), z4]
      exact rt.2.2.2.1
  · exact ⟨C, R, by rw [c_fail a1, if_neg c], by rw [m_wrong b1, if_neg (by rw [h1]; exact c)], Fk.rfl' _, Fq.rfl' _, h, c⟩
/-- the class's next TOKEN -/
theorem j_next (j : Jc C R b n) (h : jB C R b n e) : ∃ C', sh_X6_nextToken 66 C = some C' ∧ Fk C C' ∧ C'.1 66 5 = C.1 66 5 ∧ ∃ e', (C'.1 66 5 = 0 → e ≤ e') ∧ jA C' R b n e' := by
  obtain ⟨⟨a1, a2, a3, a4⟩, b1, b2, b3, b4⟩ := j
  rcases h with ⟨h1, h2, e', h3, h4, h5⟩ | ⟨h1, e', h2⟩
  · obtain ⟨C', c1, c2, c3, c4, c5, c6⟩ := c_next a1 a2 a3 ⟨a4, h4, h1, h5.2.2.2.2.2.2⟩
    obtain ⟨d1, d2, d3, d4⟩ := c3
    exact ⟨C', c1, ⟨c2, d1.trans a4.symm⟩, d3.trans h1.symm, e', fun _ => h3, ⟨d2, c4, c5, c6⟩, h5, h2.trans d3.symm, fun q => absurd d3 q⟩
  · refine ⟨C, ?_, Fk.rfl' _, rfl, e', fun q => absurd q h1, h2⟩
    unfold sh_X6_nextToken X6_nextToken_F
    rw [rd_O a1, bs, rd_I a1, bs, if_neg h1]
/-- the reference goes on -/
theorem j_pass (j : Jc C R b n) (h : jA C R b n e) : ∃ R', sh_X12_pass 319 R = some R' ∧ Fq R R' ∧ jB C R' b n (tE b n e) := by
  obtain ⟨⟨a1, a2, a3, a4⟩, b1, b2, b3, b4⟩ := j
  obtain ⟨⟨z2, z3, z4, zn⟩, rt, h1, h2⟩ := id h
  by_cases c : C.1 66 5 = 0
  · obtain ⟨R', c1, c2, c3, c4⟩ := m_step b1 b3 a3.bt b4 rt.2.1 (tE_ok zn).2.1
    refine ⟨R', ?_, ⟨c2, fun k hk => c3 k (by omega)⟩, Or.inl ⟨c, (c3 18 (by omega)).trans (h1.trans c), _, Nat.le_refl _, z2, c4⟩⟩
    unfold sh_X12_pass X12_pass_F X12_pass_J11
    rw [m_O b1, bs, m_I b1, bs, if_pos (h1.trans c), c1, bs]
  · refine ⟨R, ?_, Fq.rfl' _, Or.inr ⟨c, e, h⟩⟩
    unfold sh_X12_pass X12_pass_F X12_pass_J11
    rw [m_O b1, bs, m_I b1, bs, if_neg (by rw [h1]; exact c)]
/-- a NUMBER here -/
theorem j_num (j : Jc C R b n) (h : jA C R b n e) {lo hi : Nat} (hl : lo ≤ hi) (hh : hi ≤ 999) : ∃ v C' R', sh_X6_needNumber 66 (Int32.ofNat lo) (Int32.ofNat hi) C = some (v, C') ∧ sh_X12_numberNow 319 (Int32.ofNat lo) (Int32.ofNat hi) R = some (v, R') ∧ isN v lo hi ∧ Fk C C' ∧ Fq R R' ∧ jA C' R' b n e ∧ (C'.1 66 5 = 0 → C.1 66 5 = 0) ∧ (C.1 66 5 ≠ 0 → C' = C) := by
  have j0 := id j
  obtain ⟨⟨a1, a2, a3, a4⟩, b1, b2, b3, b4⟩ := j
  obtain ⟨⟨z2, z3, z4, zn⟩, rt, h1, h2⟩ := id h
  obtain ⟨t1, t2, t3, t4, t5, t6, -⟩ := id rt
  have hn7 := a3.1
  have eT := tE_ok (b := b) zn
  have k4 : tK b n e ≤ 4 := ck_4 b n (tB b n e)
  have lo0 : isN (Int32.ofNat lo) lo hi := ⟨lo, rfl, Nat.le_refl _, hl⟩
  -- with a FAULT
  have cf : ∀ (X : Gm) (x : Int32), Ky X → X.1 66 5 ≠ 0 → X6_needNumber_J48 66 (Int32.ofNat lo) x X = some (Int32.ofNat lo, X) := fun X x kX hX => by
    unfold X6_needNumber_J48 X6_needNumber_J60
    rw [rd_I kX, bs, if_neg hX]
  have mf : ∀ X : Gm, Ky X → X.1 319 18 ≠ 0 → X12_numberNow_J59 319 (Int32.ofNat lo) X = some (Int32.ofNat lo, X) := fun X kX hX => by
    unfold X12_numberNow_J59 X12_numberNow_J74
    rw [m_I kX, bs, if_neg hX]
  by_cases c : C.1 66 5 = 0
  · -- a FAULT of kind k
    have bad : ∀ k : Int32, k ≠ 0 → (∃ x, sh_X6_needNumber 66 (Int32.ofNat lo) (Int32.ofNat hi) C = (sh_X6_fail 66 k C).bind fun q => X6_needNumber_J48 66 (Int32.ofNat lo) x q) → (sh_X12_numberNow 319 (Int32.ofNat lo) (Int32.ofNat hi) R = (sh_X12_wrong 319 k R).bind fun q => X12_numberNow_J59 319 (Int32.ofNat lo) q) → ∃ v C' R', sh_X6_needNumber 66 (Int32.ofNat lo) (Int32.ofNat hi) C = some (v, C') ∧ sh_X12_numberNow 319 (Int32.ofNat lo) (Int32.ofNat hi) R = some (v, R') ∧ isN v lo hi ∧ Fk C C' ∧ Fq R R' ∧ jA C' R' b n e ∧ (C'.1 66 5 = 0 → C.1 66 5 = 0) ∧ (C.1 66 5 ≠ 0 → C' = C) := fun k hk g1 g2 => by
      obtain ⟨x, g1⟩ := g1
      obtain ⟨C', R', f1, f2, f3, f4, f5, f6⟩ := j_fail j0 h hk
      refine ⟨Int32.ofNat lo, C', R', ?_, ?_, lo0, f3, f4, f5, fun _ => c, fun q => absurd c q⟩
      · rw [g1, f1, bs, cf C' x (a1.fm f3.1) f6]
      · rw [g2, f2, bs, mf R' (b1.fm f4.1) (by rw [f5.2.2.1]; exact f6)]
    have r18 : R.1 319 18 = 0 := h1.trans c
    by_cases c2 : tK b n e = 2
    · have e3 : C.1 66 3 = 2 := by rw [z3, c2]; rfl
      have e14 : R.1 319 14 = 2 := by rw [t3, c2]; rfl
      have nh := c_numHere a1 a2 a3 z2 z4 zn c2
      have cr : ∀ x, sh_X6_numberHere 66 C = some x → sh_X6_needNumber 66 (Int32.ofNat lo) (Int32.ofNat hi) C = if x < Int32.ofNat lo then X6_needNumber_J43 66 (Int32.ofNat lo) x C else if x ≤ Int32.ofNat hi then X6_needNumber_J48 66 (Int32.ofNat lo) x C else X6_needNumber_J43 66 (Int32.ofNat lo) x C := fun x hx => by
        unfold sh_X6_needNumber X6_needNumber_F X6_needNumber_J16
        rw [rd_O a1, bs, rd_I a1, bs, if_pos e3, hx, bs, bs, if_pos e3]
      have rr : sh_X12_numberNow 319 (Int32.ofNat lo) (Int32.ofNat hi) R = if 3 < Int32.ofNat (tE b n e - tB b n e) then X12_numberNow_J54 319 (Int32.ofNat lo) R else if R.1 319 15 < Int32.ofNat lo then X12_numberNow_J54 319 (Int32.ofNat lo) R else if R.1 319 15 ≤ Int32.ofNat hi then X12_numberNow_J59 319 (Int32.ofNat lo) R else X12_numberNow_J54 319 (Int32.ofNat lo) R := by
        unfold sh_X12_numberNow X12_numberNow_F
        rw [m_O b1, bs, m_I b1, bs, if_pos r18, m_I b1, bs, if_pos e14, m_I b1, bs, m_I b1, bs, t4, t5, sub_n (by omega) (by omega), m_I b1, bs, bs]
      by_cases c3 : tE b n e - tB b n e ≤ 3
      · rw [if_pos c3] at nh
        have h15 := t6 c2
        have hv := nv_le b (tB b n e) (tE b n e - tB b n e)
        rw [if_neg (show ¬ (3 : Int32) < Int32.ofNat (tE b n e - tB b n e) from fun q => by have := (lt_n (a := 3) (by omega) (by omega)).mp q; omega), h15] at rr
        have cr := cr _ nh
        by_cases d1 : Int32.ofNat (nv b (tB b n e) (tE b n e - tB b n e)) < Int32.ofNat lo
        · rw [if_pos d1] at cr rr
          exact bad 2 (by decide) ⟨_, cr⟩ rr
        · rw [if_neg d1] at cr rr
          by_cases d2 : Int32.ofNat (nv b (tB b n e) (tE b n e - tB b n e)) ≤ Int32.ofNat hi
          · rw [if_pos d2] at cr rr
            refine ⟨_, C, R, ?_, ?_, ⟨_, rfl, ?_, (le_n (by omega) (by omega)).mp d2⟩, Fk.rfl' _, Fq.rfl' _, h, fun q => q, fun _ => rfl⟩
            · rw [cr]; unfold X6_needNumber_J48 X6_needNumber_J60; rw [rd_I a1, bs, if_pos c]
            · rw [rr]; unfold X12_numberNow_J59 X12_numberNow_J74; rw [m_I b1, bs, if_pos r18, m_I b1, bs, h15]
            · rw [lt_n (by omega) (by omega)] at d1
              omega
          · rw [if_neg d2] at cr rr
            exact bad 2 (by decide) ⟨_, cr⟩ rr
      · rw [if_neg c3] at nh
        have cr := cr _ nh
        rw [if_pos (show (-1 : Int32) < Int32.ofNat lo from by
          rw [tI_lt, Int32.toInt_ofNat_of_lt (by omega)]
          have : (-1 : Int32).toInt = -1 := rfl
          omega)] at cr
        rw [if_pos (show (3 : Int32) < Int32.ofNat (tE b n e - tB b n e) from (lt_n (a := 3) (by omega) (by omega)).mpr (by omega))] at rr
        exact bad 2 (by decide) ⟨_, cr⟩ rr
    · have e3 : ¬ C.1 66 3 = 2 := fun q => c2 (by rw [z3] at q; exact (eq_n (b := 2) (by omega) (by omega)).mp q)
      have e14 : ¬ R.1 319 14 = 2 := fun q => c2 (by rw [t3] at q; exact (eq_n (b := 2) (by omega) (by omega)).mp q)
      refine bad 1 (by decide) ⟨-1, ?_⟩ ?_
      · unfold sh_X6_needNumber X6_needNumber_F X6_needNumber_J16
        rw [rd_O a1, bs, rd_I a1, bs, if_neg e3, bs, if_neg e3]
      · unfold sh_X12_numberNow X12_numberNow_F
        rw [m_O b1, bs, m_I b1, bs, if_pos r18, m_I b1, bs, if_neg e14]
  · have fl : ∀ k, sh_X6_fail 66 k C = some C := fun k => by rw [c_fail a1, if_neg c]
    refine ⟨Int32.ofNat lo, C, R, ?_, ?_, lo0, Fk.rfl' _, Fq.rfl' _, h, fun q => q, fun _ => rfl⟩
    · have all : ∀ x, X6_needNumber_J16 66 (Int32.ofNat lo) (Int32.ofNat hi) x C = some (Int32.ofNat lo, C) := fun x => by
        unfold X6_needNumber_J16 X6_needNumber_J43
        rw [rd_I a1, bs, fl, fl, bs, cf C x a1 c]
        simp only [ite_self]
      unfold sh_X6_needNumber X6_needNumber_F
      rw [rd_O a1, bs, rd_I a1, bs]
      by_cases c2 : tK b n e = 2
      · rw [if_pos (by rw [z3, c2]; rfl), c_numHere a1 a2 a3 z2 z4 zn c2, bs, all]
      · rw [if_neg (fun q => c2 (by rw [z3] at q; exact (eq_n (b := 2) (by omega) (by omega)).mp q)), all]
    · unfold sh_X12_numberNow X12_numberNow_F
      rw [m_O b1, bs, m_I b1, bs, if_neg (by rw [h1]; exact c)]
/-- a NUMBER is read -/
theorem j_read (j : Jc C R b n) (h : jB C R b n e) {lo hi : Nat} (hl : lo ≤ hi) (hh : hi ≤ 999) : ∃ v C' R', sh_X6_readNumber 66 (Int32.ofNat lo) (Int32.ofNat hi) C = some (v, C') ∧ sh_X12_readNumber 319 (Int32.ofNat lo) (Int32.ofNat hi) R = some (v, R') ∧ isN v lo hi ∧ Fk C C' ∧ Fq R R' ∧ jB C' R' b n e ∧ (C'.1 66 5 = 0 → C.1 66 5 = 0) := by
  obtain ⟨C1, a1, a2, a3, e1, a4, a5⟩ := j_next j h
  have j1 := j.f a2 (Fq.rfl' R)
  obtain ⟨v, C2, R2, b1, b2, b3, b4, b5, b6, b7, b8⟩ := j_num j1 a5 hl hh
  have j2 := j1.f b4 b5
  obtain ⟨R3, d1, d2, d3⟩ := j_pass j2 b6
  refine ⟨v, C2, R3, ?_, ?_, b3, a2.trans b4, b5.trans d2, ?_, fun q => a3 ▸ b7 q⟩
  · unfold sh_X6_readNumber X6_readNumber_F
    rw [rd_O j.1.1, bs, a1, bs, b1, bs]
  · unfold sh_X12_readNumber X12_readNumber_F
    rw [m_O j.2.1, bs, b2, bs, d1, bs]
  · by_cases c : C2.1 66 5 = 0
    · have := a4 (b7 c)
      exact d3.le (by have := tB_ok (b := b) (b6.1.2.2.2); have := (tE_ok (b := b) (b6.1.2.2.2)).1; omega)
    · rcases d3 with ⟨q, -⟩ | q
      · exact absurd q c
      · exact Or.inr q
end
