/-! ===== ZONE: the CLAUSE of a ZONE ===== -/
/-- what a CLAUSE leaves -/
def Kz (C R C' R' : Gm) (b : Nat → Int32) (n D e : Nat) : Prop :=
  (C'.2.2 = C.2.2 ∧ (∀ i k, i ≠ D + 4 → C'.2.1 i k = C.2.1 i k) ∧ (∀ i, i ≠ 66 → (i < D ∨ D + 94 < i) → C'.1 i = C.1 i) ∧ C'.1 66 1 = C.1 66 1) ∧
  (R'.2 = R.2 ∧ (∀ i, i ∉ [319, 326, 327] → R'.1 i = R.1 i) ∧ ∀ k, (k < 12 ∨ k = 13 ∨ k = 20 ∨ 21 < k) → R'.1 319 k = R.1 319 k) ∧
  (PlK C' D ∧ DsK C'.2.1) ∧ jB C' R' b n (e + 1) ∧ (C'.1 66 5 = 0 → DrV C' D (R'.1 326) (R'.1 327) ∧ R'.1 319 21 = C'.1 D 11) ∧ (R'.1 319 21 = 0 ∨ R'.1 319 21 = 1) ∧
  ∃ t m, t ≤ 10 ∧ m ≤ 60 ∧ C'.1 D 6 = Int32.ofNat t ∧ C'.1 D 8 = Int32.ofNat m
section
variable {C0 R0 C R C' R' : Gm} {b : Nat → Int32} {n e a D : Nat} {Z N T : Nat → Int32} {g : Int32}
theorem Si.start (j : Jc C R b n) (h1 : a ≠ 66) (h2 : a ≠ 65) : Si C R C R b n a (C.1 a) (R.1 326) (R.1 327) (R.1 319 21) :=
  ⟨j, ⟨rfl, rfl, rfl, fun _ _ _ => rfl⟩, ⟨rfl, rfl, rfl, rfl, fun _ _ => rfl, fun _ _ => rfl⟩, h1, h2⟩
/-- the word ahead of a CLAUSE is passed -/
theorem j_word (j : Jc C R b n) (h : jA C R b n e) (c0 : C.1 66 5 = 0) (w : tK b n e ≠ 0) : ∃ R', sh_X12_stepOn 319 R = some R' ∧ Fq R R' ∧ jB C R' b n (e + 1) := by
  obtain ⟨R', p1, p2, p3⟩ := j_pass j h
  refine ⟨R', ?_, p2, p3.le ?_⟩
  · unfold sh_X12_pass X12_pass_F X12_pass_J11 at p1
    rw [m_O j.2.1, bs, m_I j.2.1, bs, if_pos (h.2.2.1.trans c0)] at p1
    cases q : sh_X12_stepOn 319 R with
    | none => rw [q] at p1; cases p1
    | some r => rw [q, bs] at p1; exact p1
  · have := tB_ok (b := b) h.1.2.2.2
    have := (tE_ok (b := b) h.1.2.2.2).2.2 w
    omega
/-- the filter of a ZONE -/
theorem j_filter (j : Jc C R b n) (h : jA C R b n e) : ∃ k r, sh_X6_filterKind 66 C = some (Int32.ofNat k) ∧ k ≤ 3 ∧ sh_X12_which 319 321 R = some r ∧ (C.1 66 5 ≠ 0 → r = -1) ∧ (C.1 66 5 = 0 → (k = 0 ∧ ¬ (0 < r)) ∨ (k ≠ 0 ∧ 0 < r ∧ r = Int32.ofNat k)) := by
  have wW := fun s s1 s2 => j.isW h.1 (s := s) s1 s2
  obtain ⟨r, r1, r2⟩ := m_which j.2.1 j.2.2.1 j.2.2.2.1 h.2.1 j.1.2.2.1.1 (a := 1) (by decide)
  have ck : sh_X6_filterKind 66 C = if bI (isWd b n e 4) = 0 then (if bI (isWd b n e 5) = 0 then (if bI (isWd b n e 6) = 0 then some 0 else some 3) else some 2) else some 1 := by
    unfold sh_X6_filterKind X6_filterKind_F X6_filterKind_J36
    rw [rd_O j.1.1, bs, wW 4 (by omega) (by omega), bs, wW 5 (by omega) (by omega), bs, wW 6 (by omega) (by omega), bs]
  have lW : ∀ s, isWd b n e s → tE b n e - tB b n e = strLen.getD (s - 2) 0 := fun s q => q.2.1
  have len : (wdN.getD 1 []).length = 4 := rfl
  rw [len] at r2
  have no25 : ∀ s, (s = 4 ∨ s = 5 ∨ s = 6) → isWd b n e s → ¬ isWd b n e 25 := fun s hs q q' => by
    have l1 := lW s q
    have l2 := lW 25 q'
    rw [l1] at l2
    rcases hs with q | q | q <;> (subst q; revert l2; decide)
  have flt : C.1 66 5 ≠ 0 → r = -1 := fun q => by
    rcases r2 with ⟨a, -⟩ | ⟨k, -, -, a, -⟩
    · exact a
    · rw [h.2.2.1] at a; exact absurd a q
  by_cases w4 : isWd b n e 4
  · refine ⟨1, r, by rw [ck, bI_t w4, if_neg (by decide)]; rfl, by omega, r1, flt, fun q => Or.inr ⟨by omega, ?_⟩⟩
    rcases r2 with ⟨-, a⟩ | ⟨k, hk, a, -, d, f⟩
    · exact absurd ⟨h.2.2.1.trans q, w4⟩ (a 1 (by omega))
    · have : k = 1 := by
        rcases Nat.lt_trichotomy k 1 with u | u | u
        · have : k = 0 := by omega
          subst this
          exact absurd d (no25 4 (by omega) w4)
        · exact u
        · exact absurd w4 (f 1 u)
      subst this; subst a; exact ⟨by decide, rfl⟩
  · by_cases w5 : isWd b n e 5
    · refine ⟨2, r, by rw [ck, bI_f w4, if_pos rfl, bI_t w5, if_neg (by decide)]; rfl, by omega, r1, flt, fun q => Or.inr ⟨by omega, ?_⟩⟩
      rcases r2 with ⟨-, a⟩ | ⟨k, hk, a, -, d, f⟩
      · exact absurd ⟨h.2.2.1.trans q, w5⟩ (a 2 (by omega))
      · have : k = 2 := by
          rcases Nat.lt_trichotomy k 2 with u | u | u
          · have : k = 0 ∨ k = 1 := by omega
            rcases this with v | v
            · subst v; exact absurd d (no25 5 (by omega) w5)
            · subst v; exact absurd d w4
          · exact u
          · exact absurd w5 (f 2 u)
        subst this; subst a; exact ⟨by decide, rfl⟩
    · by_cases w6 : isWd b n e 6
      · refine ⟨3, r, by rw [ck, bI_f w4, if_pos rfl, bI_f w5, if_pos rfl, bI_t w6, if_neg (by decide)]; rfl, by omega, r1, flt, fun q => Or.inr ⟨by omega, ?_⟩⟩
        rcases r2 with ⟨-, a⟩ | ⟨k, hk, a, -, d, f⟩
        · exact absurd ⟨h.2.2.1.trans q, w6⟩ (a 3 (by omega))
        · have : k = 3 := by
            rcases Nat.lt_or_ge k 3 with u | u
            · have : k = 0 ∨ k = 1 ∨ k = 2 := by omega
              rcases this with v | v | v
              · subst v; exact absurd d (no25 6 (by omega) w6)
              · subst v; exact absurd d w4
              · subst v; exact absurd d w5
            · omega
          subst this; subst a; exact ⟨by decide, rfl⟩
      · refine ⟨0, r, by rw [ck, bI_f w4, if_pos rfl, bI_f w5, if_pos rfl, bI_f w6, if_pos rfl]; rfl, by omega, r1, flt, fun q => Or.inl ⟨rfl, ?_⟩⟩
        rcases r2 with ⟨a, -⟩ | ⟨k, hk, a, -, d, f⟩
        · rw [a]; decide
        · have : k = 0 ∨ k = 1 ∨ k = 2 ∨ k = 3 := by omega
          rcases this with v | v | v | v
          · subst v; subst a; decide
          · subst v; exact absurd d w4
          · subst v; exact absurd d w5
          · subst v; exact absurd d w6
end
