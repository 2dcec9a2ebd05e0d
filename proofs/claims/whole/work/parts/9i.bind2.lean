/-! ===== BIND 2: addBind in the memory ===== -/
/-- the places after one more at k, of m -/
def ins (r : Nat → Nat) (m k i : Nat) : Nat := if i < k then r i else if i = k then r m else if i ≤ m then r (i - 1) else r i
section
variable {C : Gm} {D m : Nat}
theorem c_addBind (pk : PlK C D) (hD : POk D) (hds : ∀ i j, i < 60 → j < 60 → i ≠ j → C.2.1 (D + 4) i ≠ C.2.1 (D + 4) j) (hm : m < 60) (e8 : C.1 D 8 = Int32.ofNat m) (F : Nat → Nat × Nat × Nat) (hF : ∀ i, i < m → FdB C (C.2.1 (D + 4) i) (F i)) {t d w : Nat} (ht : t < 100) (hd : d < 100) (hw : w < 100) :
    ∃ k C', k ≤ m ∧ sh_X5_addBind D (Int32.ofNat t) (Int32.ofNat d) (Int32.ofNat w) C = some C' ∧ (∀ i, k ≤ i → i < m → bq (t, d, w) (F i)) ∧ (0 < k → ¬ bq (t, d, w) (F (k - 1))) ∧ C'.2.2 = C.2.2 ∧ (∀ a i, a ≠ D + 4 → C'.2.1 a i = C.2.1 a i) ∧ (∀ i, i < 60 → C'.2.1 (D + 4) i = ins (C.2.1 (D + 4)) m k i) ∧ (∀ a, a ≠ D → a ≠ C.2.1 (D + 4) m → C'.1 a = C.1 a) ∧ C'.1 D = ud (C.1 D) 8 (Int32.ofNat (m + 1)) ∧ FdB C' (C.2.1 (D + 4) m) (t, d, w) := by
  have hD' := hD
  unfold POk at hD'
  obtain ⟨x, hx⟩ : ∃ x, C.2.1 (D + 4) m = x := ⟨_, rfl⟩
  have hxr := pk.2.2.2.2.2.2.1 m (by omega)
  rw [hx] at hxr
  have kx : kd C x = (0, 0) := pk.2.2.2.2.2.2.2.1 x hxr.1 hxr.2
  obtain ⟨B, eB⟩ : ∃ B, B = sI (sI (sI C x 0 (Int32.ofNat t)) x 1 (Int32.ofNat d)) x 2 (Int32.ofNat w) := ⟨_, rfl⟩
  have B2 : B.2 = C.2 := by rw [eB]; rfl
  have Bo : ∀ a, a ≠ x → B.1 a = C.1 a := fun a ha => by rw [eB, sI_ne _ _ _ ha, sI_ne _ _ _ ha, sI_ne _ _ _ ha]
  have Bx : FdB B x (t, d, w) := by
    refine ⟨?_, ?_, ?_, ht, hd, hw⟩
    · rw [eB, sI_own, ud_ne _ _ (by decide), sI_own, ud_ne _ _ (by decide), sI_own, ud_at]
    · rw [eB, sI_own, ud_ne _ _ (by decide), sI_own, ud_at]
    · rw [eB, sI_own, ud_at]
  -- a memory in the loop
  have inv : ∀ (k : Nat) (Y : Gm), k ≤ m → Y.1 = B.1 → Y.2.2 = C.2.2 → (∀ a i, a ≠ D + 4 → Y.2.1 a i = C.2.1 a i) → (∀ i, i < 60 → Y.2.1 (D + 4) i = if k < i ∧ i ≤ m then C.2.1 (D + 4) (i - 1) else C.2.1 (D + 4) i) → PlK Y D := fun k Y hk y1 y2 y3 y4 => by
    refine pk.perm y2 y3 (fun i hi => ?_)
    rw [y4 i hi]
    by_cases c : k < i ∧ i ≤ m
    · rw [if_pos c]; exact pk.2.2.2.2.2.2.1 (i - 1) (by omega)
    · rw [if_neg c]; exact pk.2.2.2.2.2.2.1 i hi
  have loop : ∃ r, lp (X5_addBind_B45 D x) FU (Int32.ofNat m, B) = some r ∧ ∃ k, k ≤ m ∧ r.1 = Int32.ofNat k ∧ r.2.1 = B.1 ∧ r.2.2.2 = C.2.2 ∧ (∀ a i, a ≠ D + 4 → r.2.2.1 a i = C.2.1 a i) ∧ (∀ i, i < 60 → r.2.2.1 (D + 4) i = if k < i ∧ i ≤ m then C.2.1 (D + 4) (i - 1) else C.2.1 (D + 4) i) ∧ (∀ i, k ≤ i → i < m → bq (t, d, w) (F i)) ∧ (0 < k → ¬ bq (t, d, w) (F (k - 1))) := by
    refine lp_inv (fun j q => q.1 = Int32.ofNat (m - j) ∧ q.2.1 = B.1 ∧ q.2.2.2 = C.2.2 ∧ (∀ a i, a ≠ D + 4 → q.2.2.1 a i = C.2.1 a i) ∧ (∀ i, i < 60 → q.2.2.1 (D + 4) i = if m - j < i ∧ i ≤ m then C.2.1 (D + 4) (i - 1) else C.2.1 (D + 4) i) ∧ ∀ i, m - j ≤ i → i < m → bq (t, d, w) (F i)) _ m ?_ ?_ ⟨rfl, rfl, by rw [B2], fun a i _ => by rw [B2], fun i hi => by rw [B2, if_neg (by omega)], fun i h1 h2 => by omega⟩ (by omega)
    · rintro j ⟨p, Y⟩ hj ⟨g1, g2, g3, g4, g5, g6⟩
      replace g1 : p = Int32.ofNat (m - j) := g1
      subst g1
      have pY := inv (m - j) Y (by omega) g2 g3 g4 g5
      have kY : ∀ a, kd Y a = kd C a := fun a => by unfold kd; rw [g3]
      have rp : Y.2.1 (D + 4) (m - j - 1) = C.2.1 (D + 4) (m - j - 1) := by
        have := g5 (m - j - 1) (by omega)
        rw [if_neg (by omega)] at this
        exact this
      have nx : C.2.1 (D + 4) (m - j - 1) ≠ x := by rw [← hx]; exact hds _ _ (by omega) (by omega) (by omega)
      have ry := pk.2.2.2.2.2.2.1 (m - j - 1) (by omega)
      have ky := pk.2.2.2.2.2.2.2.1 _ ry.1 ry.2
      have fY : FdB Y (C.2.1 (D + 4) (m - j - 1)) (F (m - j - 1)) := by
        have := hF (m - j - 1) (by omega)
        unfold FdB at *
        rw [g2, Bo _ nx]
        exact this
      have fX : FdB Y x (t, d, w) := by unfold FdB at *; rw [g2]; exact Bx
      have cb := c_before (C := Y) ((kY x).trans kx) ((kY _).trans ky) fX fY
      have s1 : Int32.ofNat (m - j) - 1 = Int32.ofNat (m - j - 1) := sub_n (b := 1) (by omega) (by omega)
      have s2 : Int32.ofNat (m - j) + -1 = Int32.ofNat (m - j - 1) := by rw [← s1]; exact (Int32.sub_eq_add_neg _ _).symm
      have e0 : X5_addBind_B45 D x (Int32.ofNat (m - j), Y) = if bI (bq (t, d, w) (F (m - j - 1))) = 0 then some (.inr (Int32.ofNat (m - j), Y)) else some (.inl (Int32.ofNat (m - j - 1), sR Y (D + 4) (m - j) (C.2.1 (D + 4) (m - j - 1)))) := by
        unfold X5_addBind_B45
        show (if Int32.ofNat (m - j) ≤ 0 then _ else (gfR Y D 5 3).bind fun v1 => (ldR Y 7 v1 (Int32.ofNat (m - j) - 1)).bind fun v3 => (sh_X0_comesBefore x v3 Y).bind fun q5 => if q5 = 0 then some (Sum.inr (Int32.ofNat (m - j), Y)) else (gfR Y D 5 3).bind fun v7 => (gfR Y D 5 3).bind fun v9 => (ldR Y 7 v9 (Int32.ofNat (m - j) - 1)).bind fun v11 => (stR Y 7 0 v7 (Int32.ofNat (m - j)) v11).bind fun M13 => some (Sum.inl (Int32.ofNat (m - j) + -1, M13))) = _
        rw [if_neg (show ¬ Int32.ofNat (m - j) ≤ 0 from fun q => by have := (le_n (b := 0) (by omega) (by omega)).mp q; omega)]
        simp only [p_binds pY, bs, s1, s2, p_bind pY (show m - j - 1 < 60 by omega), rp, cb, s_R (t := 7) (c := 0) pY.2.2.1.2.2.2.1 (show m - j < 60 by omega) (by decide) ((kY _).trans ky)]
      by_cases c : bq (t, d, w) (F (m - j - 1))
      · rw [bI_t c, if_neg (by decide)] at e0
        refine Or.inl ⟨_, e0, ?_, g2, g3, fun a i ha => ?_, fun i hi => ?_, fun i i1 i2 => ?_⟩
        · show Int32.ofNat (m - j - 1) = Int32.ofNat (m - (j + 1)); rw [show m - (j + 1) = m - j - 1 by omega]
        · show up2 Y.2.1 (D + 4) (m - j) _ a i = _
          rw [upN _ (Or.inl ha)]; exact g4 a i ha
        · show up2 Y.2.1 (D + 4) (m - j) _ (D + 4) i = _
          by_cases ei : i = m - j
          · subst ei
            rw [upA, if_pos (by omega)]
          · rw [upN _ (Or.inr ei), g5 i hi]
            by_cases c1 : m - j < i ∧ i ≤ m
            · rw [if_pos c1, if_pos (by omega)]
            · rw [if_neg c1, if_neg (by omega)]
        · by_cases ei : i = m - j - 1
          · rw [ei]; exact c
          · exact g6 i (by omega) i2
      · rw [bI_f c, if_pos rfl] at e0
        exact Or.inr ⟨_, e0, m - j, by omega, rfl, g2, g3, g4, g5, g6, fun _ => c⟩
    · rintro ⟨p, Y⟩ ⟨g1, g2, g3, g4, g5, g6⟩
      replace g1 : p = Int32.ofNat (m - m) := g1
      subst g1
      refine ⟨(Int32.ofNat (m - m), Y), ?_, m - m, by omega, rfl, g2, g3, g4, g5, g6, fun q => by omega⟩
      unfold X5_addBind_B45
      rw [if_pos]
      show Int32.ofNat (m - m) ≤ 0
      rw [Nat.sub_self]
      decide
  obtain ⟨⟨p, Y⟩, l1, k, hk, g1, g2, g3, g4, g5, g6, g7⟩ := loop
  replace g1 : p = Int32.ofNat k := g1
  subst g1
  have pY := inv k Y hk g2 g3 g4 g5
  have kY : ∀ a, kd Y a = kd C a := fun a => by unfold kd; rw [g3]
  have pE := pY.perm (C' := sR Y (D + 4) k x) rfl (fun a i ha => upN _ (Or.inl ha)) (fun i hi => by
    by_cases ei : i = k
    · subst ei
      show D + 27 ≤ up2 Y.2.1 (D + 4) i x (D + 4) i ∧ _
      rw [show (sR Y (D + 4) i x).2.1 (D + 4) i = x from upA _ _ _ _, upA]
      exact hxr
    · show D + 27 ≤ up2 Y.2.1 (D + 4) k x (D + 4) i ∧ up2 Y.2.1 (D + 4) k x (D + 4) i < D + 87
      rw [upN _ (Or.inr ei)]
      exact pY.2.2.2.2.2.2.1 i hi)
  have d8 : (sR Y (D + 4) k x).1 D 8 = Int32.ofNat m := by show Y.1 D 8 = _; rw [g2, Bo D (by omega)]; exact e8
  refine ⟨k, sI (sR Y (D + 4) k x) D 8 (Int32.ofNat (m + 1)), hk, ?_, g6, g7, g3, fun a i ha => ?_, fun i hi => ?_, fun a a1 a2 => ?_, ?_, ?_⟩
  · unfold sh_X5_addBind X5_addBind_F
    rw [p_O pk, bs, pg_I pk, bs, e8, if_pos (show Int32.ofNat m < 60 from (lt_n (b := 60) (by omega) (by omega)).mpr hm), p_binds pk, bs, bs, p_bind pk hm, bs, hx, p_I 0 _ kx, bs, p_I 1 _ (show kd (sI C x 0 (Int32.ofNat t)) x = (0, 0) from kx), bs, p_I 2 _ (show kd (sI (sI C x 0 (Int32.ofNat t)) x 1 (Int32.ofNat d)) x = (0, 0) from kx), bs, ← eB, pg_I (pk.eq B2), bs, Bo D (by omega), e8, l1, bs]
    unfold X5_addBind_J89
    show ((gfR Y D 5 3).bind fun v1 => (stR Y 7 0 v1 (Int32.ofNat k) x).bind _) = _
    rw [p_binds pY, bs, s_R (t := 7) (c := 0) pY.2.2.1.2.2.2.1 (show k < 60 by omega) (by decide) ((kY _).trans kx), bs, pg_I pE, bs, d8, pl1, pg_P pE, bs]
  · show up2 Y.2.1 (D + 4) k x a i = _
    rw [upN _ (Or.inl ha)]; exact g4 a i ha
  · show up2 Y.2.1 (D + 4) k x (D + 4) i = _
    unfold ins
    by_cases ei : i = k
    · subst ei
      rw [upA, if_neg (by omega), if_pos rfl, hx]
    · rw [upN _ (Or.inr ei), g5 i hi]
      by_cases c1 : i < k
      · rw [if_neg (by omega), if_pos c1]
      · rw [if_neg c1, if_neg ei]
        by_cases c2 : i ≤ m
        · rw [if_pos (by omega), if_pos c2]
        · rw [if_neg (by omega), if_neg c2]
  · rw [sI_ne _ _ _ a1]
    show Y.1 a = _
    rw [g2]; exact Bo a (by rw [← hx]; exact a2)
  · rw [sI_own]
    show ud (Y.1 D) 8 _ = _
    rw [g2, Bo D (by omega)]
  · rw [hx]
    unfold FdB at *
    rw [sI_ne _ _ _ (by omega)]
    show Y.1 x 0 = _ ∧ Y.1 x 1 = _ ∧ Y.1 x 2 = _ ∧ _
    rw [g2]
    exact Bx
end
