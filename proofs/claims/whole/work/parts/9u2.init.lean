/-! ===== INIT 2: the constructors, by computing ===== -/
def M00 : Gm := (fun _ _ => 0, fun _ _ => 0, List.replicate 64 (31, 0))
def st0 : Option (Gm × Gm × Gm) := (sh_X11_init 64 (nwM M00 (11, 0))).bind fun q2 => (sh_X12_init 319 (nwM q2 (12, 0))).bind fun q5 => (mkA q5 3 1).bind fun M7 => some (q2, q5, M7)
def ck0 (o : Option (Gm × Gm × Gm)) : Bool := match o with
  | none => false
  | some q => decide (q.1.2.2.length = 319) && decide (q.2.1.2.2.length = 345) && decide (q.2.2.2.2 = kz) && ckAll q.2.2
theorem st0_ck : ck0 st0 = true := by decide +kernel
theorem start_ok : ∃ q2 q5 M7, sh_X11_init 64 (nwM M00 (11, 0)) = some q2 ∧ q2.2.2.length = 319 ∧ sh_X12_init 319 (nwM q2 (12, 0)) = some q5 ∧ q5.2.2.length = 345 ∧ mkA q5 3 1 = some M7 ∧ Inv M7 0 := by
  have h := st0_ck
  unfold st0 at h
  cases e1 : sh_X11_init 64 (nwM M00 (11, 0)) with
  | none => rw [e1] at h; cases h
  | some q2 =>
    rw [e1, bs] at h
    cases e2 : sh_X12_init 319 (nwM q2 (12, 0)) with
    | none => rw [e2] at h; cases h
    | some q5 =>
      rw [e2, bs] at h
      cases e3 : mkA q5 3 1 with
      | none => rw [e3] at h; cases h
      | some M7 =>
        rw [e3, bs] at h
        replace h : (decide (q2.2.2.length = 319) && decide (q5.2.2.length = 345) && decide (M7.2.2 = kz) && ckAll M7) = true := h
        simp only [Bool.and_eq_true, decide_eq_true_eq] at h
        obtain ⟨⟨⟨h1, h2⟩, h3⟩, h4⟩ := h
        exact ⟨q2, q5, M7, rfl, h1, e2, h2, e3, init_inv h3 h4⟩
