/-! ===== BIND 1: which comes before; a BIND among those read ===== -/
/-- (t, d, w) comes before (t', d', w') -/
def bq (p q : Nat × Nat × Nat) : Prop := p.1 < q.1 ∨ (p.1 = q.1 ∧ (q.2.2 < p.2.2 ∨ (p.2.2 = q.2.2 ∧ p.2.1 < q.2.1)))
/-- a BIND in the memory -/
def FdB (C : Gm) (x : Nat) (p : Nat × Nat × Nat) : Prop := C.1 x 0 = Int32.ofNat p.1 ∧ C.1 x 1 = Int32.ofNat p.2.1 ∧ C.1 x 2 = Int32.ofNat p.2.2 ∧ p.1 < 100 ∧ p.2.1 < 100 ∧ p.2.2 < 100
section
variable {C C' : Gm} {D x y m : Nat} {p q : Nat × Nat × Nat}
theorem c_before (kx : kd C x = (0, 0)) (ky : kd C y = (0, 0)) (hp : FdB C x p) (hq : FdB C y q) : sh_X0_comesBefore x y C = some (bI (bq p q)) := by
  obtain ⟨p0, p1, p2, p3, p4, p5⟩ := hp
  obtain ⟨q0, q1, q2, q3, q4, q5⟩ := hq
  unfold sh_X0_comesBefore X0_comesBefore_F X0_comesBefore_J27 X0_comesBefore_J74 bq
  simp only [i_O kx, bs, g_I 0 kx, g_I 1 kx, g_I 2 kx, g_I 0 ky, g_I 1 ky, g_I 2 ky, p0, p1, p2, q0, q1, q2]
  rw [show zck 0 = some 0 from rfl, show zck 1 = some 1 from rfl, bs, bs]
  by_cases c : p.1 = q.1
  · rw [if_pos (by rw [c])]
    by_cases d : p.2.2 = q.2.2
    · rw [if_pos (by rw [d])]
      by_cases e : q.2.1 ≤ p.2.1
      · rw [if_pos ((le_n (by omega) (by omega)).mpr e), bI_f (by omega)]
      · rw [if_neg (fun u => e ((le_n (by omega) (by omega)).mp u)), bI_t (by omega)]
    · rw [if_neg (fun u => d ((eq_n (by omega) (by omega)).mp u))]
      by_cases e : p.2.2 ≤ q.2.2
      · rw [if_pos ((le_n (by omega) (by omega)).mpr e), bI_f (by omega)]
      · rw [if_neg (fun u => e ((le_n (by omega) (by omega)).mp u)), bI_t (by omega)]
  · rw [if_neg (fun u => c ((eq_n (by omega) (by omega)).mp u))]
    by_cases e : q.1 ≤ p.1
    · rw [if_pos ((le_n (by omega) (by omega)).mpr e), bI_f (by omega)]
    · rw [if_neg (fun u => e ((le_n (by omega) (by omega)).mp u)), bI_t (by omega)]
theorem c_bindOf0 (pk : PlK C D) (hm : m ≤ 60) (e8 : C.1 D 8 = Int32.ofNat m) (a b : Int32) : ∃ r, sh_X5_bindOf D a b C = some r ∧ ((r = -1 ∧ ∀ i, i < m → ¬ (C.1 (C.2.1 (D + 4) i) 0 = a ∧ C.1 (C.2.1 (D + 4) i) 1 = b)) ∨ ∃ i, i < m ∧ r = Int32.ofNat i ∧ C.1 (C.2.1 (D + 4) i) 0 = a ∧ C.1 (C.2.1 (D + 4) i) 1 = b) := by
  have key : ∃ q, lp (X5_bindOf_B2 D a b C) FU 0 = some q ∧ ∃ r, Sum.elim (fun _ => some (-1)) (fun u4 => some u4) q = some r ∧ ((r = -1 ∧ ∀ i, i < m → ¬ (C.1 (C.2.1 (D + 4) i) 0 = a ∧ C.1 (C.2.1 (D + 4) i) 1 = b)) ∨ ∃ i, i < m ∧ r = Int32.ofNat i ∧ C.1 (C.2.1 (D + 4) i) 0 = a ∧ C.1 (C.2.1 (D + 4) i) 1 = b) := by
    refine lp_inv (fun j q => q = Int32.ofNat j ∧ ∀ i, i < j → ¬ (C.1 (C.2.1 (D + 4) i) 0 = a ∧ C.1 (C.2.1 (D + 4) i) 1 = b)) _ m ?_ ?_ ⟨rfl, fun i h => absurd h (Nat.not_lt_zero _)⟩ (by omega)
    · rintro j q hj ⟨h1, h2⟩
      subst h1
      have e : X5_bindOf_B2 D a b C (Int32.ofNat j) = if C.1 (C.2.1 (D + 4) j) 0 = a then (if C.1 (C.2.1 (D + 4) j) 1 = b then some (.inr (.inr (Int32.ofNat j))) else some (.inl (Int32.ofNat (j + 1)))) else some (.inl (Int32.ofNat (j + 1))) := by
        unfold X5_bindOf_B2 X5_bindOf_J38
        simp (disch := omega) only [pg_I pk, e8, bs, le_n, p_binds pk, p_bind pk, pb_I pk, suc_n]
        rw [if_neg (by omega)]
      have up : ¬ (C.1 (C.2.1 (D + 4) j) 0 = a ∧ C.1 (C.2.1 (D + 4) j) 1 = b) → ∀ i, i < j + 1 → ¬ (C.1 (C.2.1 (D + 4) i) 0 = a ∧ C.1 (C.2.1 (D + 4) i) 1 = b) := fun q i hi => by
        by_cases u : i = j
        · rw [u]; exact q
        · exact h2 i (by omega)
      by_cases c1 : C.1 (C.2.1 (D + 4) j) 0 = a
      · rw [if_pos c1] at e
        by_cases c2 : C.1 (C.2.1 (D + 4) j) 1 = b
        · rw [if_pos c2] at e
          exact Or.inr ⟨_, e, _, rfl, Or.inr ⟨j, hj, rfl, c1, c2⟩⟩
        · rw [if_neg c2] at e
          exact Or.inl ⟨_, e, rfl, up (fun q => c2 q.2)⟩
      · rw [if_neg c1] at e
        exact Or.inl ⟨_, e, rfl, up (fun q => c1 q.1)⟩
    · rintro q ⟨h1, h2⟩
      subst h1
      refine ⟨.inl (), ?_, _, rfl, Or.inl ⟨rfl, h2⟩⟩
      unfold X5_bindOf_B2
      simp (disch := omega) only [pg_I pk, e8, bs, le_n]
      rw [if_pos (Nat.le_refl _)]
  obtain ⟨q, k1, r, k2, k3⟩ := key
  refine ⟨r, ?_, k3⟩
  unfold sh_X5_bindOf X5_bindOf_F
  rw [p_O pk, bs, k1, bs]
  exact k2
/-- a plan whose BINDS have changed places -/
theorem PlK.perm (pk : PlK C D) (e2 : C'.2.2 = C.2.2) (e1 : ∀ a i, a ≠ D + 4 → C'.2.1 a i = C.2.1 a i) (e4 : ∀ i, i < 60 → D + 27 ≤ C'.2.1 (D + 4) i ∧ C'.2.1 (D + 4) i < D + 87) : PlK C' D := by
  have k : ∀ a, kd C' a = kd C a := fun a => by unfold kd; rw [e2]
  obtain ⟨h1, h2, ⟨h3, h4, h5, h6, h7⟩, h8, h9, h10, h11, h12, h13⟩ := pk
  refine ⟨by rw [k]; exact h1, fun i hi => by rw [e1 D i (by omega)]; exact h2 i hi, ⟨by rw [k]; exact h3, by rw [k]; exact h4, by rw [k]; exact h5, by rw [k]; exact h6, by rw [k]; exact h7⟩, fun i hi => ?_, fun i hi => ?_, fun i hi => ?_, e4, fun a a1 a2 => by rw [k]; exact h12 a a1 a2, fun i hi => ?_⟩
  · rw [k, e1 _ _ (by omega)]; exact h8 i hi
  · rw [k, e1 _ _ (by omega)]; exact h9 i hi
  · rw [k, e1 _ _ (by omega)]; exact h10 i hi
  · rw [k, e1 _ _ (by omega)]; exact h13 i hi
end
