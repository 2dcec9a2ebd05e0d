/-! ===== INIT: the memory behind both constructors ===== -/
def cR (M : Gm) (a n b : Nat) : Bool := (List.range n).all fun i => M.2.1 a i == b + i
def rTab : List (Nat × Nat × Nat) := [(64, 0, 65), (64, 3, 66), (64, 4, 67), (64, 5, 162), (64, 6, 257), (64, 7, 278), (64, 9, 299), (64, 10, 302), (66, 0, 65), (299, 0, 300), (299, 1, 301), (302, 0, 304), (302, 5, 299), (302, 6, 303), (263, 0, 67)]
def iTab : List (Nat × Nat × Int32) := [(64, 1, 0), (64, 2, -1), (64, 8, 0), (67, 5, 0), (67, 6, 0), (67, 7, 0), (67, 8, 0), (67, 9, 0), (263, 1, 0), (263, 2, 0), (263, 17, 0), (263, 18, 0), (263, 19, 0), (257, 2, 0), (257, 3, 0), (257, 7, 0), (262, 0, 0), (262, 1, 0), (262, 2, 0), (328, 0, 0), (328, 1, 0), (328, 2, 0), (319, 11, 0), (319, 20, -1), (319, 26, 0), (319, 28, 0), (319, 35, 0)]
def ckA (M : Gm) : Bool := rTab.all fun q => M.2.1 q.1 q.2.1 == q.2.2
def ckP (M : Gm) (P : Nat) : Bool := cR M P 5 (P + 1) && cR M (P + 1) 5 (P + 6) && cR M (P + 2) 10 (P + 11) && cR M (P + 3) 6 (P + 21) && cR M (P + 4) 60 (P + 27) && cR M (P + 5) 8 (P + 87)
def ckQ (M : Gm) (Q : Nat) : Bool := [(0, 6), (1, 1), (4, 2), (5, 3), (6, 4), (8, 5)].all fun (q : Nat × Nat) => M.2.1 Q q.1 == Q + q.2
def ckS (M : Gm) (S : Nat) : Bool := (List.range 14).all fun i => M.2.1 S (3 + i) == S + (1 + i)
def ckZ (M : Gm) (a : Nat) : Bool := (List.range 40).all fun i => M.2.1 a i == 0
def ckM (M : Gm) : Bool := (List.range 44).all fun k => M.2.1 319 k == mr.getD k 0
def ckW (M : Gm) : Bool := (List.range 4).all fun a => (List.range 6).all fun k => decide ((wdN.getD a []).length ≤ k) || M.2.1 (320 + a) k == (wdN.getD a []).getD k 0
def ckI (M : Gm) : Bool := iTab.all fun q => M.1 q.1 q.2.1 == q.2.2
def ckN (M : Gm) : Bool := (List.range 305).all fun k => M.1 324 k == eN k
def ckT (M : Gm) : Bool := (List.range 168).all fun k => M.1 325 k == 0
def ckAll (M : Gm) : Bool := ckA M && ckP M 67 && ckP M 162 && ckQ M 257 && ckQ M 278 && ckS M 263 && ckS M 284 && ckS M 304 && ckZ M 258 && ckZ M 279 && ckM M && ckW M && ckI M && ckN M && ckT M
theorem kz_p : ∀ P, P = 67 ∨ P = 162 → (kz.getD P (31, 0) = (5, 0) ∧ kz.getD (P + 1) (31, 0) = (36, 5) ∧ kz.getD (P + 2) (31, 0) = (37, 10) ∧ kz.getD (P + 3) (31, 0) = (38, 6) ∧ kz.getD (P + 4) (31, 0) = (39, 60) ∧ kz.getD (P + 5) (31, 0) = (40, 8)) ∧ (∀ i, i < 5 → kz.getD (P + 6 + i) (31, 0) = (10, 0)) ∧ (∀ i, i < 10 → kz.getD (P + 11 + i) (31, 0) = (8, 0)) ∧ (∀ i, i < 6 → kz.getD (P + 21 + i) (31, 0) = (2, 0)) ∧ (∀ i, i < 60 → kz.getD (P + 27 + i) (31, 0) = (0, 0)) ∧ ∀ i, i < 8 → kz.getD (P + 87 + i) (31, 0) = (9, 0) := by
  intro P h
  rcases h with h | h
  · subst h; decide +kernel
  · subst h; decide +kernel
theorem kz_s : ∀ S, S = 263 ∨ S = 284 ∨ S = 304 → kz.getD S (31, 0) = (7, 0) ∧ ∀ i, i < 14 → kz.getD (S + (1 + i)) (31, 0) = (32, sLen.getD i 0) := by
  intro S h
  rcases h with h | h | h
  · subst h; decide +kernel
  · subst h; decide +kernel
  · subst h; decide +kernel
section
variable {M : Gm} {a n b P Q S : Nat}
theorem cR_i (h : cR M a n b = true) {i : Nat} (hi : i < n) : M.2.1 a i = b + i := by
  unfold cR at h
  exact beq_iff_eq.mp (List.all_eq_true.mp h i (List.mem_range.mpr hi))
theorem init_plk (hK : M.2.2 = kz) (hP : P = 67 ∨ P = 162) (h : ckP M P = true) : PlK M P ∧ ∀ i, i < 60 → M.2.1 (P + 4) i = P + 27 + i := by
  unfold ckP at h
  simp only [Bool.and_eq_true] at h
  obtain ⟨⟨⟨⟨⟨a0, a1⟩, a2⟩, a3⟩, a4⟩, a5⟩ := h
  have kk : ∀ a, kd M a = kz.getD a (31, 0) := fun a => by unfold kd; rw [hK]
  obtain ⟨⟨k0, k1, k2, k3, k4, k5⟩, z, t, d, bb, w⟩ := kz_p P hP
  refine ⟨⟨(kk _).trans k0, fun i hi => ?_, ⟨(kk _).trans k1, (kk _).trans k2, (kk _).trans k3, (kk _).trans k4, (kk _).trans k5⟩, fun i hi => ⟨cR_i a1 hi, (kk _).trans (z i hi)⟩, fun i hi => ⟨cR_i a2 hi, (kk _).trans (t i hi)⟩, fun i hi => ⟨cR_i a3 hi, (kk _).trans (d i hi)⟩, fun i hi => ?_, fun a h1 h2 => ?_, fun i hi => ⟨cR_i a5 hi, (kk _).trans (w i hi)⟩⟩, fun i hi => cR_i a4 hi⟩
  · rw [cR_i a0 hi]; omega
  · rw [cR_i a4 hi]; omega
  · have := bb (a - (P + 27)) (by omega)
    rw [show P + 27 + (a - (P + 27)) = a by omega] at this
    exact (kk _).trans this
theorem init_stk (hK : M.2.2 = kz) (hS : S = 263 ∨ S = 284 ∨ S = 304) (h : ckS M S = true) : StK M S (M.2.1 S 0) := by
  have kk : ∀ a, kd M a = kz.getD a (31, 0) := fun a => by unfold kd; rw [hK]
  obtain ⟨k0, k1⟩ := kz_s S hS
  unfold ckS at h
  exact ⟨(kk _).trans k0, rfl, fun i hi => ⟨beq_iff_eq.mp (List.all_eq_true.mp h i (List.mem_range.mpr hi)), (kk _).trans (k1 i hi)⟩⟩
theorem init_mmk (hQ : Q = 257 ∨ Q = 278) (h : ckQ M Q = true) : MmK M Q := by
  unfold ckQ at h
  have q := fun k hk => List.all_eq_true.mp h k hk
  exact ⟨⟨beq_iff_eq.mp (q (0, 6) (by decide)), beq_iff_eq.mp (q (1, 1) (by decide)), beq_iff_eq.mp (q (4, 2) (by decide)), beq_iff_eq.mp (q (5, 3) (by decide)), beq_iff_eq.mp (q (6, 4) (by decide)), beq_iff_eq.mp (q (8, 5) (by decide))⟩, hQ⟩
theorem init_inv (hK : M.2.2 = kz) (h : ckAll M = true) : Inv M 0 := by
  unfold ckAll at h
  simp only [Bool.and_eq_true] at h
  obtain ⟨⟨⟨⟨⟨⟨⟨⟨⟨⟨⟨⟨⟨⟨hA, hP1⟩, hP2⟩, hQ1⟩, hQ2⟩, hS1⟩, hS2⟩, hS3⟩, hZ1⟩, hZ2⟩, hM⟩, hW⟩, hI⟩, hN⟩, hT⟩ := h
  have kk : ∀ a, kd M a = kz.getD a (31, 0) := fun a => by unfold kd; rw [hK]
  have rA : ∀ q, q ∈ rTab → M.2.1 q.1 q.2.1 = q.2.2 := fun q hq => beq_iff_eq.mp (List.all_eq_true.mp hA q hq)
  have iA : ∀ q, q ∈ iTab → M.1 q.1 q.2.1 = q.2.2 := fun q hq => beq_iff_eq.mp (List.all_eq_true.mp hI q hq)
  have nA : ∀ k, k < 305 → M.1 324 k = eN k := fun k hk => beq_iff_eq.mp (List.all_eq_true.mp hN k (List.mem_range.mpr hk))
  have tA : ∀ k, k < 168 → M.1 325 k = 0 := fun k hk => beq_iff_eq.mp (List.all_eq_true.mp hT k (List.mem_range.mpr hk))
  have kyM : Ky M := ⟨fun a _ => kk a, fun k hk => beq_iff_eq.mp (List.all_eq_true.mp hM k (List.mem_range.mpr hk))⟩
  have wkM : WkK M.2.1 := fun a k ha hk => by
    have h6 := wdN_6 a ha
    have q := List.all_eq_true.mp (List.all_eq_true.mp hW a (List.mem_range.mpr ha)) k (List.mem_range.mpr (by omega))
    rw [Bool.or_eq_true, decide_eq_true_eq] at q
    rcases q with q | q
    · omega
    · exact beq_iff_eq.mp q
  obtain ⟨p1, b1⟩ := init_plk hK (Or.inl rfl) hP1
  obtain ⟨p2, b2⟩ := init_plk hK (Or.inr rfl) hP2
  have dsM : DsK M.2.1 := fun a ha i j hi hj hne => by
    rcases ha with e | e
    · subst e; rw [b1 i hi, b1 j hj]; omega
    · subst e; rw [b2 i hi, b2 j hj]; omega
  have st1 : StK M 263 67 := by
    have := init_stk hK (Or.inl rfl) hS1
    rw [rA (263, 0, 67) (by decide)] at this
    exact this
  have z0 : tz (M.1 325) = 0 := by unfold tz; rw [tA 163 (by omega)]; rfl
  have t0 : tt (M.1 325) = 0 := by unfold tt; rw [tA 164 (by omega)]; rfl
  have d0 : td (M.1 325) = 0 := by unfold td; rw [tA 165 (by omega)]; rfl
  have w0 : tw (M.1 325) = 0 := by unfold tw; rw [tA 167 (by omega)]; rfl
  have n142 : M.1 324 142 = 0 := (nA 142 (by omega)).trans rfl
  have n143 : M.1 324 143 = 0 := (nA 143 (by omega)).trans rfl
  have n144 : M.1 324 144 = 0 := (nA 144 (by omega)).trans rfl
  have lg0 : lg (M.1 324) = 0 := by unfold lg; rw [n144]; rfl
  have dr : DrV M 67 (ud (M.1 324) 143 (M.1 67 10)) (M.1 325) → TOk (M.1 325) := fun q => q.1
  have hTO : TOk (M.1 325) := by
    unfold TOk
    rw [z0, t0, d0, w0, tA 163 (by omega), tA 164 (by omega), tA 165 (by omega), tA 167 (by omega)]
    refine ⟨⟨⟨rfl, by omega⟩, ⟨rfl, by omega⟩, ⟨rfl, by omega⟩, rfl, by omega⟩, fun _ h => absurd h (Nat.not_lt_zero _), fun _ h => absurd h (Nat.not_lt_zero _), fun _ h => absurd h (Nat.not_lt_zero _), fun t d h1 h2 => ?_, fun _ h => absurd h (Nat.not_lt_zero _), fun _ _ h => absurd h (Nat.not_lt_zero _)⟩
    rw [tA _ (by omega)]
    exact ⟨⟨0, rfl, by omega, by omega⟩, fun q => absurd rfl q⟩
  have pv : PlV M 67 (M.1 325) := by
    unfold PlV
    rw [z0, t0, d0, w0, tA 163 (by omega), tA 164 (by omega), tA 165 (by omega), tA 167 (by omega)]
    exact ⟨⟨iA (67, 5, 0) (by decide), iA (67, 6, 0) (by decide), iA (67, 7, 0) (by decide), iA (67, 8, 0) (by decide), iA (67, 9, 0) (by decide)⟩, fun _ h => absurd h (Nat.not_lt_zero _), fun _ h => absurd h (Nat.not_lt_zero _), fun _ h => absurd h (Nat.not_lt_zero _), fun _ _ h => absurd h (Nat.not_lt_zero _), fun _ h => absurd h (Nat.not_lt_zero _)⟩
  have sv : StV M 263 (M.1 324) (M.1 325) := by
    unfold StV
    rw [z0, t0, d0, lg0, n142, n143, n144]
    exact ⟨⟨iA (263, 1, 0) (by decide), iA (263, 2, 0) (by decide), iA (263, 17, 0) (by decide), iA (263, 18, 0) (by decide), iA (263, 19, 0) (by decide)⟩, fun _ h => absurd h (Nat.not_lt_zero _), fun _ _ h => absurd h (Nat.not_lt_zero _), fun _ h => absurd h (Nat.not_lt_zero _), fun _ h => absurd h (Nat.not_lt_zero _), fun _ _ h => absurd h (Nat.not_lt_zero _), fun _ h => absurd h (by omega)⟩
  have nok : NOk (M.1 324) (M.1 325) := by
    unfold NOk
    rw [z0, t0, d0, n143]
    refine ⟨fun _ h => absurd h (Nat.not_lt_zero _), fun _ _ h => absurd h (Nat.not_lt_zero _), fun _ h => absurd h (Nat.not_lt_zero _), fun _ h => absurd h (Nat.not_lt_zero _), fun t d h1 h2 => ?_, ⟨0, rfl, by omega, by omega⟩⟩
    have e : M.1 324 (82 + 6 * t + d) = 0 := by
      rw [nA _ (by omega)]
      unfold eN
      rw [if_neg (by omega), if_neg (by omega)]
    rw [e]
    exact ⟨⟨0, rfl, by omega, by omega⟩, fun _ => rfl, fun _ => ⟨0, rfl, by omega, by omega⟩⟩
  have zA : ∀ Q p, isQ Q → p < 40 → eA M Q p = 0 := fun Q p hQ hp => by
    rcases hQ with e | e
    · subst e; exact beq_iff_eq.mp (List.all_eq_true.mp hZ1 p (List.mem_range.mpr hp))
    · subst e; exact beq_iff_eq.mp (List.all_eq_true.mp hZ2 p (List.mem_range.mpr hp))
  refine ⟨⟨67, 162, ⟨⟨⟨⟨rA (64, 0, 65) (by decide), rA (64, 3, 66) (by decide), rA (64, 4, 67) (by decide), rA (64, 5, 162) (by decide), rA (64, 6, 257) (by decide), rA (64, 7, 278) (by decide), rA (64, 9, 299) (by decide), rA (64, 10, 302) (by decide), rA (66, 0, 65) (by decide), wkM, dsM⟩, Or.inl ⟨rfl, rfl⟩⟩, ⟨kyM, ⟨rA (299, 0, 300) (by decide), rA (299, 1, 301) (by decide)⟩, ⟨rA (302, 0, 304) (by decide), rA (302, 5, 299) (by decide), rA (302, 6, 303) (by decide)⟩, p1, Or.inl rfl, hTO, pv⟩, p2, ?_⟩, ⟨init_mmk (Or.inl rfl) hQ1, init_mmk (Or.inr rfl) hQ2, ⟨_, init_stk hK (Or.inr (Or.inl rfl)) hS2⟩, ⟨_, init_stk hK (Or.inr (Or.inr rfl)) hS3⟩, fun Q p hQ hp hne => absurd (zA Q p hQ hp) hne, fun Q p Q' p' hQ hQ' hp hp' hd h1 h2 => absurd (zA Q p hQ hp) h1⟩, ⟨0, 0, iA (319, 26, 0) (by decide), iA (319, 28, 0) (by decide), ⟨st1, Or.inl rfl, sv, nok, ⟨by rw [n144, lg0]; rfl, by rw [lg0]; exact Nat.zero_le _⟩⟩, ⟨0, by omega, iA (257, 2, 0) (by decide), iA (257, 3, 0) (by decide), by omega, fun i h => absurd h (Nat.not_lt_zero _)⟩, ⟨iA (257, 7, 0) (by decide), by omega, fun i h => absurd h (Nat.not_lt_zero _)⟩, fun i h => absurd h (Nat.not_lt_zero _), fun i hi => ?_⟩, ⟨(iA (319, 35, 0) (by decide)).trans (iA (64, 8, 0) (by decide)).symm, Or.inl (iA (319, 35, 0) (by decide))⟩, ⟨0, iA (64, 1, 0) (by decide), iA (319, 11, 0) (by decide), by omega, fun i h => absurd h (Nat.not_lt_zero _)⟩, (iA (319, 20, -1) (by decide)).trans (iA (64, 2, -1) (by decide)).symm⟩⟩, ?_⟩
  · rw [t0, tA 166 (by omega)]; rfl
  · have : i = 0 ∨ i = 1 ∨ i = 2 := by omega
    rcases this with e | e | e
    · subst e; exact (iA (262, 0, 0) (by decide)).trans (iA (328, 0, 0) (by decide)).symm
    · subst e; exact (iA (262, 1, 0) (by decide)).trans (iA (328, 1, 0) (by decide)).symm
    · subst e; exact (iA (262, 2, 0) (by decide)).trans (iA (328, 2, 0) (by decide)).symm
  · refine ⟨?_, ?_, ?_⟩
    · rw [hK, kz_len]; omega
    · rw [hK, kz_len]; omega
    · rw [hK]; omega
end
