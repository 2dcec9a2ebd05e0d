/-! ===== LEX 2: the reference's stepOn ===== -/
/-- a byte of the reference's text, -1 past its end -/
def b9 (b : Nat → Int32) (n i : Nat) : Int32 := if n ≤ i then -1 else b i
def BtN (b : Nat → Int32) (n : Nat) : Prop := n ≤ 700 ∧ ∀ i, i < n → isN (b i) 0 255
theorem b9_all : ∀ m, m < 256 → ((Int32.ofNat m = -1 ↔ (if ¬ Int32.ofNat m < 97 ∧ ¬ 122 < Int32.ofNat m then 1 else if ¬ Int32.ofNat m < 48 ∧ ¬ 57 < Int32.ofNat m then 2 else if Int32.ofNat m = 59 then 3 else 4) = 0) ∧ ((¬ Int32.ofNat m < 97 ∧ ¬ 122 < Int32.ofNat m) ↔ (if ¬ Int32.ofNat m < 97 ∧ ¬ 122 < Int32.ofNat m then 1 else if ¬ Int32.ofNat m < 48 ∧ ¬ 57 < Int32.ofNat m then 2 else if Int32.ofNat m = 59 then 3 else 4) = 1) ∧ ((¬ Int32.ofNat m < 48 ∧ ¬ 57 < Int32.ofNat m) ↔ (if ¬ Int32.ofNat m < 97 ∧ ¬ 122 < Int32.ofNat m then 1 else if ¬ Int32.ofNat m < 48 ∧ ¬ 57 < Int32.ofNat m then 2 else if Int32.ofNat m = 59 then 3 else 4) = 2) ∧ (Int32.ofNat m = 59 ↔ (if ¬ Int32.ofNat m < 97 ∧ ¬ 122 < Int32.ofNat m then 1 else if ¬ Int32.ofNat m < 48 ∧ ¬ 57 < Int32.ofNat m then 2 else if Int32.ofNat m = 59 then 3 else 4) = 3)) := by decide +kernel
section
variable {M : Gm} {b : Nat → Int32} {n p i : Nat}
theorem b9_ck (hb : BtN b n) : (b9 b n i = -1 ↔ ck b n i = 0) ∧ ((¬ b9 b n i < 97 ∧ ¬ 122 < b9 b n i) ↔ ck b n i = 1) ∧ ((¬ b9 b n i < 48 ∧ ¬ 57 < b9 b n i) ↔ ck b n i = 2) ∧ (b9 b n i = 59 ↔ ck b n i = 3) := by
  unfold b9 ck
  by_cases c : n ≤ i
  · simp only [if_pos c]
    exact ⟨by decide, by decide, by decide, by decide⟩
  · simp only [if_neg c]
    obtain ⟨m, e, -, hm⟩ := hb.2 i (by omega)
    rw [e]
    exact b9_all m (by omega)
theorem b9_w : (b9 b n i = 32 ∨ b9 b n i = 10) ↔ (i < n ∧ isW (b i)) := by
  unfold b9 isW
  by_cases c : n ≤ i
  · rw [if_pos c]
    exact ⟨fun h => absurd h (by decide), fun h => absurd h.1 (by omega)⟩
  · rw [if_neg c]
    exact ⟨fun h => ⟨by omega, h⟩, fun h => h.2⟩
theorem m_byteAt (h : Ky M) (hn : M.1 319 13 = Int32.ofNat n) (hn7 : n ≤ 700) (eb : M.1 329 = b) (hi : i ≤ 700) : sh_X12_byteAt 319 (Int32.ofNat i) M = some (b9 b n i) := by
  unfold sh_X12_byteAt X12_byteAt_F X12_byteAt_J18 b9
  rw [m_O h, bs, m_I h, bs, hn]
  by_cases c : n ≤ i
  · rw [if_pos ((le_n (by omega) (by omega)).mpr c), if_pos c]
  · rw [if_neg (fun q => c ((le_n (by omega) (by omega)).mp q)), if_neg c, m_tape h, bs, ld329 h (by omega), bs, eb]
theorem m_isLetter (x : Int32) : sh_X12_isLetter x M = some (bI (¬ x < 97 ∧ ¬ 122 < x)) := by
  unfold sh_X12_isLetter X12_isLetter_F X12_isLetter_J16 X12_isLetter_J17
  by_cases a : x < 97
  · rw [if_pos a, bI_f (fun q => q.1 a)]; rfl
  · rw [if_neg a]
    by_cases c : 122 < x
    · rw [if_pos c, bI_f (fun q => q.2 c)]; rfl
    · rw [if_neg c, bI_t ⟨a, c⟩]; rfl
theorem m_isDigit (x : Int32) : sh_X12_isDigit x M = some (bI (¬ x < 48 ∧ ¬ 57 < x)) := by
  unfold sh_X12_isDigit X12_isDigit_F X12_isDigit_J16 X12_isDigit_J17
  by_cases a : x < 48
  · rw [if_pos a, bI_f (fun q => q.1 a)]; rfl
  · rw [if_neg a]
    by_cases c : 57 < x
    · rw [if_pos c, bI_f (fun q => q.2 c)]; rfl
    · rw [if_neg c, bI_t ⟨a, c⟩]; rfl
/-- a run of letters or digits -/
theorem tE_run (h : p ≤ n) (u : tK b n p = 1 ∨ tK b n p = 2) : (∀ i, tB b n p ≤ i → i < tE b n p → ck b n i = tK b n p) ∧ ck b n (tE b n p) ≠ tK b n p := by
  have k0 : tK b n p ≠ 0 := by omega
  have hb := tB_ok (b := b) h
  have hlt : tB b n p < n := Nat.lt_of_not_le (fun q => k0 (ck_0.mpr q))
  have rn := rn_ok b (tK b n p) (p := tB b n p + 1) (n := n) (by omega)
  have eE : tE b n p = rnE b n (tK b n p) (tB b n p + 1) := by unfold tE; rw [if_neg k0, if_pos u]
  rw [← eE] at rn
  refine ⟨fun i h1 h2 => ?_, ?_⟩
  · by_cases e : i = tB b n p
    · rw [e]; rfl
    · exact rn.2.1 i (by omega) h2
  · rcases rn.2.2 with q | q
    · intro e
      rw [ck_0.mpr (by omega)] at e
      omega
    · exact q
/-- what a NUMBER comes to, 100000 at the most -/
def nv (b : Nat → Int32) (p : Nat) : Nat → Nat
  | 0 => 0
  | m + 1 => min 100000 (10 * nv b p m + ((b (p + m)).toNatClampNeg - 48))
theorem nv_le (b : Nat → Int32) (p : Nat) : ∀ m, nv b p m ≤ 100000
  | 0 => Nat.zero_le _
  | m + 1 => Nat.min_le_left _ _
/-- the reference's reader behind the TOKEN from p on -/
def RT (M : Gm) (b : Nat → Int32) (n p : Nat) : Prop := M.1 319 13 = Int32.ofNat n ∧ M.1 319 12 = Int32.ofNat (tE b n p) ∧ M.1 319 14 = Int32.ofNat (tK b n p) ∧ M.1 319 16 = Int32.ofNat (tB b n p) ∧ M.1 319 17 = Int32.ofNat (tE b n p) ∧ (tK b n p = 2 → M.1 319 15 = Int32.ofNat (nv b (tB b n p) (tE b n p - tB b n p))) ∧ p ≤ n
theorem m_step (h : Ky M) (eb : M.1 329 = b) (hb : BtN b n) (hn : M.1 319 13 = Int32.ofNat n) (h12 : M.1 319 12 = Int32.ofNat p) (hp : p ≤ n) : ∃ M', sh_X12_stepOn 319 M = some M' ∧ Fm [319] M M' ∧ (∀ k, (k < 12 ∨ k = 13 ∨ 17 < k) → M'.1 319 k = M.1 319 k) ∧ RT M' b n p := by
  have hn7 := hb.1
  have w := ws_ok b hp
  have hB := tB_ok (b := b) hp
  have eT := tE_ok (b := b) hp
  have l1 : ∃ M1, lp (X12_stepOn_B0 319) FU M = some M1 ∧ (Fm [319] M M1 ∧ M1.1 319 12 = Int32.ofNat (tB b n p) ∧ ∀ k, k ≠ 12 → M1.1 319 k = M.1 319 k) := by
    refine lp_inv (fun j q => p + j ≤ tB b n p ∧ Fm [319] M q ∧ q.1 319 12 = Int32.ofNat (p + j) ∧ ∀ k, k ≠ 12 → q.1 319 k = M.1 319 k) _ (tB b n p - p) ?_ ?_ ⟨by omega, Fm.rfl' _ _, h12, fun _ _ => rfl⟩ (by omega)
    · rintro j Y hj ⟨g1, g2, g3, g4⟩
      have hY := h.fm g2
      have ba := m_byteAt (i := p + j) hY ((g4 13 (by decide)).trans hn) hn7 ((g2.2 329 (by decide)).trans eb) (by omega)
      have hw : b9 b n (p + j) = 32 ∨ b9 b n (p + j) = 10 := b9_w.mpr ⟨by omega, w.2.1 (p + j) (by omega) (by show p + j < tB b n p; omega)⟩
      refine Or.inl ⟨sI Y 319 12 (Int32.ofNat (p + (j + 1))), ?_, by omega, g2.set (by decide) _ _, by rw [sI_own, ud_at], fun k hk => by rw [sI_own, ud_ne _ _ hk]; exact g4 k hk⟩
      have st : X12_stepOn_J26 319 Y = some (.inl (sI Y 319 12 (Int32.ofNat (p + (j + 1))))) := by
        unfold X12_stepOn_J26
        rw [m_I hY, bs, g3, pl1, m_P hY, bs]
        rfl
      unfold X12_stepOn_B0
      simp only [m_I hY, bs, g3, ba, st]
      rcases hw with u | u
      · rw [if_pos u]
      · rw [if_pos u, ite_self]
    · rintro Y ⟨g1, g2, g3, g4⟩
      rw [show p + (tB b n p - p) = tB b n p by omega] at g3
      have hY := h.fm g2
      have ba := m_byteAt (i := tB b n p) hY ((g4 13 (by decide)).trans hn) hn7 ((g2.2 329 (by decide)).trans eb) (by omega)
      have nw : ¬ (b9 b n (tB b n p) = 32 ∨ b9 b n (tB b n p) = 10) := fun q => by
        have q' := b9_w.mp q
        rcases w.2.2 with u | u
        · have u' : tB b n p = n := u
          omega
        · exact u q'.2
      refine ⟨Y, ?_, g2, g3, g4⟩
      unfold X12_stepOn_B0
      simp only [m_I hY, bs, g3, ba]
      rw [if_neg (fun q => nw (Or.inl q)), if_neg (fun q => nw (Or.inr q))]
  obtain ⟨M1, a1, a2, a3, a4⟩ := l1
  have hM1 := h.fm a2
  obtain ⟨X, x1, x2, x3, x4, x5⟩ : ∃ X, X = sI M1 319 16 (Int32.ofNat (tB b n p)) ∧ Fm [319] M X ∧ X.1 319 12 = Int32.ofNat (tB b n p) ∧ X.1 319 16 = Int32.ofNat (tB b n p) ∧ ∀ k, k ≠ 12 → k ≠ 16 → X.1 319 k = M.1 319 k := by
    refine ⟨_, rfl, a2.set (by decide) _ _, ?_, ?_, fun k h1 h2 => ?_⟩
    · rw [sI_own, ud_ne _ _ (by decide)]; exact a3
    · rw [sI_own, ud_at]
    · rw [sI_own, ud_ne _ _ h2]; exact a4 k h1
  have hX := h.fm x2
  have bX := m_byteAt (i := tB b n p) hX ((x5 13 (by decide) (by decide)).trans hn) hn7 ((x2.2 329 (by decide)).trans eb) (by omega)
  obtain ⟨k0, k1, k2, k3⟩ := b9_ck (i := tB b n p) hb
  rw [show ck b n (tB b n p) = tK b n p from rfl] at k0 k1 k2 k3
  -- the end
  have fin : ∀ Z, Fm [319] M Z → (∀ k, (k < 12 ∨ k = 13 ∨ 17 < k) → Z.1 319 k = M.1 319 k) → Z.1 319 12 = Int32.ofNat (tE b n p) → Z.1 319 14 = Int32.ofNat (tK b n p) → Z.1 319 16 = Int32.ofNat (tB b n p) → (tK b n p = 2 → Z.1 319 15 = Int32.ofNat (nv b (tB b n p) (tE b n p - tB b n p))) →
      ∃ M', X12_stepOn_J211 319 Z = some M' ∧ Fm [319] M M' ∧ (∀ k, (k < 12 ∨ k = 13 ∨ 17 < k) → M'.1 319 k = M.1 319 k) ∧ RT M' b n p := fun Z z1 z2 z3 z4 z5 z6 => by
    have hZ := h.fm z1
    refine ⟨sI Z 319 17 (Int32.ofNat (tE b n p)), ?_, z1.set (by decide) _ _, fun k hk => by rw [sI_own, ud_ne _ _ (by omega)]; exact z2 k hk, ?_⟩
    · unfold X12_stepOn_J211
      rw [m_I hZ, bs, z3, m_P hZ, bs]
    · unfold RT
      rw [sI_own, ud_ne _ _ (by decide), ud_ne _ _ (by decide), ud_ne _ _ (by decide), ud_ne _ _ (by decide), ud_at, ud_ne _ _ (by decide)]
      exact ⟨(z2 13 (by omega)).trans hn, z3, z4, z5, rfl, z6, hp⟩
  have run0 : ∀ r, (if b9 b n (tB b n p) = -1 then (pfI X 319 12 14 0).bind fun M29 => X12_stepOn_J211 319 M29 else (sh_X12_isLetter (b9 b n (tB b n p)) X).bind fun q11 => if q11 = 0 then (sh_X12_isDigit (b9 b n (tB b n p)) X).bind fun q13 => if q13 = 0 then (gfI X 319 12 12).bind fun v15 => (pfI X 319 12 12 (v15 + 1)).bind fun M17 => if b9 b n (tB b n p) = 59 then X12_stepOn_J208 319 319 3 M17 else X12_stepOn_J208 319 319 4 M17 else (pfI X 319 12 15 0).bind fun M19 => (lp (X12_stepOn_B123 319) FU M19).bind fun r21 => (pfI r21 319 12 14 2).bind fun M23 => X12_stepOn_J211 319 M23 else (lp (X12_stepOn_B76 319) FU X).bind fun r25 => (pfI r25 319 12 14 1).bind fun M27 => X12_stepOn_J211 319 M27) = r → sh_X12_stepOn 319 M = r := fun r e => by
    rw [← e]
    unfold sh_X12_stepOn X12_stepOn_F
    rw [m_O h, bs, a1, bs, m_I hM1, bs, a3, m_P hM1, bs, ← x1, m_I hX, bs, x3, bX, bs]
  by_cases c0 : tK b n p = 0
  · have eE : tE b n p = tB b n p := by unfold tE; rw [if_pos c0]
    obtain ⟨M', f1, f2⟩ := fin (sI X 319 14 0) (x2.set (by decide) _ _) (fun k hk => by rw [sI_own, ud_ne _ _ (by omega)]; exact x5 k (by omega) (by omega)) (by rw [sI_own, ud_ne _ _ (by decide), eE]; exact x3) (by rw [sI_own, ud_at, c0]; rfl) (by rw [sI_own, ud_ne _ _ (by decide)]; exact x4) (fun q => by omega)
    refine ⟨M', run0 _ ?_, f2⟩
    rw [if_pos (k0.mpr c0), m_P hX, bs, f1]
  · by_cases c1 : tK b n p = 1
    · have run := tE_run (b := b) hp (Or.inl c1)
      rw [c1] at run
      have l2 : ∃ Z, lp (X12_stepOn_B76 319) FU X = some Z ∧ (Fm [319] M Z ∧ Z.1 319 12 = Int32.ofNat (tE b n p) ∧ ∀ k, k ≠ 12 → Z.1 319 k = X.1 319 k) := by
        refine lp_inv (fun j q => tB b n p + j ≤ tE b n p ∧ Fm [319] M q ∧ q.1 319 12 = Int32.ofNat (tB b n p + j) ∧ ∀ k, k ≠ 12 → q.1 319 k = X.1 319 k) _ (tE b n p - tB b n p) ?_ ?_ ⟨by omega, x2, x3, fun _ _ => rfl⟩ (by omega)
        · rintro j Y hj ⟨g1, g2, g3, g4⟩
          have hY := h.fm g2
          have ba := m_byteAt (i := tB b n p + j) hY ((g4 13 (by decide)).trans ((x5 13 (by decide) (by decide)).trans hn)) hn7 ((g2.2 329 (by decide)).trans eb) (by omega)
          have hl := (b9_ck (i := tB b n p + j) hb).2.1.mpr (run.1 _ (by omega) (by omega))
          refine Or.inl ⟨sI Y 319 12 (Int32.ofNat (tB b n p + (j + 1))), ?_, by omega, g2.set (by decide) _ _, by rw [sI_own, ud_at], fun k hk => by rw [sI_own, ud_ne _ _ hk]; exact g4 k hk⟩
          unfold X12_stepOn_B76
          rw [m_I hY, bs, g3, ba, bs, m_isLetter, bs, bI_t hl, if_neg (by decide), bs, pl1, m_P hY, bs]
          rfl
        · rintro Y ⟨g1, g2, g3, g4⟩
          rw [show tB b n p + (tE b n p - tB b n p) = tE b n p by omega] at g3
          have hY := h.fm g2
          have ba := m_byteAt (i := tE b n p) hY ((g4 13 (by decide)).trans ((x5 13 (by decide) (by decide)).trans hn)) hn7 ((g2.2 329 (by decide)).trans eb) (by omega)
          have hl : ¬ (¬ b9 b n (tE b n p) < 97 ∧ ¬ 122 < b9 b n (tE b n p)) := fun q => run.2 ((b9_ck (i := tE b n p) hb).2.1.mp q)
          refine ⟨Y, ?_, g2, g3, g4⟩
          unfold X12_stepOn_B76
          rw [m_I hY, bs, g3, ba, bs, m_isLetter, bs, bI_f hl, if_pos rfl]
      obtain ⟨Z, z1, z2, z3, z4⟩ := l2
      obtain ⟨M', f1, f2⟩ := fin (sI Z 319 14 1) (z2.set (by decide) _ _) (fun k hk => by rw [sI_own, ud_ne _ _ (by omega), z4 k (by omega)]; exact x5 k (by omega) (by omega)) (by rw [sI_own, ud_ne _ _ (by decide)]; exact z3) (by rw [sI_own, ud_at, c1]; rfl) (by rw [sI_own, ud_ne _ _ (by decide), z4 16 (by decide)]; exact x4) (fun q => by omega)
      refine ⟨M', run0 _ ?_, f2⟩
      rw [if_neg (fun q => c0 (k0.mp q)), m_isLetter, bs, bI_t (k1.mpr c1), if_neg (by decide), z1, bs, m_P (h.fm z2), bs, f1]
    · by_cases c2 : tK b n p = 2
      · have run := tE_run (b := b) hp (Or.inr c2)
        rw [c2] at run
        have l2 : ∃ Z, lp (X12_stepOn_B123 319) FU (sI X 319 15 0) = some Z ∧ (Fm [319] M Z ∧ Z.1 319 12 = Int32.ofNat (tE b n p) ∧ Z.1 319 15 = Int32.ofNat (nv b (tB b n p) (tE b n p - tB b n p)) ∧ ∀ k, k ≠ 12 → k ≠ 15 → Z.1 319 k = X.1 319 k) := by
          refine lp_inv (fun j q => tB b n p + j ≤ tE b n p ∧ Fm [319] M q ∧ q.1 319 12 = Int32.ofNat (tB b n p + j) ∧ q.1 319 15 = Int32.ofNat (nv b (tB b n p) j) ∧ ∀ k, k ≠ 12 → k ≠ 15 → q.1 319 k = X.1 319 k) _ (tE b n p - tB b n p) ?_ ?_ ⟨by omega, x2.set (by decide) _ _, by rw [sI_own, ud_ne _ _ (by decide)]; exact x3, by rw [sI_own, ud_at]; rfl, fun k _ hk => by rw [sI_own, ud_ne _ _ hk]⟩ (by omega)
          · rintro j Y hj ⟨g1, g2, g3, g5, g4⟩
            have hY := h.fm g2
            have ba := m_byteAt (i := tB b n p + j) hY ((g4 13 (by decide) (by decide)).trans ((x5 13 (by decide) (by decide)).trans hn)) hn7 ((g2.2 329 (by decide)).trans eb) (by omega)
            have hl := (b9_ck (i := tB b n p + j) hb).2.2.1.mpr (run.1 _ (by omega) (by omega))
            have e9 : b9 b n (tB b n p + j) = b (tB b n p + j) := by unfold b9; rw [if_neg (by omega)]
            have hnv := nv_le b (tB b n p) j
            have ev : minI 100000 (((10 * Int32.ofNat (nv b (tB b n p) j)) + b (tB b n p + j)) - 48) = Int32.ofNat (nv b (tB b n p) (j + 1)) := by
              rw [e9] at hl
              obtain ⟨m, em, -, hm⟩ := hb.2 (tB b n p + j) (by omega)
              rw [em] at hl
              have h48 : 48 ≤ m := by
                have := hl.1
                rw [show (48 : Int32) = Int32.ofNat 48 from rfl, lt_n (by omega) (by omega)] at this
                omega
              rw [em, show (10 : Int32) = Int32.ofNat 10 from rfl, ← Int32.ofNat_mul, ad_n, show (48 : Int32) = Int32.ofNat 48 from rfl, sub_n (by omega) (by omega), show (100000 : Int32) = Int32.ofNat 100000 from rfl, min_n (by omega) (by omega)]
              have e : nv b (tB b n p) (j + 1) = min 100000 (10 * nv b (tB b n p) j + (m - 48)) := by
                rw [nv, em, nn m (by omega)]
              rw [e, show 10 * nv b (tB b n p) j + m - 48 = 10 * nv b (tB b n p) j + (m - 48) by omega]
            refine Or.inl ⟨sI (sI Y 319 15 (Int32.ofNat (nv b (tB b n p) (j + 1)))) 319 12 (Int32.ofNat (tB b n p + (j + 1))), ?_, by omega, (g2.set (by decide) _ _).set (by decide) _ _, by rw [sI_own, ud_at], by rw [sI_own, ud_ne _ _ (by decide), sI_own, ud_at], fun k hk hk' => by rw [sI_own, ud_ne _ _ hk, sI_own, ud_ne _ _ hk']; exact g4 k hk hk'⟩
            unfold X12_stepOn_B123
            rw [m_I hY, bs, g3, ba, bs, m_isDigit, bs, bI_t hl, if_neg (by decide)]
            simp only [m_I hY, bs, g3, g5, ba, m_min, e9, ev, m_P hY, m_I (hY.sI 319 15 _), m_P (hY.sI 319 15 _)]
            rw [sI_own, ud_ne _ _ (by decide), g3, pl1]
            rfl
          · rintro Y ⟨g1, g2, g3, g5, g4⟩
            rw [show tB b n p + (tE b n p - tB b n p) = tE b n p by omega] at g3
            have hY := h.fm g2
            have ba := m_byteAt (i := tE b n p) hY ((g4 13 (by decide) (by decide)).trans ((x5 13 (by decide) (by decide)).trans hn)) hn7 ((g2.2 329 (by decide)).trans eb) (by omega)
            have hl : ¬ (¬ b9 b n (tE b n p) < 48 ∧ ¬ 57 < b9 b n (tE b n p)) := fun q => run.2 ((b9_ck (i := tE b n p) hb).2.2.1.mp q)
            refine ⟨Y, ?_, g2, g3, g5, g4⟩
            unfold X12_stepOn_B123
            rw [m_I hY, bs, g3, ba, bs, m_isDigit, bs, bI_f hl, if_pos rfl]
        obtain ⟨Z, z1, z2, z3, z5, z4⟩ := l2
        obtain ⟨M', f1, f2⟩ := fin (sI Z 319 14 2) (z2.set (by decide) _ _) (fun k hk => by rw [sI_own, ud_ne _ _ (by omega), z4 k (by omega) (by omega)]; exact x5 k (by omega) (by omega)) (by rw [sI_own, ud_ne _ _ (by decide)]; exact z3) (by rw [sI_own, ud_at, c2]; rfl) (by rw [sI_own, ud_ne _ _ (by decide), z4 16 (by decide) (by decide)]; exact x4) (fun _ => by rw [sI_own, ud_ne _ _ (by decide)]; exact z5)
        refine ⟨M', run0 _ ?_, f2⟩
        rw [if_neg (fun q => c0 (k0.mp q)), m_isLetter, bs, bI_f (fun q => c1 (k1.mp q)), if_pos rfl, m_isDigit, bs, bI_t (k2.mpr c2), if_neg (by decide), m_P hX, bs, z1, bs, m_P (h.fm z2), bs, f1]
      · have eE : tE b n p = tB b n p + 1 := by unfold tE; rw [if_neg c0, if_neg (by omega)]
        have k4 : tK b n p ≤ 4 := ck_4 b n (tB b n p)
        have one : ∀ c : Int32, c = Int32.ofNat (tK b n p) → ∃ M', X12_stepOn_J208 319 319 c (sI X 319 12 (Int32.ofNat (tB b n p + 1))) = some M' ∧ Fm [319] M M' ∧ (∀ k, (k < 12 ∨ k = 13 ∨ 17 < k) → M'.1 319 k = M.1 319 k) ∧ RT M' b n p := fun c ec => by
          obtain ⟨M', f1, f2⟩ := fin (sI (sI X 319 12 (Int32.ofNat (tB b n p + 1))) 319 14 c) ((x2.set (by decide) _ _).set (by decide) _ _) (fun k hk => by rw [sI_own, ud_ne _ _ (by omega), sI_own, ud_ne _ _ (by omega)]; exact x5 k (by omega) (by omega)) (by rw [sI_own, ud_ne _ _ (by decide), sI_own, ud_at, eE]) (by rw [sI_own, ud_at]; exact ec) (by rw [sI_own, ud_ne _ _ (by decide), sI_own, ud_ne _ _ (by decide)]; exact x4) (fun q => by omega)
          refine ⟨M', ?_, f2⟩
          unfold X12_stepOn_J208
          rw [m_P (hX.sI _ _ _), bs, f1]
        by_cases c3 : tK b n p = 3
        · obtain ⟨M', f1, f2⟩ := one 3 (by rw [c3]; rfl)
          refine ⟨M', run0 _ ?_, f2⟩
          rw [if_neg (fun q => c0 (k0.mp q)), m_isLetter, bs, bI_f (fun q => c1 (k1.mp q)), if_pos rfl, m_isDigit, bs, bI_f (fun q => c2 (k2.mp q)), if_pos rfl, m_I hX, bs, x3, pl1, m_P hX, bs, if_pos (k3.mpr c3), f1]
        · obtain ⟨M', f1, f2⟩ := one 4 (by rw [show tK b n p = 4 by omega]; rfl)
          refine ⟨M', run0 _ ?_, f2⟩
          rw [if_neg (fun q => c0 (k0.mp q)), m_isLetter, bs, bI_f (fun q => c1 (k1.mp q)), if_pos rfl, m_isDigit, bs, bI_f (fun q => c2 (k2.mp q)), if_pos rfl, m_I hX, bs, x3, pl1, m_P hX, bs, if_neg (fun q => c3 (k3.mp q)), f1]
end
