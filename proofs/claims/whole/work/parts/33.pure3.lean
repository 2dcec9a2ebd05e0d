/-! ===== PURE 3: the reference's log, turns, steps, moves, shuts ===== -/
def minI (a b : Int32) : Int32 := if b < a then b else a
def maxI (a b : Int32) : Int32 := if a < b then b else a
theorem m_min {a b : Int32} {M : Gm} : sh_J9_min_7cf53 a b M = some (minI a b) := by
  unfold sh_J9_min_7cf53 J9_min_7cf53_F J9_min_7cf53_J10 minI
  split <;> rfl
theorem m_max {a b : Int32} {M : Gm} : sh_J9_max_7cf53 a b M = some (maxI a b) := by
  unfold sh_J9_max_7cf53 J9_max_7cf53_F J9_max_7cf53_J10 maxI
  split <;> rfl
theorem rm40 {n : Nat} (h : n < 2147483648) : rmI (Int32.ofNat n) 40 = some (Int32.ofNat (n % 40)) := by
  unfold rmI
  rw [if_neg (by decide), show (40 : Int32) = Int32.ofNat 40 from rfl, ← Int32.ofNat_div h (by decide), ← Int32.ofNat_mul, ← Int32.ofNat_sub _ _ (by omega)]
  congr 2
  omega
theorem pl1 (j : Nat) : Int32.ofNat j + 1 = Int32.ofNat (j + 1) := (Int32.ofNat_add j 1).symm
theorem pl2 (j : Nat) : Int32.ofNat j + 2 = Int32.ofNat (j + 2) := (Int32.ofNat_add j 2).symm
theorem pl3 (j : Nat) : Int32.ofNat j + 3 = Int32.ofNat (j + 3) := (Int32.ofNat_add j 3).symm
/-- how many rows were ever logged -/
def lg (N : Nat → Int32) : Nat := (N 144).toNatClampNeg
def LgOk (N : Nat → Int32) (b : Nat) : Prop := N 144 = Int32.ofNat (lg N) ∧ lg N ≤ b
def mLogs (N : Nat → Int32) (a b c : Int32) : Nat → Int32 :=
  ud (ud (ud (ud (ud N (145 + 4 * (lg N % 40)) (N 142)) (145 + 4 * (lg N % 40) + 1) a) (145 + 4 * (lg N % 40) + 2) b) (145 + 4 * (lg N % 40) + 3) c) 144 (N 144 + 1)
theorem LgOk.logs {N : Nat → Int32} {k : Nat} (h : LgOk N k) (hk : k < 2147483647) (a b c : Int32) : LgOk (mLogs N a b c) (k + 1) := by
  have e : mLogs N a b c 144 = Int32.ofNat (lg N + 1) := by
    have e1 : mLogs N a b c 144 = N 144 + 1 := ud_at _ _ _
    rw [e1, ← pl1, ← h.1]
  have h2 := h.2
  unfold LgOk lg
  rw [e, nn _ (by omega)]
  exact ⟨rfl, by omega⟩
theorem lg_rm {N : Nat → Int32} {k : Nat} (hL : LgOk N k) (hk : k < 2147483647) : rmI (N 144) 40 = some (Int32.ofNat (lg N % 40)) := by
  have h2 := hL.2
  have h3 : lg N < 2147483648 := by omega
  rw [hL.1, rm40 h3]
theorem bs {α β : Type} (a : α) (f : α → Option β) : (some a).bind f = f a := by simp
theorem m_logs0 {M : Gm} (hM : Ky M) (a b c : Int32) {r : Nat} (hr : rmI (M.1 324 144) 40 = some (Int32.ofNat r)) (hr40 : r < 40) : sh_X12_logs 319 a b c M = some (wR M 324 (ud (ud (ud (ud (ud (M.1 324) (145 + 4 * r) (M.1 324 142)) (145 + 4 * r + 1) a) (145 + 4 * r + 2) b) (145 + 4 * r + 3) c) 144 (M.1 324 144 + 1))) := by
  unfold sh_X12_logs X12_logs_F
  rw [m_O hM]
  simp (disch := omega) only [bs, m_now hM, ld324_144 hM, ld324_142 hM, hr, mu4, ix145, pl1, pl2, pl3, st324 hM, sI_wR, wR_wR, wR_own, m_now (hM.wR 324 _), st324 (hM.wR 324 _), ld324_144 (hM.wR 324 _), st324_144 (hM.wR 324 _), ud_ne]
theorem m_logs {M : Gm} (hM : Ky M) {k : Nat} (hL : LgOk (M.1 324) k) (hk : k < 2147483647) (a b c : Int32) : sh_X12_logs 319 a b c M = some (wR M 324 (mLogs (M.1 324) a b c)) := by
  exact m_logs0 hM a b c (lg_rm hL hk) (Nat.mod_lt _ (by decide))

/-! turns -/
def mTurn (T N : Nat → Int32) (t : Nat) : Nat → Int32 :=
  if N (50 + t) = 0 ∧ ¬ N (20 + (T (15 + t)).toNatClampNeg) < T (35 + t) then mLogs (ud (ud N (50 + t) 1) (60 + t) (N (60 + t) + 1)) 1 (T (15 + t)) (Int32.ofNat t)
  else if N (50 + t) = 1 ∧ ¬ T (35 + t) - T (45 + t) ≤ N (20 + (T (15 + t)).toNatClampNeg) then mLogs (ud N (50 + t) 0) 2 (T (15 + t)) (Int32.ofNat t)
  else N
theorem LgOk.ud {N : Nat → Int32} {k : Nat} (h : LgOk N k) {j : Nat} (x : Int32) (hj : j ≠ 144) : LgOk (ud N j x) k := by
  unfold LgOk lg
  rw [ud_ne N x (show 144 ≠ j from fun e => hj e.symm)]
  exact h
theorem LgOk.w {N : Nat → Int32} {k k' : Nat} (h : LgOk N k) (hk : k ≤ k') : LgOk N k' := ⟨h.1, Nat.le_trans h.2 hk⟩
theorem LgOk.turn {T N : Nat → Int32} {k : Nat} (h : LgOk N k) (hk : k < 2147483647) {t : Nat} (ht : t < 10) : LgOk (mTurn T N t) (k + 1) := by
  unfold mTurn
  split
  · exact ((h.ud _ (by omega)).ud _ (by omega)).logs hk _ _ _
  · split
    · exact (h.ud _ (by omega)).logs hk _ _ _
    · exact h.w (by omega)
theorem m_turns {M : Gm} (hM : Ky M) (hT : TOk (M.1 325)) {k : Nat} (hL : LgOk (M.1 324) k) (hk : k < 2147483647) {t : Nat} (ht : t < tt (M.1 325)) : sh_X12_turns 319 (Int32.ofNat t) M = some (wR M 324 (mTurn (M.1 325) (M.1 324) t)) := by
  have ht10 : t < 10 := by have := hT.t.2; omega
  have hz5 := hT.z.2
  obtain ⟨⟨z, hz, ez⟩, -⟩ := hT.2.2.1 t ht
  have nz : (M.1 325 (15 + t)).toNatClampNeg = z := by rw [ez]; exact nn z (by omega)
  have zo : ∀ N, sh_X12_zoneOf 319 (Int32.ofNat t) (wR M 324 N) = some (Int32.ofNat z) := fun N => by rw [m_zoneOf (hM.wR 324 N) ht10, wR_ne _ _ (by decide), ez]
  have hl1 := m_logs (hM.wR 324 (ud (ud (M.1 324) (50 + t) 1) (60 + t) (M.1 324 (60 + t) + 1))) (k := k) (by rw [wR_own]; exact (hL.ud _ (by omega)).ud _ (by omega)) hk 1 (Int32.ofNat z) (Int32.ofNat t)
  have hl2 := m_logs (hM.wR 324 (ud (M.1 324) (50 + t) 0)) (k := k) (by rw [wR_own]; exact hL.ud _ (by omega)) hk 2 (Int32.ofNat z) (Int32.ofNat t)
  rw [wR_own, wR_wR] at hl1 hl2
  have hJ : X12_turns_J76 319 (Int32.ofNat t) (M.1 324 (20 + z)) M = some (wR M 324 (if M.1 324 (50 + t) = 1 ∧ ¬ M.1 325 (35 + t) - M.1 325 (45 + t) ≤ M.1 324 (20 + z) then mLogs (ud (M.1 324) (50 + t) 0) 2 (Int32.ofNat z) (Int32.ofNat t) else M.1 324)) := by
    unfold X12_turns_J76 X12_turns_J133
    simp (disch := omega) only [Option.bind_some, m_now hM, m_told hM, ix50, ix35, ix45, ld324 hM, ld325 hM, st324 hM, sI_wR, zo, hl2]
    by_cases c1 : M.1 324 (50 + t) = 1
    · rw [if_pos c1]
      by_cases c2 : M.1 325 (35 + t) - M.1 325 (45 + t) ≤ M.1 324 (20 + z)
      · rw [if_pos c2, if_neg (fun q => q.2 c2), wR_self]
      · rw [if_neg c2, if_pos ⟨c1, c2⟩]
    · rw [if_neg c1, if_neg (fun q => c1 q.1), wR_self]
  unfold sh_X12_turns X12_turns_F mTurn X12_turns_J133
  rw [m_O hM]
  simp (disch := omega) only [Option.bind_some, m_now hM, m_told hM, m_zoneOf hM, ez, nn, ix20, ix50, ix35, ix60, ld324 hM, ld325 hM, st324 hM, sI_wR, wR_own, wR_wR, ud_ne, m_now (hM.wR 324 _), ld324 (hM.wR 324 _), st324 (hM.wR 324 _), zo, hl1, hJ]
  by_cases c0 : M.1 324 (50 + t) = 0
  · rw [if_pos c0]
    by_cases c1 : M.1 324 (20 + z) < M.1 325 (35 + t)
    · rw [if_pos c1, if_neg (c := M.1 324 (50 + t) = 0 ∧ ¬ M.1 324 (20 + z) < M.1 325 (35 + t)) (fun q => q.2 c1)]
    · rw [if_neg c1, if_pos (c := M.1 324 (50 + t) = 0 ∧ _) ⟨c0, c1⟩]
  · rw [if_neg c0, if_neg (c := M.1 324 (50 + t) = 0 ∧ _) (fun q => c0 q.1)]
/-! steps -/
def stepV (on slope v : Int32) : Int32 := if on = 1 ∧ ¬ slope ≤ 0 then v + 1 else if on = 0 ∨ ¬ 0 ≤ slope then v + (-1) else v
def mStepTo (T N : Nat → Int32) (t : Nat) : Nat → Nat → Int32
  | 0 => N
  | d + 1 => if T (79 + 6 * t + d) = 0 then mStepTo T N t d
    else ud (mStepTo T N t d) (82 + 6 * t + d) (heldI (stepV (mStepTo T N t d (50 + t)) (N (25 + (T (15 + t)).toNatClampNeg)) (mStepTo T N t d (82 + 6 * t + d))) 0 (T (67 + d)))
theorem m_steps {M : Gm} (hM : Ky M) (hT : TOk (M.1 325)) {t : Nat} (ht : t < tt (M.1 325)) : sh_X12_steps 319 (Int32.ofNat t) M = some (wR M 324 (mStepTo (M.1 325) (M.1 324) t (td (M.1 325)))) := by
  have ht10 : t < 10 := by have := hT.t.2; omega
  have hz5 := hT.z.2
  have hd := hT.d
  obtain ⟨⟨z, hz, ez⟩, -⟩ := hT.2.2.1 t ht
  have hl : lp (X12_steps_B16 319 (Int32.ofNat t) (M.1 324 (25 + z))) FU (0, M) = some (wR M 324 (mStepTo (M.1 325) (M.1 324) t (td (M.1 325)))) := by
    have h0 : ((0 : Int32), M) = (fun j => (Int32.ofNat j, wR M 324 (mStepTo (M.1 325) (M.1 324) t j))) 0 := by
      show _ = (Int32.ofNat 0, wR M 324 (M.1 324))
      rw [wR_self]; rfl
    rw [h0]
    refine lp_for (s := fun j => (Int32.ofNat j, wR M 324 (mStepTo (M.1 325) (M.1 324) t j))) _ (td (M.1 325)) (fun j hj => ?_) ?_ (by omega)
    · have hM1 := hM.wR 324 (mStepTo (M.1 325) (M.1 324) t j)
      have e5 : (wR M 324 (mStepTo (M.1 325) (M.1 324) t j)).1 325 = M.1 325 := wR_ne _ _ (by decide)
      have h86 : ∀ v, X12_steps_J86 319 (Int32.ofNat t) (M.1 324 (25 + z)) (Int32.ofNat j) v (wR M 324 (mStepTo (M.1 325) (M.1 324) t j)) = some (.inl (Int32.ofNat (j + 1), wR M 324 (ud (mStepTo (M.1 325) (M.1 324) t j) (82 + 6 * t + j) (heldI v 0 (M.1 325 (67 + j)))))) := fun v => by
        unfold X12_steps_J86 X12_steps_J107
        simp (disch := omega) only [Option.bind_some, m_told hM1, ix67, ld325 hM1, e5, m_held, m_wants hM1, sI_wR, wR_wR, wR_own, suc_n]
      unfold X12_steps_B16 X12_steps_J67 X12_steps_J83 X12_steps_J107
      simp (disch := omega) only [m_devices hM1, e5, hd.1, Option.bind_some, le_n, m_weight hM1, m_wanted hM1, wR_own, m_now hM1, ix50, ld324 hM1, h86, suc_n]
      rw [if_neg (by omega)]
      show _ = some (Sum.inl (Int32.ofNat (j + 1), wR M 324 (if M.1 325 (79 + 6 * t + j) = 0 then mStepTo (M.1 325) (M.1 324) t j
        else ud (mStepTo (M.1 325) (M.1 324) t j) (82 + 6 * t + j) (heldI (stepV (mStepTo (M.1 325) (M.1 324) t j (50 + t)) (M.1 324 (25 + (M.1 325 (15 + t)).toNatClampNeg)) (mStepTo (M.1 325) (M.1 324) t j (82 + 6 * t + j))) 0 (M.1 325 (67 + j))))))
      rw [ez, nn z (by omega)]
      by_cases c0 : M.1 325 (79 + 6 * t + j) = 0
      · rw [if_pos c0, if_pos c0]
      · rw [if_neg c0, if_neg c0]
        unfold stepV
        by_cases c1 : mStepTo (M.1 325) (M.1 324) t j (50 + t) = 1
        · have c10 : ¬ mStepTo (M.1 325) (M.1 324) t j (50 + t) = 0 := by rw [c1]; decide
          rw [if_pos c1, if_neg c10]
          by_cases c2 : M.1 324 (25 + z) ≤ 0
          · rw [if_pos c2, if_neg (c := _ ∧ ¬ M.1 324 (25 + z) ≤ 0) (fun q => q.2 c2)]
            by_cases c3 : 0 ≤ M.1 324 (25 + z)
            · rw [if_pos c3, if_neg (c := _ ∨ _) (by rintro (q | q); exact c10 q; exact q c3)]
            · rw [if_neg c3, if_pos (c := _ ∨ _) (Or.inr c3)]
          · rw [if_neg c2, if_pos (c := _ ∧ _) ⟨c1, c2⟩]
        · rw [if_neg c1, if_neg (c := _ ∧ _) (fun q => c1 q.1)]
          by_cases c2 : mStepTo (M.1 325) (M.1 324) t j (50 + t) = 0
          · rw [if_pos c2, if_pos (c := _ ∨ _) (Or.inl c2)]
          · rw [if_neg c2]
            by_cases c3 : 0 ≤ M.1 324 (25 + z)
            · rw [if_pos c3, if_neg (c := _ ∨ _) (by rintro (q | q); exact c2 q; exact q c3)]
            · rw [if_neg c3, if_pos (c := _ ∨ _) (Or.inr c3)]
    · have hM1 := hM.wR 324 (mStepTo (M.1 325) (M.1 324) t (td (M.1 325)))
      have e5 : (wR M 324 (mStepTo (M.1 325) (M.1 324) t (td (M.1 325)))).1 325 = M.1 325 := wR_ne _ _ (by decide)
      unfold X12_steps_B16
      simp (disch := omega) only [m_devices hM1, e5, hd.1, Option.bind_some, le_n]
      rw [if_pos (Nat.le_refl _)]
  unfold sh_X12_steps X12_steps_F
  rw [m_O hM]
  simp (disch := omega) only [Option.bind_some, m_now hM, m_zoneOf hM, ez, ix25, ld324 hM, hl]
/-! asked -/
def mostS (T : Nat → Int32) (t : Nat) : Nat → Int32
  | 0 => 0
  | d + 1 => mostS T t d + (if T (79 + 6 * t + d) ≤ 0 then 0 else T (67 + d))
def mAsked (T N : Nat → Int32) (t : Nat) : Int32 :=
  if T (25 + t) = 1 then (if N (50 + t) = 0 then 0 else minI (mostS T t (td T)) (maxI 1 (byI (N (20 + (T (15 + t)).toNatClampNeg) - T (35 + t)) 10 + 1))) else 0
theorem m_asked {M : Gm} (hM : Ky M) (hT : TOk (M.1 325)) {t : Nat} (ht : t < tt (M.1 325)) : sh_X12_askedOf 319 (Int32.ofNat t) M = some (mAsked (M.1 325) (M.1 324) t) := by
  have ht10 : t < 10 := by have := hT.t.2; omega
  have hz5 := hT.z.2
  have hd := hT.d
  obtain ⟨⟨z, hz, ez⟩, -⟩ := hT.2.2.1 t ht
  have hl : lp (X12_askedOf_B31 319 (Int32.ofNat t) M) FU (0, 0) = some (mostS (M.1 325) t (td (M.1 325))) := by
    refine lp_for (s := fun j => (mostS (M.1 325) t j, Int32.ofNat j)) _ (td (M.1 325)) (fun j hj => ?_) ?_ (by omega)
    · unfold X12_askedOf_B31 X12_askedOf_J62
      simp (disch := omega) only [m_devices hM, hd.1, Option.bind_some, le_n, m_weight hM, m_told hM, ix67, ld325 hM, suc_n]
      rw [if_neg (by omega)]
      by_cases c : M.1 325 (79 + 6 * t + j) ≤ 0
      · simp only [if_pos c, mostS]
      · simp only [if_neg c, mostS]
    · unfold X12_askedOf_B31
      simp (disch := omega) only [m_devices hM, hd.1, Option.bind_some, le_n]
      rw [if_pos (Nat.le_refl _)]
  unfold sh_X12_askedOf X12_askedOf_F mAsked X12_askedOf_J25
  rw [m_O hM]
  simp (disch := omega) only [Option.bind_some, m_now hM, m_told hM, m_zoneOf hM, ez, nn, ix25, ix50, ix20, ix35, ld324 hM, ld325 hM, hl, m_by (show (10 : Int32) ≠ 0 by decide), m_min, m_max]
  by_cases c : M.1 325 (25 + t) = 1
  · rw [if_pos c, if_pos c]
    by_cases c' : M.1 324 (50 + t) = 0
    · rw [if_pos c', if_pos c']
    · rw [if_neg c', if_neg c']
  · rw [if_neg c, if_neg c]
/-! moves -/
def mostW (T N : Nat → Int32) (d : Nat) : Nat → Int32
  | 0 => 0
  | t + 1 => if T (79 + 6 * t + d) ≤ 0 then mostW T N d t else maxI (mostW T N d t) (N (82 + 6 * t + d))
theorem m_mostWanted {M : Gm} (hM : Ky M) (hT : TOk (M.1 325)) {d : Nat} (hd : d < 6) : sh_X12_mostWanted 319 (Int32.ofNat d) M = some (mostW (M.1 325) (M.1 324) d (tt (M.1 325))) := by
  have ht := hT.t
  have hl : lp (X12_mostWanted_B4 319 (Int32.ofNat d) M) FU (0, 0) = some (mostW (M.1 325) (M.1 324) d (tt (M.1 325))) := by
    refine lp_for (s := fun j => (mostW (M.1 325) (M.1 324) d j, Int32.ofNat j)) _ (tt (M.1 325)) (fun j hj => ?_) ?_ (by omega)
    · unfold X12_mostWanted_B4 X12_mostWanted_J35
      simp (disch := omega) only [m_trips hM, ht.1, Option.bind_some, le_n, m_weight hM, m_wanted hM, m_max, suc_n]
      rw [if_neg (by omega)]
      by_cases c : M.1 325 (79 + 6 * j + d) ≤ 0
      · simp only [if_pos c, mostW]
      · simp only [if_neg c, mostW]
    · unfold X12_mostWanted_B4
      simp (disch := omega) only [m_trips hM, ht.1, Option.bind_some, le_n]
      rw [if_pos (Nat.le_refl _)]
  unfold sh_X12_mostWanted X12_mostWanted_F
  rw [m_O hM]
  simp only [Option.bind_some, hl]
def moveI (mk s to : Int32) : Int32 := if mk = 1 ∨ (mk = 2 ∧ ¬ to ≤ s) then to else if to ≤ s then (if s ≤ to then s else s - 1) else s + 1
def goalD (T N : Nat → Int32) (d : Nat) : Int32 := if N (76 + d) = -1 then mostW T N d (tt T) else N (76 + d)
def mMove (T N : Nat → Int32) (d : Nat) : Nat → Int32 := ud N (70 + d) (moveI (T (55 + d)) (N (70 + d)) (goalD T N d))
theorem m_moves {M : Gm} (hM : Ky M) (hT : TOk (M.1 325)) {d : Nat} (hd : d < 6) : sh_X12_moves 319 (Int32.ofNat d) M = some (wR M 324 (mMove (M.1 325) (M.1 324) d)) := by
  have hJ : ∀ to, X12_moves_J30 319 (Int32.ofNat d) to M = some (wR M 324 (ud (M.1 324) (70 + d) (moveI (M.1 325 (55 + d)) (M.1 324 (70 + d)) to))) := fun to => by
    unfold X12_moves_J30 X12_moves_J72 X12_moves_J76 X12_moves_J77 X12_moves_J119 moveI
    simp (disch := omega) only [Option.bind_some, m_now hM, m_told hM, ix70, ix55, ld324 hM, ld325 hM, st324 hM, sI_wR]
    by_cases c1 : M.1 325 (55 + d) = 1
    · rw [if_pos c1, if_pos (c := _ ∨ _) (Or.inl c1), if_neg (by decide)]
    · rw [if_neg c1]
      by_cases c2 : M.1 325 (55 + d) = 2
      · rw [if_pos c2]
        by_cases c3 : to ≤ M.1 324 (70 + d)
        · rw [if_pos c3, if_neg (c := _ ∨ _) (by rintro (q | q); exact c1 q; exact q.2 c3), if_pos c3, if_pos c3, if_pos trivial]
          split <;> rfl
        · rw [if_neg c3, if_pos (c := _ ∨ _) (Or.inr ⟨c2, c3⟩), if_neg (by decide)]
      · rw [if_neg c2, if_neg (c := _ ∨ _) (by rintro (q | q); exact c1 q; exact c2 q.1), if_pos trivial]
        by_cases c3 : to ≤ M.1 324 (70 + d)
        · rw [if_pos c3, if_pos c3]
          split <;> rfl
        · rw [if_neg c3, if_neg c3]
  unfold sh_X12_moves X12_moves_F mMove goalD
  rw [m_O hM]
  simp (disch := omega) only [Option.bind_some, m_now hM, ix76, ld324 hM, m_mostWanted hM hT, hJ]
  split <;> rfl
/-! shuts -/
def spentTo (T N : Nat → Int32) (z : Int32) : Nat → Int32
  | 0 => 1
  | j + 1 => if spentTo T N z j = 0 then 0 else if T (61 + j) = z then (if N (70 + j) = T (67 + j) then 1 else 0) else 1
theorem spent_01 (T N : Nat → Int32) (z : Int32) (j : Nat) : spentTo T N z j = 0 ∨ spentTo T N z j = 1 := by
  cases j with
  | zero => exact Or.inr rfl
  | succ j =>
    unfold spentTo
    split
    · exact Or.inl rfl
    · split
      · split
        · exact Or.inr rfl
        · exact Or.inl rfl
      · exact Or.inr rfl
theorem m_isSpent {M : Gm} (hM : Ky M) (hT : TOk (M.1 325)) (z : Int32) : sh_X12_isSpent 319 z M = some (spentTo (M.1 325) (M.1 324) z (td (M.1 325))) := by
  have hd := hT.d
  have hl : lp (X12_isSpent_B4 319 z M) FU (1, 0) = some (spentTo (M.1 325) (M.1 324) z (td (M.1 325))) := by
    refine lp_for (s := fun j => (spentTo (M.1 325) (M.1 324) z j, Int32.ofNat j)) _ (td (M.1 325)) (fun j hj => ?_) ?_ (by omega)
    · unfold X12_isSpent_B4 X12_isSpent_J50 X12_isSpent_J54 X12_isSpent_J55
      simp (disch := omega) only [m_devices hM, hd.1, Option.bind_some, le_n, m_told hM, m_now hM, ix61, ix70, ix67, ld325 hM, ld324 hM, suc_n]
      rw [if_neg (by omega)]
      by_cases c : spentTo (M.1 325) (M.1 324) z j = 0
      · simp only [if_pos c, spentTo]
      · simp only [if_neg c, spentTo]
        by_cases c2 : M.1 325 (61 + j) = z
        · simp only [if_pos c2]
          split <;> rfl
        · simp only [if_neg c2]
    · unfold X12_isSpent_B4
      simp (disch := omega) only [m_devices hM, hd.1, Option.bind_some, le_n]
      rw [if_pos (Nat.le_refl _)]
  unfold sh_X12_isSpent X12_isSpent_F
  rw [m_O hM]
  simp only [Option.bind_some, hl]
  unfold zck
  rw [if_pos (spent_01 _ _ _ _)]
  rfl
def soonT (T N : Nat → Int32) (t : Nat) : Prop := ¬ N 143 ≤ 0 ∧ ¬ N (25 + (T (15 + t)).toNatClampNeg) ≤ 0 ∧ ¬ spentTo T N (T (15 + t)) (td T) = 0 ∧ ¬ N (20 + (T (15 + t)).toNatClampNeg) + N (25 + (T (15 + t)).toNatClampNeg) * N 143 < T (35 + t)
def shutNow (T N : Nat → Int32) (t : Nat) : Nat → Int32 :=
  mLogs (ud (ud N (10 + (T (15 + t)).toNatClampNeg) 1) (15 + (T (15 + t)).toNatClampNeg) (if N (50 + t) = 1 then 1 else 2)) (if N (50 + t) = 1 then 3 else 4) (T (15 + t)) (Int32.ofNat t)
noncomputable def mShut (T N : Nat → Int32) (t : Nat) : Nat → Int32 :=
  if T (25 + t) = 3 then (if N (10 + (T (15 + t)).toNatClampNeg) = 1 then N else
    (haveI := Classical.propDecidable (soonT T N t); if N (50 + t) = 0 ∧ ¬ soonT T N t then N else shutNow T N t)) else N
theorem LgOk.shut {T N : Nat → Int32} {k : Nat} (h : LgOk N k) (hk : k < 2147483647) {t : Nat} (hz : (T (15 + t)).toNatClampNeg < 5) : LgOk (mShut T N t) (k + 1) := by
  unfold mShut
  split
  · split
    · exact h.w (by omega)
    · split
      · exact h.w (by omega)
      · exact ((h.ud _ (by omega)).ud _ (by omega)).logs hk _ _ _
  · exact h.w (by omega)
theorem m_shuts {M : Gm} (hM : Ky M) (hT : TOk (M.1 325)) {k : Nat} (hL : LgOk (M.1 324) k) (hk : k < 2147483647) {t : Nat} (ht : t < tt (M.1 325)) : sh_X12_shuts 319 (Int32.ofNat t) M = some (wR M 324 (mShut (M.1 325) (M.1 324) t)) := by
  have ht10 : t < 10 := by have := hT.t.2; omega
  have hz5 := hT.z.2
  obtain ⟨⟨z, hz, ez⟩, -⟩ := hT.2.2.1 t ht
  have nz : (M.1 325 (15 + t)).toNatClampNeg = z := by rw [ez]; exact nn z (by omega)
  have hJ : X12_shuts_J127 319 (Int32.ofNat t) (Int32.ofNat z) M = some (wR M 324 (shutNow (M.1 325) (M.1 324) t)) := by
    have hl : ∀ a x, sh_X12_logs 319 a (Int32.ofNat z) (Int32.ofNat t) (wR M 324 (ud (ud (M.1 324) (10 + z) 1) (15 + z) x)) = some (wR M 324 (mLogs (ud (ud (M.1 324) (10 + z) 1) (15 + z) x) a (Int32.ofNat z) (Int32.ofNat t))) := fun a x => by
      have := m_logs (hM.wR 324 (ud (ud (M.1 324) (10 + z) 1) (15 + z) x)) (k := k) (by rw [wR_own]; exact (hL.ud _ (by omega)).ud _ (by omega)) hk a (Int32.ofNat z) (Int32.ofNat t)
      rw [wR_own, wR_wR] at this
      exact this
    unfold X12_shuts_J127 X12_shuts_J163 X12_shuts_J183 shutNow
    rw [nz, ez]
    simp (disch := omega) only [Option.bind_some, m_now hM, ix10, ix15, ix50, st324 hM, sI_wR, m_now (hM.wR 324 _), ld324 (hM.wR 324 _), st324 (hM.wR 324 _), wR_own, wR_wR, ud_ne, hl]
    by_cases c : M.1 324 (50 + t) = 1
    · simp only [if_pos c]
    · simp only [if_neg c]
  have h109 : ∀ s0, X12_shuts_J109 319 (Int32.ofNat t) (Int32.ofNat z) s0 M = some (wR M 324 (if M.1 324 (50 + t) = 0 ∧ s0 = 0 then M.1 324 else shutNow (M.1 325) (M.1 324) t)) := fun s0 => by
    unfold X12_shuts_J109
    simp (disch := omega) only [Option.bind_some, m_now hM, ix50, ld324 hM, hJ]
    by_cases c : M.1 324 (50 + t) = 0
    · rw [if_pos c]
      by_cases c' : s0 = 0
      · rw [if_pos c', if_pos ⟨c, c'⟩, wR_self]
      · rw [if_neg c', if_neg (c := _ ∧ _) (fun q => c' q.2)]
    · rw [if_neg c, if_neg (c := _ ∧ _) (fun q => c q.1)]
  unfold sh_X12_shuts X12_shuts_F mShut X12_shuts_J32 X12_shuts_J108
  rw [m_O hM]
  simp (disch := omega) only [Option.bind_some, m_now hM, m_told hM, m_zoneOf hM, ez, nn, ix25, ix10, ix20, ix35, ld324 hM, ld325 hM, ld324_143 hM, m_isSpent hM hT, h109]
  have hs : soonT (M.1 325) (M.1 324) t ↔ (¬ M.1 324 143 ≤ 0 ∧ ¬ M.1 324 (25 + z) ≤ 0 ∧ ¬ spentTo (M.1 325) (M.1 324) (Int32.ofNat z) (td (M.1 325)) = 0 ∧ ¬ M.1 324 (20 + z) + M.1 324 (25 + z) * M.1 324 143 < M.1 325 (35 + t)) := by
    unfold soonT
    rw [nz, ez]
  by_cases c3 : M.1 325 (25 + t) = 3
  · rw [if_pos c3, if_pos c3]
    by_cases c1 : M.1 324 (10 + z) = 1
    · rw [if_pos c1, if_pos c1, wR_self]
    · rw [if_neg c1, if_neg c1]
      have no : ¬ soonT (M.1 325) (M.1 324) t → (if M.1 324 (50 + t) = 0 ∧ True then M.1 324 else shutNow (M.1 325) (M.1 324) t) = (haveI := Classical.propDecidable (soonT (M.1 325) (M.1 324) t); if M.1 324 (50 + t) = 0 ∧ ¬ soonT (M.1 325) (M.1 324) t then M.1 324 else shutNow (M.1 325) (M.1 324) t) := fun q => by
        by_cases c : M.1 324 (50 + t) = 0
        · rw [if_pos ⟨c, trivial⟩, if_pos ⟨c, q⟩]
        · rw [if_neg (c := _ ∧ _) (fun q => c q.1), if_neg (c := _ ∧ _) (fun q => c q.1)]
      by_cases d1 : M.1 324 143 ≤ 0
      · rw [if_pos d1, no (fun q => (hs.mp q).1 d1)]
      · rw [if_neg d1]
        by_cases d2 : M.1 324 (25 + z) ≤ 0
        · rw [if_pos d2, no (fun q => (hs.mp q).2.1 d2)]
        · rw [if_neg d2]
          by_cases d3 : spentTo (M.1 325) (M.1 324) (Int32.ofNat z) (td (M.1 325)) = 0
          · rw [if_pos d3, no (fun q => (hs.mp q).2.2.1 d3)]
          · rw [if_neg d3]
            by_cases d4 : M.1 324 (20 + z) + M.1 324 (25 + z) * M.1 324 143 < M.1 325 (35 + t)
            · rw [if_pos d4, no (fun q => (hs.mp q).2.2.2 d4)]
            · rw [if_neg d4]
              have yes := hs.mpr ⟨d1, d2, d3, d4⟩
              rw [if_neg (c := _ ∧ (1 : Int32) = 0) (fun q => absurd q.2 (by decide)), if_neg (c := _ ∧ ¬ soonT _ _ _) (fun q => q.2 yes)]
  · rw [if_neg c3, if_neg c3, wR_self]

