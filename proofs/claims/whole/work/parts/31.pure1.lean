/-! ===== PURE 1: what a plan in force keeps; the reference's heats ===== -/
def wR (M : Gm) (a : Nat) (f : Nat → Int32) : Gm := (fun b j => if b = a then f j else M.1 b j, M.2)
theorem wR_own (M : Gm) (a : Nat) (f : Nat → Int32) : (wR M a f).1 a = f := by funext j; simp [wR]
theorem wR_ne (M : Gm) {a b : Nat} (f : Nat → Int32) (h : b ≠ a) : (wR M a f).1 b = M.1 b := by funext j; simp [wR, h]
theorem wR_2 (M : Gm) (a : Nat) (f : Nat → Int32) : (wR M a f).2 = M.2 := rfl
theorem sI_wR (M : Gm) (a k : Nat) (x : Int32) : sI M a k x = wR M a (ud (M.1 a) k x) := by
  unfold sI wR ud up2
  congr 1
  funext b j
  by_cases hb : b = a
  · subst hb; simp
  · simp [hb]
theorem wR_wR (M : Gm) (a : Nat) (f g : Nat → Int32) : wR (wR M a f) a g = wR M a g := by
  unfold wR
  congr 1
  funext b j
  by_cases hb : b = a
  · simp [hb]
  · simp [hb]
theorem wR_self (M : Gm) (a : Nat) : wR M a (M.1 a) = M := by
  unfold wR
  obtain ⟨I, R⟩ := M
  congr 1
  funext b j
  by_cases hb : b = a
  · simp [hb]
  · simp [hb]
theorem Ky.wR {M : Gm} (h : Ky M) (a : Nat) (f : Nat → Int32) : Ky (wR M a f) := h.eq rfl
theorem ad_n (a b : Nat) : Int32.ofNat a + Int32.ofNat b = Int32.ofNat (a + b) := (Int32.ofNat_add a b).symm
theorem mu4 (j : Nat) : (4 : Int32) * Int32.ofNat j = Int32.ofNat (4 * j) := (Int32.ofNat_mul 4 j).symm
theorem mu6 (j : Nat) : (6 : Int32) * Int32.ofNat j = Int32.ofNat (6 * j) := (Int32.ofNat_mul 6 j).symm
theorem mu305 (j : Nat) : (305 : Int32) * Int32.ofNat j = Int32.ofNat (305 * j) := (Int32.ofNat_mul 305 j).symm
theorem mu21 (j : Nat) : (21 : Int32) * Int32.ofNat j = Int32.ofNat (21 * j) := (Int32.ofNat_mul 21 j).symm
theorem ld324_142 {M : Gm} (h : Ky M) : ldA M 0 324 142 = some (M.1 324 142) := ld324 h (by decide)
theorem st324_142 {M : Gm} (h : Ky M) (x : Int32) : stA M 0 324 142 x = some (sI M 324 142 x) := st324 h x (by decide)
theorem ld324_143 {M : Gm} (h : Ky M) : ldA M 0 324 143 = some (M.1 324 143) := ld324 h (by decide)
theorem st324_143 {M : Gm} (h : Ky M) (x : Int32) : stA M 0 324 143 x = some (sI M 324 143 x) := st324 h x (by decide)
theorem ld324_144 {M : Gm} (h : Ky M) : ldA M 0 324 144 = some (M.1 324 144) := ld324 h (by decide)
theorem st324_144 {M : Gm} (h : Ky M) (x : Int32) : stA M 0 324 144 x = some (sI M 324 144 x) := st324 h x (by decide)
theorem ld325_163 {M : Gm} (h : Ky M) : ldA M 0 325 163 = some (M.1 325 163) := ld325 h (by decide)
theorem st325_163 {M : Gm} (h : Ky M) (x : Int32) : stA M 0 325 163 x = some (sI M 325 163 x) := st325 h x (by decide)
theorem ld325_164 {M : Gm} (h : Ky M) : ldA M 0 325 164 = some (M.1 325 164) := ld325 h (by decide)
theorem st325_164 {M : Gm} (h : Ky M) (x : Int32) : stA M 0 325 164 x = some (sI M 325 164 x) := st325 h x (by decide)
theorem ld325_165 {M : Gm} (h : Ky M) : ldA M 0 325 165 = some (M.1 325 165) := ld325 h (by decide)
theorem st325_165 {M : Gm} (h : Ky M) (x : Int32) : stA M 0 325 165 x = some (sI M 325 165 x) := st325 h x (by decide)
theorem ld325_166 {M : Gm} (h : Ky M) : ldA M 0 325 166 = some (M.1 325 166) := ld325 h (by decide)
theorem st325_166 {M : Gm} (h : Ky M) (x : Int32) : stA M 0 325 166 x = some (sI M 325 166 x) := st325 h x (by decide)
theorem ld325_167 {M : Gm} (h : Ky M) : ldA M 0 325 167 = some (M.1 325 167) := ld325 h (by decide)
theorem st325_167 {M : Gm} (h : Ky M) (x : Int32) : stA M 0 325 167 x = some (sI M 325 167 x) := st325 h x (by decide)
theorem ld326_143 {M : Gm} (h : Ky M) : ldA M 0 326 143 = some (M.1 326 143) := ld326 h (by decide)
theorem st326_143 {M : Gm} (h : Ky M) (x : Int32) : stA M 0 326 143 x = some (sI M 326 143 x) := st326 h x (by decide)
theorem ld327_163 {M : Gm} (h : Ky M) : ldA M 0 327 163 = some (M.1 327 163) := ld327 h (by decide)
theorem st327_163 {M : Gm} (h : Ky M) (x : Int32) : stA M 0 327 163 x = some (sI M 327 163 x) := st327 h x (by decide)
theorem ld327_164 {M : Gm} (h : Ky M) : ldA M 0 327 164 = some (M.1 327 164) := ld327 h (by decide)
theorem st327_164 {M : Gm} (h : Ky M) (x : Int32) : stA M 0 327 164 x = some (sI M 327 164 x) := st327 h x (by decide)
theorem ld327_165 {M : Gm} (h : Ky M) : ldA M 0 327 165 = some (M.1 327 165) := ld327 h (by decide)
theorem st327_165 {M : Gm} (h : Ky M) (x : Int32) : stA M 0 327 165 x = some (sI M 327 165 x) := st327 h x (by decide)
theorem ld327_166 {M : Gm} (h : Ky M) : ldA M 0 327 166 = some (M.1 327 166) := ld327 h (by decide)
theorem st327_166 {M : Gm} (h : Ky M) (x : Int32) : stA M 0 327 166 x = some (sI M 327 166 x) := st327 h x (by decide)
theorem ld327_167 {M : Gm} (h : Ky M) : ldA M 0 327 167 = some (M.1 327 167) := ld327 h (by decide)
theorem st327_167 {M : Gm} (h : Ky M) (x : Int32) : stA M 0 327 167 x = some (sI M 327 167 x) := st327 h x (by decide)
theorem ld328_0 {M : Gm} (h : Ky M) : ldA M 0 328 0 = some (M.1 328 0) := ld328 h (by decide)
theorem st328_0 {M : Gm} (h : Ky M) (x : Int32) : stA M 0 328 0 x = some (sI M 328 0 x) := st328 h x (by decide)
theorem ld328_1 {M : Gm} (h : Ky M) : ldA M 0 328 1 = some (M.1 328 1) := ld328 h (by decide)
theorem st328_1 {M : Gm} (h : Ky M) (x : Int32) : stA M 0 328 1 x = some (sI M 328 1 x) := st328 h x (by decide)
theorem ld328_2 {M : Gm} (h : Ky M) : ldA M 0 328 2 = some (M.1 328 2) := ld328 h (by decide)
theorem st328_2 {M : Gm} (h : Ky M) (x : Int32) : stA M 0 328 2 x = some (sI M 328 2 x) := st328 h x (by decide)
/-- how many ZONES, TRIPS, DEVICES, WALLS a told row tells -/
def tz (T : Nat → Int32) : Nat := (T 163).toNatClampNeg
def tt (T : Nat → Int32) : Nat := (T 164).toNatClampNeg
def td (T : Nat → Int32) : Nat := (T 165).toNatClampNeg
def tw (T : Nat → Int32) : Nat := (T 167).toNatClampNeg
/-- what holds of a told row in force -/
def TOk (T : Nat → Int32) : Prop :=
  ((T 163 = Int32.ofNat (tz T) ∧ tz T ≤ 5) ∧ (T 164 = Int32.ofNat (tt T) ∧ tt T ≤ 10) ∧ (T 165 = Int32.ofNat (td T) ∧ td T ≤ 6) ∧ (T 167 = Int32.ofNat (tw T) ∧ tw T ≤ 8)) ∧
  (∀ z, z < tz T → isN (T z) 1 50 ∧ isN (T (5 + z)) 0 3 ∧ isN (T (10 + z)) 1 4 ∧ (T (5 + z) = 0 → T (10 + z) = 1)) ∧
  (∀ t, t < tt T → (∃ z, z < tz T ∧ T (15 + t) = Int32.ofNat z) ∧ isN (T (25 + t)) 0 3 ∧ isN (T (35 + t)) 200 999 ∧ isN (T (45 + t)) 0 99) ∧
  (∀ d, d < td T → isN (T (55 + d)) 0 2 ∧ (∃ z, z < tz T ∧ T (61 + d) = Int32.ofNat z) ∧ isN (T (67 + d)) 1 9 ∧ isN (T (73 + d)) 0 30) ∧
  (∀ t d, t < 10 → d < 6 → isN (T (79 + 6 * t + d)) 0 9 ∧ (T (79 + 6 * t + d) ≠ 0 → t < tt T ∧ d < td T ∧ (T (25 + t) = 0 ∨ T (25 + t) = 1))) ∧
  (∀ k, k < tw T → (∃ a b, a < tz T ∧ b < tz T ∧ a ≠ b ∧ T (139 + k) = Int32.ofNat a ∧ T (147 + k) = Int32.ofNat b) ∧ isN (T (155 + k)) 1 50) ∧
  ∀ t u, t < tt T → u < tt T → T (25 + t) = 3 → T (25 + u) = 3 → T (15 + t) = T (15 + u) → t = u
theorem TOk.z {T : Nat → Int32} (h : TOk T) : T 163 = Int32.ofNat (tz T) ∧ tz T ≤ 5 := h.1.1
theorem TOk.t {T : Nat → Int32} (h : TOk T) : T 164 = Int32.ofNat (tt T) ∧ tt T ≤ 10 := h.1.2.1
theorem TOk.d {T : Nat → Int32} (h : TOk T) : T 165 = Int32.ofNat (td T) ∧ td T ≤ 6 := h.1.2.2.1
theorem TOk.w {T : Nat → Int32} (h : TOk T) : T 167 = Int32.ofNat (tw T) ∧ tw T ≤ 8 := h.1.2.2.2
/-! the reference's quotient, and within -/
def byI (v n : Int32) : Int32 := if v < 0 then -((((-v) + n) - 1) / n) else v / n
def heldI (v a b : Int32) : Int32 := if a ≤ v then (if v ≤ b then v else b) else a
theorem m_by {v n : Int32} {M : Gm} (h : n ≠ 0) : sh_X12_by v n M = some (byI v n) := by
  unfold sh_X12_by X12_by_F byI dvI X12_by_J19
  rw [if_neg h, if_neg h]
  split <;> rfl
theorem m_held {v a b : Int32} {M : Gm} : sh_X12_held v a b M = some (heldI v a b) := by
  unfold sh_X12_held X12_held_F heldI X12_held_J19
  split
  · split <;> rfl
  · rfl
theorem isN_ne0 {x : Int32} {hi : Nat} (h : isN x 1 hi) (hh : hi < 2147483648) : x ≠ 0 := by
  have := isN_tI h hh
  intro e
  rw [e] at this
  have h0 : (0 : Int32).toInt = 0 := rfl
  omega
theorem m_zones {M : Gm} (hM : Ky M) : sh_X12_zones 319 M = some (M.1 325 163) := by
  unfold sh_X12_zones X12_zones_F
  simp only [m_O hM, m_told hM, ld325_163 hM, Option.bind_some]
theorem m_trips {M : Gm} (hM : Ky M) : sh_X12_trips 319 M = some (M.1 325 164) := by
  unfold sh_X12_trips X12_trips_F
  simp only [m_O hM, m_told hM, ld325_164 hM, Option.bind_some]
theorem m_devices {M : Gm} (hM : Ky M) : sh_X12_devices 319 M = some (M.1 325 165) := by
  unfold sh_X12_devices X12_devices_F
  simp only [m_O hM, m_told hM, ld325_165 hM, Option.bind_some]
theorem m_zoneOf {M : Gm} (hM : Ky M) {t : Nat} (ht : t < 10) : sh_X12_zoneOf 319 (Int32.ofNat t) M = some (M.1 325 (15 + t)) := by
  unfold sh_X12_zoneOf X12_zoneOf_F
  simp (disch := omega) only [m_O hM, m_told hM, ix15, ld325 hM, Option.bind_some]
theorem m_weight {M : Gm} (hM : Ky M) {t d : Nat} (ht : t < 10) (hd : d < 6) : sh_X12_weight 319 (Int32.ofNat t) (Int32.ofNat d) M = some (M.1 325 (79 + 6 * t + d)) := by
  unfold sh_X12_weight X12_weight_F
  simp (disch := omega) only [m_O hM, m_told hM, mu6, ix79, ad_n, ld325 hM, Option.bind_some]
theorem m_wanted {M : Gm} (hM : Ky M) {t d : Nat} (ht : t < 10) (hd : d < 6) : sh_X12_wanted 319 (Int32.ofNat t) (Int32.ofNat d) M = some (M.1 324 (82 + 6 * t + d)) := by
  unfold sh_X12_wanted X12_wanted_F
  simp (disch := omega) only [m_O hM, m_now hM, mu6, ix82, ad_n, ld324 hM, Option.bind_some]
theorem m_wants {M : Gm} (hM : Ky M) {t d : Nat} (x : Int32) (ht : t < 10) (hd : d < 6) : sh_X12_wants 319 (Int32.ofNat t) (Int32.ofNat d) x M = some (sI M 324 (82 + 6 * t + d) x) := by
  unfold sh_X12_wants X12_wants_F
  simp (disch := omega) only [m_O hM, m_now hM, mu6, ix82, ad_n, st324 hM, Option.bind_some]
theorem m_read {M : Gm} (hM : Ky M) {z i : Nat} (hz : z < 5) (hi : i < 4) : sh_X12_read 319 (Int32.ofNat z) (Int32.ofNat i) M = some (M.1 324 (30 + 4 * z + i)) := by
  unfold sh_X12_read X12_read_F
  simp (disch := omega) only [m_O hM, m_now hM, mu4, ix30, ad_n, ld324 hM, Option.bind_some]
/-- what the first so many DEVICES cool a ZONE -/
def coolTo (T N : Nat → Int32) (z : Int32) : Nat → Int32
  | 0 => 0
  | j + 1 => coolTo T N z j + (if T (61 + j) = z then N (70 + j) * T (73 + j) else 0)
theorem m_cooled {M : Gm} (hM : Ky M) {nd : Nat} (hd : M.1 325 165 = Int32.ofNat nd) (h6 : nd ≤ 6) (z : Int32) : sh_X12_cooled 319 z M = some (coolTo (M.1 325) (M.1 324) z nd) := by
  have hl : lp (X12_cooled_B4 319 z M) FU (0, 0) = some (coolTo (M.1 325) (M.1 324) z nd) := by
    refine lp_for (s := fun j => (coolTo (M.1 325) (M.1 324) z j, Int32.ofNat j)) _ nd (fun j hj => ?_) ?_ (by omega)
    · unfold X12_cooled_B4
      simp (disch := omega) only [m_devices hM, hd, Option.bind_some, le_n, m_told hM, m_now hM, ix61, ix70, ix73, ld325 hM, ld324 hM, X12_cooled_J49, suc_n]
      rw [if_neg (by omega)]
      by_cases hz : M.1 325 (61 + j) = z
      · simp only [if_pos hz, coolTo]
      · simp only [if_neg hz, coolTo]
    · unfold X12_cooled_B4
      simp (disch := omega) only [m_devices hM, hd, Option.bind_some, le_n]
      rw [if_pos (Nat.le_refl _)]
  unfold sh_X12_cooled X12_cooled_F
  rw [m_O hM]
  simp only [Option.bind_some, hl]
/-! heats -/
def baseH (T N : Nat → Int32) (z : Nat) : Int32 := (((N (0 + z) + (if N (10 + z) = 1 then 0 else N (5 + z))) - byI (N (0 + z) - 200) (T (0 + z))) - coolTo T N (Int32.ofNat z) (td T))
def flowH (T N : Nat → Int32) (k : Nat) : Int32 := byI (N (T (139 + k)).toNatClampNeg - N (T (147 + k)).toNatClampNeg) (T (155 + k))
def nextH (T N : Nat → Int32) : Nat → Nat → Int32
  | 0 => baseH T N
  | k + 1 => ud (ud (nextH T N k) (T (139 + k)).toNatClampNeg (nextH T N k (T (139 + k)).toNatClampNeg - flowH T N k)) (T (147 + k)).toNatClampNeg (nextH T N k (T (147 + k)).toNatClampNeg + flowH T N k)
def mHeats (T N : Nat → Int32) : Nat → Int32 := fun k => if k < tz T then heldI (nextH T N (tw T) k) 0 1500 else N k
theorem m_heats1 {M : Gm} (hM : Ky M) (hT : TOk (M.1 325)) : ∃ M', lp (X12_heats_B2 319) FU (0, M) = some M' ∧ Fm [330] M M' ∧ ∀ z, z < tz (M.1 325) → M'.1 330 z = baseH (M.1 325) (M.1 324) z := by
  refine lp_inv (fun j q => q.1 = Int32.ofNat j ∧ Fm [330] M q.2 ∧ ∀ z, z < j → q.2.1 330 z = baseH (M.1 325) (M.1 324) z) _ (tz (M.1 325)) ?_ ?_ ⟨rfl, Fm.rfl' _ _, fun z hz => absurd hz (Nat.not_lt_zero z)⟩ (by have := hT.z.2; omega)
  · rintro j ⟨i, M1⟩ hj ⟨h1, h2, h3⟩
    have hz := hT.z
    have hd := hT.d
    obtain ⟨hl, -⟩ := hT.2.1 j hj
    have hM1 := hM.fm h2
    have e4 : M1.1 324 = M.1 324 := h2.2 324 (by decide)
    have e5 : M1.1 325 = M.1 325 := h2.2 325 (by decide)
    refine Or.inl ⟨(Int32.ofNat (j + 1), sI M1 330 j (baseH (M.1 325) (M.1 324) j)), ?_, rfl, h2.set (by decide) _ _, fun z hz' => ?_⟩
    · have hne : M.1 325 (0 + j) ≠ 0 := by rw [Nat.zero_add]; exact isN_ne0 hl (by decide)
      have hJ : ∀ v : Int32, X12_heats_J48 319 (Int32.ofNat j) 330 (Int32.ofNat j) (M.1 324 (0 + j)) v M1 = some (.inl (Int32.ofNat (j + 1), sI M1 330 j (((M.1 324 (0 + j) + v) - byI (M.1 324 (0 + j) - 200) (M.1 325 (0 + j))) - coolTo (M.1 325) (M.1 324) (Int32.ofNat j) (td (M.1 325))))) := fun v => by
        unfold X12_heats_J48
        simp (disch := omega) only [m_now hM1, m_told hM1, ix0, ld324 hM1, ld325 hM1, e4, e5, Option.bind_some, m_by hne, m_cooled hM1 (by rw [e5]; exact hd.1) hd.2, st330 hM1, suc_n]
      subst h1
      unfold X12_heats_B2
      simp (disch := omega) only [m_zones hM1, e5, e4, hz.1, Option.bind_some, le_n, m_next hM1, m_now hM1, ix0, ix10, ix5, ld324 hM1, hJ]
      rw [if_neg (by omega)]
      unfold baseH
      by_cases hs : M.1 324 (10 + j) = 1
      · simp only [if_pos hs]
      · simp only [if_neg hs]
    · show (sI M1 330 j _).1 330 z = _
      rw [sI_own]
      by_cases e : z = j
      · subst e; rw [ud_at]
      · rw [ud_ne _ _ e]; exact h3 z (by omega)
  · rintro ⟨i, M1⟩ ⟨h1, h2, h3⟩
    have hz := hT.z
    have hM1 := hM.fm h2
    have e5 : M1.1 325 = M.1 325 := h2.2 325 (by decide)
    subst h1
    refine ⟨M1, ?_, h2, h3⟩
    unfold X12_heats_B2
    simp (disch := omega) only [m_zones hM1, e5, hz.1, Option.bind_some, le_n]
    rw [if_pos (Nat.le_refl _)]

