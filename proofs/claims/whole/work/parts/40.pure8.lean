/-! ===== PURE 8: the class's quotient; how a State and a plan stand in the memory ===== -/
theorem ceil_lem (a m : Int) (hm : 0 < m) : (a + m - 1) / m = if a / m * m = a then a / m else a / m + 1 := by
  have h1 := Int.emod_nonneg a (show m ≠ 0 by omega)
  have h2 := Int.emod_lt_of_pos a hm
  have h3 := Int.mul_ediv_add_emod a m
  generalize a / m = q at *
  generalize a % m = r at *
  have hc : q * m = m * q := Int.mul_comm _ _
  by_cases hr : r = 0
  · rw [if_pos (by omega), show a + m - 1 = (m - 1) + m * q by omega, Int.add_mul_ediv_left _ _ (by omega), Int.ediv_eq_zero_of_lt (by omega) (by omega), Int.zero_add]
  · rw [if_neg (by omega), show a + m - 1 = (r - 1) + m * (q + 1) by rw [Int.mul_add, Int.mul_one]; omega, Int.add_mul_ediv_left _ _ (by omega), Int.ediv_eq_zero_of_lt (by omega) (by omega), Int.zero_add]
theorem xsgn (v n : Int32) : 0 ≤ (v ^^^ n) ↔ (v.toInt < 0 ↔ n.toInt < 0) := by
  have h : decide ((v ^^^ n).toInt < 0) = (decide (v.toInt < 0) ^^ decide (n.toInt < 0)) := by
    have := BitVec.msb_xor (x := v.toBitVec) (y := n.toBitVec)
    rw [BitVec.msb_eq_toInt, BitVec.msb_eq_toInt, BitVec.msb_eq_toInt] at this
    exact this
  rw [tI_le]
  have h0 : (0 : Int32).toInt = 0 := rfl
  rw [h0]
  by_cases a : v.toInt < 0 <;> by_cases b : n.toInt < 0 <;> simp [a, b] at h ⊢ <;> omega
theorem ne_min {v : Int32} (h : -2147483648 < v.toInt) : v ≠ Int32.minValue := fun e => by
  rw [e] at h
  have : Int32.minValue.toInt = -2147483648 := rfl
  omega
theorem tI_div {a b : Int32} (h : -2147483648 < a.toInt) : (a / b).toInt = a.toInt.tdiv b.toInt := Int32.toInt_div_of_ne_left a b (ne_min h)
theorem c_quot {v n : Int32} {M : Gm} (hn : isN n 1 1000) (h1 : -1000000 ≤ v.toInt) (h2 : v.toInt ≤ 1000000) : sh_X11_quotient v n M = some (byI v n) := by
  have hb := isN_tI hn (by decide)
  have hne := isN_ne0 hn (by decide)
  unfold sh_X11_quotient X11_quotient_F X11_quotient_J13 sh_J9_floorDiv_7cf53 J9_floorDiv_7cf53_F J9_floorDiv_7cf53_J21 dvI byI
  rw [if_neg (by rw [tI_le]; have h0 : (0 : Int32).toInt = 0 := rfl
                 omega), if_neg hne]
  simp only [Option.bind_some]
  have h0 : (0 : Int32).toInt = 0 := rfl
  have h1' : (1 : Int32).toInt = 1 := rfl
  by_cases c : v < 0
  · have c' : v.toInt < 0 := by rw [tI_lt] at c; omega
    rw [if_pos c, if_neg (by rw [xsgn]; omega)]
    have en : (-v).toInt = -v.toInt := tI_neg (by omega)
    have e1 : ((-v) + n).toInt = -v.toInt + n.toInt := by rw [tI_add (by omega) (by omega), en]
    have e2 : (((-v) + n) - 1).toInt = -v.toInt + n.toInt - 1 := by rw [tI_sub (by omega) (by omega), e1, h1']
    have e3 : ((((-v) + n) - 1) / n).toInt = (-v.toInt + n.toInt - 1) / n.toInt := by
      rw [tI_div (by omega), e2, Int.tdiv_eq_ediv_of_nonneg (by omega)]
    have e4 : (v / n).toInt = -((-v.toInt) / n.toInt) := by
      rw [tI_div (by omega), show v.toInt = -(-v.toInt) by omega, Int.neg_tdiv, Int.tdiv_eq_ediv_of_nonneg (by omega)]
      simp
    have hc := ceil_lem (-v.toInt) n.toInt (by omega)
    have q0 : 0 ≤ (-v.toInt) / n.toInt := Int.ediv_nonneg (by omega) (by omega)
    have q1 : (-v.toInt) / n.toInt ≤ -v.toInt := Int.ediv_le_self _ (by omega)
    have q2 : 0 ≤ (-v.toInt + n.toInt - 1) / n.toInt := Int.ediv_nonneg (by omega) (by omega)
    have q3 : (-v.toInt + n.toInt - 1) / n.toInt ≤ -v.toInt + n.toInt - 1 := Int.ediv_le_self _ (by omega)
    have p0 : (-v.toInt) / n.toInt * n.toInt ≤ -v.toInt := Int.ediv_mul_le _ (by omega)
    have p1 : 0 ≤ (-v.toInt) / n.toInt * n.toInt := Int.mul_nonneg q0 (by omega)
    have em : (v / n * n).toInt = -((-v.toInt) / n.toInt * n.toInt) := by
      have : (v / n).toInt * n.toInt = -((-v.toInt) / n.toInt * n.toInt) := by rw [e4, Int.neg_mul]
      rw [tI_mul (by omega) (by omega), this]
    have hiff : v / n * n = v ↔ (-v.toInt) / n.toInt * n.toInt = -v.toInt := by
      rw [← Int32.toInt_inj, em]; omega
    by_cases d : (-v.toInt) / n.toInt * n.toInt = -v.toInt
    · rw [if_pos (hiff.mpr d)]
      rw [if_pos d] at hc
      show some (v / n) = _
      congr 1
      apply tI_eq
      rw [e4, tI_neg (by omega), e3, hc]
    · rw [if_neg (fun q => d (hiff.mp q))]
      rw [if_neg d] at hc
      show some (v / n - 1) = _
      congr 1
      apply tI_eq
      rw [tI_sub (by omega) (by omega), e4, tI_neg (by omega), e3, hc, h1']
      omega
  · have c' : ¬ v.toInt < 0 := by rw [tI_lt] at c; omega
    rw [if_neg c, if_pos (by rw [xsgn]; omega)]
    rfl
theorem c_within {v a b : Int32} {M : Gm} (h : a ≤ b) : sh_X11_within v a b M = some (heldI v a b) := by
  unfold sh_X11_within X11_within_F heldI
  simp only [m_min, m_max, Option.bind_some]
  congr 1
  unfold minI maxI
  simp only [tI_le, tI_lt] at h ⊢
  split <;> split <;> split <;> (try split) <;> first | rfl | (apply tI_eq; omega) | omega
/-! a State in the memory -/
def sLen : List Nat := [5, 5, 5, 5, 5, 5, 20, 10, 10, 6, 6, 6, 60, 160]
/-- the kinds and references of a State at S with the plan P -/
def StK (M : Gm) (S P : Nat) : Prop := kd M S = (7, 0) ∧ M.2.1 S 0 = P ∧ ∀ i, i < 14 → M.2.1 S (3 + i) = S + (1 + i) ∧ kd M (S + (1 + i)) = (32, sLen.getD i 0)
theorem StK.eq {M M' : Gm} {S P : Nat} (h : StK M S P) (e : M'.2 = M.2) : StK M' S P := by
  unfold StK kd at *
  rw [e]
  exact h
theorem StK.fm {L : List Nat} {M M' : Gm} {S P : Nat} (h : StK M S P) (e : Fm L M M') : StK M' S P := h.eq e.1
theorem StK.sI {M : Gm} {S P : Nat} (h : StK M S P) (a k : Nat) (x : Int32) : StK (sI M a k x) S P := h.eq rfl
theorem StK.wR {M : Gm} {S P : Nat} (h : StK M S P) (a : Nat) (f : Nat → Int32) : StK (wR M a f) S P := h.eq rfl
section StKs
variable {M : Gm} {S P : Nat}
theorem s_O (h : StK M S P) : isO M S 7 = some () := i_O h.1
theorem s_I (h : StK M S P) (k : Nat) : gfI M S 7 k = some (M.1 S k) := g_I k h.1
theorem s_P (h : StK M S P) (k : Nat) (x : Int32) : pfI M S 7 k x = some (sI M S k x) := p_I k x h.1
theorem s_plan (h : StK M S P) : gfR M S 7 0 = some P := (g_R 0 h.1).trans (congrArg some h.2.1)
theorem s_heat (h : StK M S P) : gfR M S 7 3 = some (S + 1) := (g_R 3 h.1).trans (congrArg some (h.2.2 0 (by decide)).1)
theorem sl1 (h : StK M S P) {j : Nat} (hj : j < 5) : ldA M 0 (S + 1) (Int32.ofNat j) = some (M.1 (S + 1) j) := l_A (h.2.2 0 (by decide)).2 hj (by decide)
theorem ss1 (h : StK M S P) {j : Nat} (x : Int32) (hj : j < 5) : stA M 0 (S + 1) (Int32.ofNat j) x = some (sI M (S + 1) j x) := s_A x (h.2.2 0 (by decide)).2 hj (by decide)
theorem sn1 (h : StK M S P) : alen M (S + 1) = some (Int32.ofNat 5) := a_len (t := 0) (h.2.2 0 (by decide)).2 (by decide)
theorem s_load (h : StK M S P) : gfR M S 7 4 = some (S + 2) := (g_R 4 h.1).trans (congrArg some (h.2.2 1 (by decide)).1)
theorem sl2 (h : StK M S P) {j : Nat} (hj : j < 5) : ldA M 0 (S + 2) (Int32.ofNat j) = some (M.1 (S + 2) j) := l_A (h.2.2 1 (by decide)).2 hj (by decide)
theorem ss2 (h : StK M S P) {j : Nat} (x : Int32) (hj : j < 5) : stA M 0 (S + 2) (Int32.ofNat j) x = some (sI M (S + 2) j x) := s_A x (h.2.2 1 (by decide)).2 hj (by decide)
theorem sn2 (h : StK M S P) : alen M (S + 2) = some (Int32.ofNat 5) := a_len (t := 0) (h.2.2 1 (by decide)).2 (by decide)
theorem s_leak (h : StK M S P) : gfR M S 7 5 = some (S + 3) := (g_R 5 h.1).trans (congrArg some (h.2.2 2 (by decide)).1)
theorem sl3 (h : StK M S P) {j : Nat} (hj : j < 5) : ldA M 0 (S + 3) (Int32.ofNat j) = some (M.1 (S + 3) j) := l_A (h.2.2 2 (by decide)).2 hj (by decide)
theorem ss3 (h : StK M S P) {j : Nat} (x : Int32) (hj : j < 5) : stA M 0 (S + 3) (Int32.ofNat j) x = some (sI M (S + 3) j x) := s_A x (h.2.2 2 (by decide)).2 hj (by decide)
theorem sn3 (h : StK M S P) : alen M (S + 3) = some (Int32.ofNat 5) := a_len (t := 0) (h.2.2 2 (by decide)).2 (by decide)
theorem s_temp (h : StK M S P) : gfR M S 7 6 = some (S + 4) := (g_R 6 h.1).trans (congrArg some (h.2.2 3 (by decide)).1)
theorem sl4 (h : StK M S P) {j : Nat} (hj : j < 5) : ldA M 0 (S + 4) (Int32.ofNat j) = some (M.1 (S + 4) j) := l_A (h.2.2 3 (by decide)).2 hj (by decide)
theorem ss4 (h : StK M S P) {j : Nat} (x : Int32) (hj : j < 5) : stA M 0 (S + 4) (Int32.ofNat j) x = some (sI M (S + 4) j x) := s_A x (h.2.2 3 (by decide)).2 hj (by decide)
theorem sn4 (h : StK M S P) : alen M (S + 4) = some (Int32.ofNat 5) := a_len (t := 0) (h.2.2 3 (by decide)).2 (by decide)
theorem s_slope (h : StK M S P) : gfR M S 7 7 = some (S + 5) := (g_R 7 h.1).trans (congrArg some (h.2.2 4 (by decide)).1)
theorem sl5 (h : StK M S P) {j : Nat} (hj : j < 5) : ldA M 0 (S + 5) (Int32.ofNat j) = some (M.1 (S + 5) j) := l_A (h.2.2 4 (by decide)).2 hj (by decide)
theorem ss5 (h : StK M S P) {j : Nat} (x : Int32) (hj : j < 5) : stA M 0 (S + 5) (Int32.ofNat j) x = some (sI M (S + 5) j x) := s_A x (h.2.2 4 (by decide)).2 hj (by decide)
theorem sn5 (h : StK M S P) : alen M (S + 5) = some (Int32.ofNat 5) := a_len (t := 0) (h.2.2 4 (by decide)).2 (by decide)
theorem s_why (h : StK M S P) : gfR M S 7 8 = some (S + 6) := (g_R 8 h.1).trans (congrArg some (h.2.2 5 (by decide)).1)
theorem sl6 (h : StK M S P) {j : Nat} (hj : j < 5) : ldA M 0 (S + 6) (Int32.ofNat j) = some (M.1 (S + 6) j) := l_A (h.2.2 5 (by decide)).2 hj (by decide)
theorem ss6 (h : StK M S P) {j : Nat} (x : Int32) (hj : j < 5) : stA M 0 (S + 6) (Int32.ofNat j) x = some (sI M (S + 6) j x) := s_A x (h.2.2 5 (by decide)).2 hj (by decide)
theorem sn6 (h : StK M S P) : alen M (S + 6) = some (Int32.ofNat 5) := a_len (t := 0) (h.2.2 5 (by decide)).2 (by decide)
theorem s_readings (h : StK M S P) : gfR M S 7 9 = some (S + 7) := (g_R 9 h.1).trans (congrArg some (h.2.2 6 (by decide)).1)
theorem sl7 (h : StK M S P) {j : Nat} (hj : j < 20) : ldA M 0 (S + 7) (Int32.ofNat j) = some (M.1 (S + 7) j) := l_A (h.2.2 6 (by decide)).2 hj (by decide)
theorem ss7 (h : StK M S P) {j : Nat} (x : Int32) (hj : j < 20) : stA M 0 (S + 7) (Int32.ofNat j) x = some (sI M (S + 7) j x) := s_A x (h.2.2 6 (by decide)).2 hj (by decide)
theorem sn7 (h : StK M S P) : alen M (S + 7) = some (Int32.ofNat 20) := a_len (t := 0) (h.2.2 6 (by decide)).2 (by decide)
theorem s_on (h : StK M S P) : gfR M S 7 10 = some (S + 8) := (g_R 10 h.1).trans (congrArg some (h.2.2 7 (by decide)).1)
theorem sl8 (h : StK M S P) {j : Nat} (hj : j < 10) : ldA M 0 (S + 8) (Int32.ofNat j) = some (M.1 (S + 8) j) := l_A (h.2.2 7 (by decide)).2 hj (by decide)
theorem ss8 (h : StK M S P) {j : Nat} (x : Int32) (hj : j < 10) : stA M 0 (S + 8) (Int32.ofNat j) x = some (sI M (S + 8) j x) := s_A x (h.2.2 7 (by decide)).2 hj (by decide)
theorem sn8 (h : StK M S P) : alen M (S + 8) = some (Int32.ofNat 10) := a_len (t := 0) (h.2.2 7 (by decide)).2 (by decide)
theorem s_crossed (h : StK M S P) : gfR M S 7 11 = some (S + 9) := (g_R 11 h.1).trans (congrArg some (h.2.2 8 (by decide)).1)
theorem sl9 (h : StK M S P) {j : Nat} (hj : j < 10) : ldA M 0 (S + 9) (Int32.ofNat j) = some (M.1 (S + 9) j) := l_A (h.2.2 8 (by decide)).2 hj (by decide)
theorem ss9 (h : StK M S P) {j : Nat} (x : Int32) (hj : j < 10) : stA M 0 (S + 9) (Int32.ofNat j) x = some (sI M (S + 9) j x) := s_A x (h.2.2 8 (by decide)).2 hj (by decide)
theorem sn9 (h : StK M S P) : alen M (S + 9) = some (Int32.ofNat 10) := a_len (t := 0) (h.2.2 8 (by decide)).2 (by decide)
theorem s_position (h : StK M S P) : gfR M S 7 12 = some (S + 10) := (g_R 12 h.1).trans (congrArg some (h.2.2 9 (by decide)).1)
theorem sl10 (h : StK M S P) {j : Nat} (hj : j < 6) : ldA M 0 (S + 10) (Int32.ofNat j) = some (M.1 (S + 10) j) := l_A (h.2.2 9 (by decide)).2 hj (by decide)
theorem ss10 (h : StK M S P) {j : Nat} (x : Int32) (hj : j < 6) : stA M 0 (S + 10) (Int32.ofNat j) x = some (sI M (S + 10) j x) := s_A x (h.2.2 9 (by decide)).2 hj (by decide)
theorem sn10 (h : StK M S P) : alen M (S + 10) = some (Int32.ofNat 6) := a_len (t := 0) (h.2.2 9 (by decide)).2 (by decide)
theorem s_held (h : StK M S P) : gfR M S 7 13 = some (S + 11) := (g_R 13 h.1).trans (congrArg some (h.2.2 10 (by decide)).1)
theorem sl11 (h : StK M S P) {j : Nat} (hj : j < 6) : ldA M 0 (S + 11) (Int32.ofNat j) = some (M.1 (S + 11) j) := l_A (h.2.2 10 (by decide)).2 hj (by decide)
theorem ss11 (h : StK M S P) {j : Nat} (x : Int32) (hj : j < 6) : stA M 0 (S + 11) (Int32.ofNat j) x = some (sI M (S + 11) j x) := s_A x (h.2.2 10 (by decide)).2 hj (by decide)
theorem sn11 (h : StK M S P) : alen M (S + 11) = some (Int32.ofNat 6) := a_len (t := 0) (h.2.2 10 (by decide)).2 (by decide)
theorem s_cool (h : StK M S P) : gfR M S 7 14 = some (S + 12) := (g_R 14 h.1).trans (congrArg some (h.2.2 11 (by decide)).1)
theorem sl12 (h : StK M S P) {j : Nat} (hj : j < 6) : ldA M 0 (S + 12) (Int32.ofNat j) = some (M.1 (S + 12) j) := l_A (h.2.2 11 (by decide)).2 hj (by decide)
theorem ss12 (h : StK M S P) {j : Nat} (x : Int32) (hj : j < 6) : stA M 0 (S + 12) (Int32.ofNat j) x = some (sI M (S + 12) j x) := s_A x (h.2.2 11 (by decide)).2 hj (by decide)
theorem sn12 (h : StK M S P) : alen M (S + 12) = some (Int32.ofNat 6) := a_len (t := 0) (h.2.2 11 (by decide)).2 (by decide)
theorem s_wanted (h : StK M S P) : gfR M S 7 15 = some (S + 13) := (g_R 15 h.1).trans (congrArg some (h.2.2 12 (by decide)).1)
theorem sl13 (h : StK M S P) {j : Nat} (hj : j < 60) : ldA M 0 (S + 13) (Int32.ofNat j) = some (M.1 (S + 13) j) := l_A (h.2.2 12 (by decide)).2 hj (by decide)
theorem ss13 (h : StK M S P) {j : Nat} (x : Int32) (hj : j < 60) : stA M 0 (S + 13) (Int32.ofNat j) x = some (sI M (S + 13) j x) := s_A x (h.2.2 12 (by decide)).2 hj (by decide)
theorem sn13 (h : StK M S P) : alen M (S + 13) = some (Int32.ofNat 60) := a_len (t := 0) (h.2.2 12 (by decide)).2 (by decide)
theorem s_log (h : StK M S P) : gfR M S 7 16 = some (S + 14) := (g_R 16 h.1).trans (congrArg some (h.2.2 13 (by decide)).1)
theorem sl14 (h : StK M S P) {j : Nat} (hj : j < 160) : ldA M 0 (S + 14) (Int32.ofNat j) = some (M.1 (S + 14) j) := l_A (h.2.2 13 (by decide)).2 hj (by decide)
theorem ss14 (h : StK M S P) {j : Nat} (x : Int32) (hj : j < 160) : stA M 0 (S + 14) (Int32.ofNat j) x = some (sI M (S + 14) j x) := s_A x (h.2.2 13 (by decide)).2 hj (by decide)
theorem sn14 (h : StK M S P) : alen M (S + 14) = some (Int32.ofNat 160) := a_len (t := 0) (h.2.2 13 (by decide)).2 (by decide)
end StKs
/-! a plan in the memory -/
def PlK (M : Gm) (P : Nat) : Prop := kd M P = (5, 0) ∧ (∀ i, i < 5 → M.2.1 P i = P + (1 + i)) ∧ (kd M (P + 1) = (36, 5) ∧ kd M (P + 2) = (37, 10) ∧ kd M (P + 3) = (38, 6) ∧ kd M (P + 4) = (39, 60) ∧ kd M (P + 5) = (40, 8)) ∧
  (∀ i, i < 5 → M.2.1 (P + 1) i = P + 6 + i ∧ kd M (P + 6 + i) = (10, 0)) ∧ (∀ i, i < 10 → M.2.1 (P + 2) i = P + 11 + i ∧ kd M (P + 11 + i) = (8, 0)) ∧ (∀ i, i < 6 → M.2.1 (P + 3) i = P + 21 + i ∧ kd M (P + 21 + i) = (2, 0)) ∧
  (∀ i, i < 60 → P + 27 ≤ M.2.1 (P + 4) i ∧ M.2.1 (P + 4) i < P + 87) ∧ (∀ a, P + 27 ≤ a → a < P + 87 → kd M a = (0, 0)) ∧ (∀ i, i < 8 → M.2.1 (P + 5) i = P + 87 + i ∧ kd M (P + 87 + i) = (9, 0))
theorem PlK.eq {M M' : Gm} {P : Nat} (h : PlK M P) (e : M'.2 = M.2) : PlK M' P := by
  unfold PlK kd at *
  rw [e]
  exact h
theorem PlK.fm {L : List Nat} {M M' : Gm} {P : Nat} (h : PlK M P) (e : Fm L M M') : PlK M' P := h.eq e.1
theorem PlK.sI {M : Gm} {P : Nat} (h : PlK M P) (a k : Nat) (x : Int32) : PlK (sI M a k x) P := h.eq rfl
section PlKs
variable {M : Gm} {P : Nat}
theorem p_O (h : PlK M P) : isO M P 5 = some () := i_O h.1
theorem pg_I (h : PlK M P) (k : Nat) : gfI M P 5 k = some (M.1 P k) := g_I k h.1
theorem pg_P (h : PlK M P) (k : Nat) (x : Int32) : pfI M P 5 k x = some (sI M P k x) := p_I k x h.1
theorem p_zones (h : PlK M P) : gfR M P 5 0 = some (P + 1) := (g_R 0 h.1).trans (congrArg some (h.2.1 0 (by decide)))
theorem p_trips (h : PlK M P) : gfR M P 5 1 = some (P + 2) := (g_R 1 h.1).trans (congrArg some (h.2.1 1 (by decide)))
theorem p_devices (h : PlK M P) : gfR M P 5 2 = some (P + 3) := (g_R 2 h.1).trans (congrArg some (h.2.1 2 (by decide)))
theorem p_binds (h : PlK M P) : gfR M P 5 3 = some (P + 4) := (g_R 3 h.1).trans (congrArg some (h.2.1 3 (by decide)))
theorem p_walls (h : PlK M P) : gfR M P 5 4 = some (P + 5) := (g_R 4 h.1).trans (congrArg some (h.2.1 4 (by decide)))
theorem p_zone (h : PlK M P) {i : Nat} (hi : i < 5) : ldR M 4 (P + 1) (Int32.ofNat i) = some (P + 6 + i) := (l_R h.2.2.1.1 hi (by decide)).trans (congrArg some (h.2.2.2.1 i hi).1)
theorem p_trip (h : PlK M P) {i : Nat} (hi : i < 10) : ldR M 5 (P + 2) (Int32.ofNat i) = some (P + 11 + i) := (l_R h.2.2.1.2.1 hi (by decide)).trans (congrArg some (h.2.2.2.2.1 i hi).1)
theorem p_device (h : PlK M P) {i : Nat} (hi : i < 6) : ldR M 6 (P + 3) (Int32.ofNat i) = some (P + 21 + i) := (l_R h.2.2.1.2.2.1 hi (by decide)).trans (congrArg some (h.2.2.2.2.2.1 i hi).1)
theorem p_bind (h : PlK M P) {i : Nat} (hi : i < 60) : ldR M 7 (P + 4) (Int32.ofNat i) = some (M.2.1 (P + 4) i) := l_R h.2.2.1.2.2.2.1 hi (by decide)
theorem p_wall (h : PlK M P) {i : Nat} (hi : i < 8) : ldR M 8 (P + 5) (Int32.ofNat i) = some (P + 87 + i) := (l_R h.2.2.1.2.2.2.2 hi (by decide)).trans (congrArg some (h.2.2.2.2.2.2.2.2 i hi).1)
theorem pz_I (h : PlK M P) {i : Nat} (hi : i < 5) (k : Nat) : gfI M (P + 6 + i) 10 k = some (M.1 (P + 6 + i) k) := g_I k (h.2.2.2.1 i hi).2
theorem pt_I (h : PlK M P) {i : Nat} (hi : i < 10) (k : Nat) : gfI M (P + 11 + i) 8 k = some (M.1 (P + 11 + i) k) := g_I k (h.2.2.2.2.1 i hi).2
theorem pd_I (h : PlK M P) {i : Nat} (hi : i < 6) (k : Nat) : gfI M (P + 21 + i) 2 k = some (M.1 (P + 21 + i) k) := g_I k (h.2.2.2.2.2.1 i hi).2
theorem pb_I (h : PlK M P) {i : Nat} (hi : i < 60) (k : Nat) : gfI M (M.2.1 (P + 4) i) 0 k = some (M.1 (M.2.1 (P + 4) i) k) := g_I k (h.2.2.2.2.2.2.2.1 _ (h.2.2.2.2.2.2.1 i hi).1 (h.2.2.2.2.2.2.1 i hi).2)
theorem pw_I (h : PlK M P) {i : Nat} (hi : i < 8) (k : Nat) : gfI M (P + 87 + i) 9 k = some (M.1 (P + 87 + i) k) := g_I k (h.2.2.2.2.2.2.2.2 i hi).2
end PlKs
/-- how many BINDS stand ahead of those of a TRIP -/
def fb (T : Nat → Int32) : Nat → Nat
  | 0 => 0
  | t + 1 => fb T t + (dl T t).length
/-- the i-th bound DEVICE of a TRIP -/
def di (T : Nat → Int32) (t i : Nat) : Nat := (dl T t).getD i 0
/-- the plan P stands for the told row T (LOADS, LEAKS and COOLS aside, which the State holds) -/
def PlV (M : Gm) (P : Nat) (T : Nat → Int32) : Prop :=
  (M.1 P 5 = T 163 ∧ M.1 P 6 = T 164 ∧ M.1 P 7 = T 165 ∧ M.1 P 8 = Int32.ofNat (fb T (tt T)) ∧ M.1 P 9 = T 167) ∧
  (∀ z, z < tz T → M.1 (P + 6 + z) 2 = T (5 + z) ∧ M.1 (P + 6 + z) 3 = T (10 + z)) ∧
  (∀ t, t < tt T → M.1 (P + 11 + t) 0 = T (15 + t) ∧ M.1 (P + 11 + t) 1 = T (25 + t) ∧ M.1 (P + 11 + t) 2 = T (35 + t) ∧ M.1 (P + 11 + t) 3 = T (45 + t) ∧ M.1 (P + 11 + t) 4 = Int32.ofNat (fb T t) ∧ M.1 (P + 11 + t) 5 = Int32.ofNat (fb T (t + 1))) ∧
  (∀ d, d < td T → M.1 (P + 21 + d) 0 = T (55 + d) ∧ M.1 (P + 21 + d) 1 = T (61 + d) ∧ M.1 (P + 21 + d) 2 = T (67 + d)) ∧
  (∀ t i, t < tt T → i < (dl T t).length → M.1 (M.2.1 (P + 4) (fb T t + i)) 0 = Int32.ofNat t ∧ M.1 (M.2.1 (P + 4) (fb T t + i)) 1 = Int32.ofNat (di T t i) ∧ M.1 (M.2.1 (P + 4) (fb T t + i)) 2 = T (79 + 6 * t + di T t i)) ∧
  ∀ k, k < tw T → M.1 (P + 87 + k) 0 = T (139 + k) ∧ M.1 (P + 87 + k) 1 = T (147 + k) ∧ M.1 (P + 87 + k) 2 = T (155 + k)
/-- the State S stands for the rows N and T -/
def StV (M : Gm) (S : Nat) (N T : Nat → Int32) : Prop :=
  (M.1 S 1 = N 142 ∧ M.1 S 2 = N 143 ∧ M.1 S 17 = Int32.ofNat (lg N % 40) ∧ M.1 S 18 = Int32.ofNat (min 40 (lg N)) ∧ M.1 S 19 = N 144) ∧
  (∀ z, z < tz T → M.1 (S + 1) z = N z ∧ M.1 (S + 2) z = N (5 + z) ∧ M.1 (S + 3) z = T z ∧ M.1 (S + 4) z = N (20 + z) ∧ M.1 (S + 5) z = N (25 + z) ∧ M.1 (S + 6) z = N (15 + z)) ∧
  (∀ z i, z < tz T → i < 4 → M.1 (S + 7) (4 * z + i) = N (30 + 4 * z + i)) ∧
  (∀ t, t < tt T → M.1 (S + 8) t = N (50 + t) ∧ M.1 (S + 9) t = N (60 + t)) ∧
  (∀ d, d < td T → M.1 (S + 10) d = N (70 + d) ∧ M.1 (S + 11) d = N (76 + d) ∧ M.1 (S + 12) d = T (73 + d)) ∧
  (∀ t i, t < tt T → i < (dl T t).length → M.1 (S + 13) (fb T t + i) = N (82 + 6 * t + di T t i)) ∧
  ∀ j, j < 4 * min 40 (lg N) → M.1 (S + 14) j = N (145 + j)
/-- where States and plans lie -/
def SOk (S : Nat) : Prop := S = 263 ∨ S = 284 ∨ S = 304 ∨ 346 ≤ S
def POk (P : Nat) : Prop := P = 67 ∨ P = 162
/-- what holds of a row now in force -/
def NOk (N T : Nat → Int32) : Prop :=
  (∀ z, z < tz T → isN (N z) 0 1500 ∧ isN (N (5 + z)) 0 99 ∧ isN (N (20 + z)) 0 1500 ∧ (-1500 ≤ (N (25 + z)).toInt ∧ (N (25 + z)).toInt ≤ 1500) ∧ isN (N (15 + z)) 0 2 ∧ (N (10 + z) = if N (15 + z) = 0 then 0 else 1)) ∧
  (∀ z i, z < tz T → i < 4 → isN (N (30 + 4 * z + i)) 0 1500) ∧
  (∀ t, t < tt T → isN (N (50 + t)) 0 1) ∧
  (∀ d, d < td T → isN (N (70 + d)) 0 (mn T d) ∧ (-1 ≤ (N (76 + d)).toInt ∧ (N (76 + d)).toInt ≤ mn T d)) ∧
  (∀ t d, t < 10 → d < 6 → isN (N (82 + 6 * t + d)) 0 9 ∧ (wn T t d = 0 → N (82 + 6 * t + d) = 0) ∧ (wn T t d ≠ 0 → isN (N (82 + 6 * t + d)) 0 (mn T d))) ∧
  isN (N 143) 0 9

