/-! ===== PURE 31: masks of the shut; the reference's trying ===== -/
def mkB (f : Nat → Bool) : Nat → Int32
  | 0 => 0
  | z + 1 => mkB f z ||| ((if f z then 1 else 0) <<< (Int32.ofNat z &&& 31))
theorem mkB_congr {f g : Nat → Bool} : ∀ n, (∀ z, z < n → f z = g z) → mkB f n = mkB g n
  | 0, _ => rfl
  | n + 1, h => by
    show mkB f n ||| _ = mkB g n ||| _
    rw [mkB_congr n (fun z hz => h z (by omega)), h n (by omega)]
theorem z_shl : ∀ z, z < 5 → (0 : Int32) <<< (Int32.ofNat z &&& 31) = 0 := by decide +kernel
theorem mkB_up {f : Nat → Bool} {n : Nat} (h : ∀ z, n ≤ z → f z = false) : ∀ m, n ≤ m → m ≤ 5 → mkB f m = mkB f n := by
  intro m
  induction m with
  | zero => intro h1 _; rw [show n = 0 by omega]
  | succ m ih =>
    intro h1 h2
    by_cases e : n = m + 1
    · rw [e]
    · show mkB f m ||| _ = _
      rw [h m (by omega), ih (by omega) (by omega)]
      show mkB f n ||| ((0 : Int32) <<< _) = _
      rw [z_shl m (by omega), Int32.or_zero]
def f5 (b0 b1 b2 b3 b4 : Bool) : Nat → Bool
  | 0 => b0
  | 1 => b1
  | 2 => b2
  | 3 => b3
  | 4 => b4
  | _ => false
def fst5 (p0 p1 p2 p3 : Bool) : Int32 := if p0 then 0 else if p1 then 1 else if p2 then 2 else if p3 then 3 else 4
def Gm0 : Gm := (fun _ _ => 0, fun _ _ => 0, [])
def ch1 (b0 b1 b2 b3 b4 c0 c1 c2 c3 c4 : Bool) : Bool := decide (mkB (f5 b0 b1 b2 b3 b4) 5 = mkB (f5 c0 c1 c2 c3 c4) 5) == (b0 == c0 && b1 == c1 && b2 == c2 && b3 == c3 && b4 == c4)
def ch2 (b0 b1 b2 b3 b4 c0 c1 c2 c3 c4 : Bool) : Bool := decide (mkB (f5 b0 b1 b2 b3 b4) 5 &&& (mkB (f5 c0 c1 c2 c3 c4) 5 ^^^ (-1)) = 0) == ((!b0 || c0) && (!b1 || c1) && (!b2 || c2) && (!b3 || c3) && (!b4 || c4))
def ch3 (b0 b1 b2 b3 b4 c0 c1 c2 c3 c4 : Bool) : Bool := decide (mkB (f5 b0 b1 b2 b3 b4) 5 &&& (mkB (f5 c0 c1 c2 c3 c4) 5 ^^^ (-1)) = 0) || decide (sh_J6_numberOfTrailingZeros_0f7a4 (mkB (f5 b0 b1 b2 b3 b4) 5 &&& (mkB (f5 c0 c1 c2 c3 c4) 5 ^^^ (-1))) Gm0 = some (fst5 (b0 && !c0) (b1 && !c1) (b2 && !c2) (b3 && !c3)))
theorem bq1 : ∀ b0 b1 b2 b3 b4 c0 c1 c2 c3 c4 : Bool, ch1 b0 b1 b2 b3 b4 c0 c1 c2 c3 c4 = true := by decide +kernel
theorem bq2 : ∀ b0 b1 b2 b3 b4 c0 c1 c2 c3 c4 : Bool, ch2 b0 b1 b2 b3 b4 c0 c1 c2 c3 c4 = true := by decide +kernel
theorem bq3 : ∀ b0 b1 b2 b3 b4 c0 c1 c2 c3 c4 : Bool, ch3 b0 b1 b2 b3 b4 c0 c1 c2 c3 c4 = true := by decide +kernel
theorem imB (b c : Bool) : ((!b || c) = true) = (b = true → c = true) := by cases b <;> cases c <;> simp
theorem bf5 (b0 b1 b2 b3 b4 c0 c1 c2 c3 c4 : Bool) : (mkB (f5 b0 b1 b2 b3 b4) 5 = mkB (f5 c0 c1 c2 c3 c4) 5 ↔ b0 = c0 ∧ b1 = c1 ∧ b2 = c2 ∧ b3 = c3 ∧ b4 = c4) ∧
    ((mkB (f5 b0 b1 b2 b3 b4) 5 &&& (mkB (f5 c0 c1 c2 c3 c4) 5 ^^^ (-1)) = 0 ↔ (b0 = true → c0 = true) ∧ (b1 = true → c1 = true) ∧ (b2 = true → c2 = true) ∧ (b3 = true → c3 = true) ∧ (b4 = true → c4 = true))) ∧
    (¬ mkB (f5 b0 b1 b2 b3 b4) 5 &&& (mkB (f5 c0 c1 c2 c3 c4) 5 ^^^ (-1)) = 0 → sh_J6_numberOfTrailingZeros_0f7a4 (mkB (f5 b0 b1 b2 b3 b4) 5 &&& (mkB (f5 c0 c1 c2 c3 c4) 5 ^^^ (-1))) Gm0 = some (fst5 (b0 && !c0) (b1 && !c1) (b2 && !c2) (b3 && !c3))) := by
  have h1 := bq1 b0 b1 b2 b3 b4 c0 c1 c2 c3 c4
  have h2 := bq2 b0 b1 b2 b3 b4 c0 c1 c2 c3 c4
  have h3 := bq3 b0 b1 b2 b3 b4 c0 c1 c2 c3 c4
  unfold ch1 at h1
  unfold ch2 at h2
  unfold ch3 at h3
  refine ⟨?_, ?_, fun q => ?_⟩
  · have := congrArg (fun x => x = true) (beq_iff_eq.mp h1)
    simp only [decide_eq_true_eq, Bool.and_eq_true, beq_iff_eq, and_assoc] at this
    rw [this]
  · have := congrArg (fun x => x = true) (beq_iff_eq.mp h2)
    simp only [decide_eq_true_eq, Bool.and_eq_true, imB, and_assoc] at this
    rw [this]
  · rw [Bool.or_eq_true] at h3
    rcases h3 with c | c
    · exact absurd (of_decide_eq_true c) q
    · exact of_decide_eq_true c
theorem ntz_M (x : Int32) (M : Gm) : sh_J6_numberOfTrailingZeros_0f7a4 x M = sh_J6_numberOfTrailingZeros_0f7a4 x Gm0 := rfl
theorem f5_eq (f : Nat → Bool) : mkB (f5 (f 0) (f 1) (f 2) (f 3) (f 4)) 5 = mkB f 5 := rfl
theorem mk_cut (f : Nat → Bool) {n : Nat} (hn : n ≤ 5) : mkB f n = mkB (f5 (f 0 && decide (0 < n)) (f 1 && decide (1 < n)) (f 2 && decide (2 < n)) (f 3 && decide (3 < n)) (f 4 && decide (4 < n))) 5 := by
  rw [f5_eq (fun z => f z && decide (z < n)), mkB_up (n := n) (fun z hz => by simp; omega) 5 hn (by omega)]
  exact mkB_congr n (fun z hz => by simp [hz])
theorem all5 {p : Nat → Prop} {n : Nat} (hn : n ≤ 5) (h0 : 0 < n → p 0) (h1 : 1 < n → p 1) (h2 : 2 < n → p 2) (h3 : 3 < n → p 3) (h4 : 4 < n → p 4) : ∀ z, z < n → p z := by
  intro z hz
  match z, hz with
  | 0, h => exact h0 h
  | 1, h => exact h1 h
  | 2, h => exact h2 h
  | 3, h => exact h3 h
  | 4, h => exact h4 h
  | z + 5, h => omega
theorem mk_eq {f g : Nat → Bool} {n : Nat} (hn : n ≤ 5) : mkB f n = mkB g n ↔ ∀ z, z < n → f z = g z := by
  refine ⟨fun h => ?_, fun h => mkB_congr n h⟩
  rw [mk_cut f hn, mk_cut g hn, (bf5 _ _ _ _ _ _ _ _ _ _).1] at h
  obtain ⟨a, b, c, d, e⟩ := h
  exact all5 hn (fun q => by simpa [q] using a) (fun q => by simpa [q] using b) (fun q => by simpa [q] using c) (fun q => by simpa [q] using d) (fun q => by simpa [q] using e)
theorem mk_new {f g : Nat → Bool} {n : Nat} (hn : n ≤ 5) : (mkB f n &&& (mkB g n ^^^ (-1)) = 0) ↔ ∀ z, z < n → f z = true → g z = true := by
  rw [mk_cut f hn, mk_cut g hn, (bf5 _ _ _ _ _ _ _ _ _ _).2.1]
  refine ⟨fun ⟨a, b, c, d, e⟩ => ?_, fun h => ?_⟩
  · exact all5 hn (fun q => by simpa [q] using a) (fun q => by simpa [q] using b) (fun q => by simpa [q] using c) (fun q => by simpa [q] using d) (fun q => by simpa [q] using e)
  · refine ⟨?_, ?_, ?_, ?_, ?_⟩ <;> (simp only [Bool.and_eq_true, decide_eq_true_eq]; exact fun q => ⟨h _ q.2 q.1, q.2⟩)
/-- the least ZONE that is shut there and not here; none -/
def FstZ (f g : Nat → Bool) (n : Nat) (e : Int32) : Prop := (e = -1 ∧ ∀ z, z < n → f z = true → g z = true) ∨ ∃ z, z < n ∧ (f z = true ∧ g z = false) ∧ (∀ y, y < z → f y = true → g y = true) ∧ e = Int32.ofNat z
theorem FstZ.uq {f g : Nat → Bool} {n : Nat} {e e' : Int32} (h : FstZ f g n e) (h' : FstZ f g n e') : e = e' := by
  rcases h with ⟨a1, a2⟩ | ⟨z, a1, a2, a3, a4⟩ <;> rcases h' with ⟨b1, b2⟩ | ⟨y, b1, b2, b3, b4⟩
  · rw [a1, b1]
  · have := a2 y b1 b2.1; rw [b2.2] at this; cases this
  · have := b2 z a1 a2.1; rw [a2.2] at this; cases this
  · have : z = y := by
      rcases Nat.lt_trichotomy z y with q | q | q
      · have := b3 z q a2.1; rw [a2.2] at this; cases this
      · exact q
      · have := a3 y q b2.1; rw [b2.2] at this; cases this
    rw [a4, b4, this]
theorem mk_fst {f g : Nat → Bool} {n : Nat} (hn : n ≤ 5) (M : Gm) (h : ¬ mkB f n &&& (mkB g n ^^^ (-1)) = 0) : ∃ e, sh_J6_numberOfTrailingZeros_0f7a4 (mkB f n &&& (mkB g n ^^^ (-1))) M = some e ∧ FstZ f g n e := by
  have h0 := h
  rw [mk_new hn] at h0
  rw [ntz_M]
  rw [mk_cut f hn, mk_cut g hn] at h ⊢
  refine ⟨_, (bf5 _ _ _ _ _ _ _ _ _ _).2.2 h, ?_⟩
  rw [(bf5 _ _ _ _ _ _ _ _ _ _).2.1] at h
  simp only [Bool.and_eq_true, decide_eq_true_eq] at h
  have imp : ∀ z, (¬ (f z = true ∧ z < n → g z = true ∧ z < n)) → z < n ∧ f z = true ∧ g z = false := fun z q => by
    refine ⟨?_, ?_, ?_⟩
    · exact Classical.byContradiction fun c => q (fun x => absurd x.2 c)
    · exact Classical.byContradiction fun c => q (fun x => absurd x.1 c)
    · rcases Bool.eq_false_or_eq_true (g z) with c | c
      · exact absurd (fun x => ⟨c, x.2⟩) q
      · exact c
  have pos : ∀ z, (f z = true ∧ z < n → g z = true ∧ z < n) → ((f z && decide (z < n)) && !(g z && decide (z < n))) = false := fun z q => by
    by_cases c : f z = true ∧ z < n
    · have := q c; simp [c.1, c.2, this.1]
    · by_cases c1 : f z = true
      · have : ¬ z < n := fun x => c ⟨c1, x⟩
        simp [this]
      · simp [c1]
  have neg : ∀ z, (¬ (f z = true ∧ z < n → g z = true ∧ z < n)) → ((f z && decide (z < n)) && !(g z && decide (z < n))) = true := fun z q => by
    obtain ⟨a, b, c⟩ := imp z q
    simp [a, b, c]
  refine Or.inr ?_
  have lift : ∀ z, (f z = true ∧ z < n → g z = true ∧ z < n) → z < n → f z = true → g z = true := fun z q a b => (q ⟨b, a⟩).1
  unfold fst5
  by_cases c0 : (f 0 = true ∧ 0 < n → g 0 = true ∧ 0 < n)
  · rw [pos 0 c0]
    by_cases c1 : (f 1 = true ∧ 1 < n → g 1 = true ∧ 1 < n)
    · rw [pos 1 c1]
      by_cases c2 : (f 2 = true ∧ 2 < n → g 2 = true ∧ 2 < n)
      · rw [pos 2 c2]
        by_cases c3 : (f 3 = true ∧ 3 < n → g 3 = true ∧ 3 < n)
        · rw [pos 3 c3]
          have c4 : ¬ (f 4 = true ∧ 4 < n → g 4 = true ∧ 4 < n) := fun c4 => h ⟨c0, c1, c2, c3, c4⟩
          obtain ⟨a, b, c⟩ := imp 4 c4
          refine ⟨4, a, ⟨b, c⟩, all5 (n := 4) (by omega) (fun _ => lift 0 c0 (by omega)) (fun _ => lift 1 c1 (by omega)) (fun _ => lift 2 c2 (by omega)) (fun _ => lift 3 c3 (by omega)) (fun q => by omega), rfl⟩
        · rw [neg 3 c3]
          obtain ⟨a, b, c⟩ := imp 3 c3
          refine ⟨3, a, ⟨b, c⟩, all5 (n := 3) (by omega) (fun _ => lift 0 c0 (by omega)) (fun _ => lift 1 c1 (by omega)) (fun _ => lift 2 c2 (by omega)) (fun q => by omega) (fun q => by omega), rfl⟩
      · rw [neg 2 c2]
        obtain ⟨a, b, c⟩ := imp 2 c2
        refine ⟨2, a, ⟨b, c⟩, all5 (n := 2) (by omega) (fun _ => lift 0 c0 (by omega)) (fun _ => lift 1 c1 (by omega)) (fun q => by omega) (fun q => by omega) (fun q => by omega), rfl⟩
    · rw [neg 1 c1]
      obtain ⟨a, b, c⟩ := imp 1 c1
      refine ⟨1, a, ⟨b, c⟩, all5 (n := 1) (by omega) (fun _ => lift 0 c0 (by omega)) (fun q => by omega) (fun q => by omega) (fun q => by omega) (fun q => by omega), rfl⟩
  · rw [neg 0 c0]
    obtain ⟨a, b, c⟩ := imp 0 c0
    exact ⟨0, a, ⟨b, c⟩, fun y hy => by omega, rfl⟩
/-- which ZONES are shut -/
def sb (N : Nat → Int32) (z : Nat) : Bool := decide (N (10 + z) ≠ 0)
theorem NOk.sh {N T : Nat → Int32} (h : NOk N T) {z : Nat} (hz : z < tz T) : N (10 + z) = if sb N z then 1 else 0 := by
  have := (h.1 z hz).2.2.2.2.2
  unfold sb
  rw [this]
  split <;> rfl
theorem m_shutSet {M : Gm} {T N : Nat → Int32} (hM : Ky M) (hT : TOk T) (eT : M.1 325 = T) (eN : M.1 324 = N) (hN : NOk N T) : sh_X12_shutSet 319 M = some (mkB (sb N) (tz T)) := by
  have hz := hT.z
  have key : lp (X12_shutSet_B4 319 M) FU (0, 0) = some (mkB (sb N) (tz T)) := by
    refine lp_for (fun j => (mkB (sb N) j, Int32.ofNat j)) _ (tz T) (fun j hj => ?_) ?_ (by omega)
    · unfold X12_shutSet_B4
      simp (disch := omega) only [m_zones hM, eT, hz.1, m_now hM, ix10, ld324 hM, Option.bind_some, le_n, suc_n, eN]
      rw [if_neg (by omega), hN.sh hj]
      rfl
    · unfold X12_shutSet_B4
      simp (disch := omega) only [m_zones hM, eT, hz.1, Option.bind_some, le_n]
      rw [if_pos (Nat.le_refl _)]
  unfold sh_X12_shutSet X12_shutSet_F
  simp only [m_O hM, Option.bind_some, key]
theorem c_shutBits {M : Gm} {S P k : Nat} {N T : Nat → Int32} (w : Wd M P T) (s : Sd M S P N T k) : sh_X7_shutBits S M = some (mkB (sb N) (tz T)) := by
  obtain ⟨hM, hC, hF, hP, po, hT, pv⟩ := w
  obtain ⟨hS, so, sv, hN, hL⟩ := s
  have hz := hT.z
  have e5 : M.1 P 5 = Int32.ofNat (tz T) := pv.1.1.trans hz.1
  have key : lp (X7_shutBits_B4 S M) FU (0, 0) = some (mkB (sb N) (tz T)) := by
    refine lp_for (fun j => (mkB (sb N) j, Int32.ofNat j)) _ (tz T) (fun j hj => ?_) ?_ (by omega)
    · unfold X7_shutBits_B4 X7_shutBits_J31
      simp (disch := omega) only [s_plan hS, pg_I hP, e5, Option.bind_some, le_n, suc_n, c_isShut hS]
      rw [if_neg (by omega), (sv.2.1 j hj).2.2.2.2.2]
      have h10 := (hN.1 j hj).2.2.2.2.2
      by_cases c : N (15 + j) = 0
      · rw [if_pos c, if_pos rfl]
        show _ = some (Sum.inl (mkB (sb N) j ||| _, _))
        rw [show sb N j = false by unfold sb; rw [h10, if_pos c]; rfl]
        show _ = some (Sum.inl (mkB (sb N) j ||| ((0 : Int32) <<< _), _))
        rw [z_shl j (by omega)]
      · rw [if_neg c, if_neg (by decide)]
        show _ = some (Sum.inl (mkB (sb N) j ||| _, _))
        rw [show sb N j = true by unfold sb; rw [h10, if_neg c]; rfl]
        rfl
    · unfold X7_shutBits_B4
      simp (disch := omega) only [s_plan hS, pg_I hP, e5, Option.bind_some, le_n]
      rw [if_pos (Nat.le_refl _)]
  unfold sh_X7_shutBits X7_shutBits_F
  simp only [s_O hS, Option.bind_some, key]
/-! the reference copies a row -/
def mixR (n : Nat) (f g : Nat → Int32) : Nat → Int32 := fun k => if k < n then f k else g k
theorem mixR_lt {n k : Nat} {f g : Nat → Int32} (h : k < n) : mixR n f g k = f k := if_pos h
theorem mixR_ge {n k : Nat} {f g : Nat → Int32} (h : n ≤ k) : mixR n f g k = g k := if_neg (by omega)
theorem m_copyTo {M : Gm} {a b n : Nat} (ha : kd M a = (32, n)) (hb : kd M b = (32, n)) (hab : a ≠ b) (hn : n < 20000) : sh_X12_copyTo a b M = some (wR M a (mixR n (M.1 b) (M.1 a))) := by
  have key : lp (X12_copyTo_B2 a b) FU (0, M) = some (wR M a (mixR n (M.1 b) (M.1 a))) := by
    have h0 : (0, M) = (fun j => (Int32.ofNat j, wR M a (mixR j (M.1 b) (M.1 a)))) 0 := by
      show _ = (Int32.ofNat 0, wR M a (mixR 0 (M.1 b) (M.1 a)))
      rw [show mixR 0 (M.1 b) (M.1 a) = M.1 a from funext fun k => mixR_ge (Nat.zero_le k), wR_self]
      rfl
    rw [h0]
    refine lp_for (fun j => (Int32.ofNat j, wR M a (mixR j (M.1 b) (M.1 a)))) _ n (fun j hj => ?_) ?_ hn
    · unfold X12_copyTo_B2
      have e1 : alen (wR M a (mixR j (M.1 b) (M.1 a))) a = some (Int32.ofNat n) := a_len (t := 0) ha (by decide)
      have e2 : ldA (wR M a (mixR j (M.1 b) (M.1 a))) 0 b (Int32.ofNat j) = some (M.1 b j) := by
        rw [l_A (n := n) hb hj (by omega), wR_ne _ _ (Ne.symm hab)]
      have e3 : ∀ x, stA (wR M a (mixR j (M.1 b) (M.1 a))) 0 a (Int32.ofNat j) x = some (sI (wR M a (mixR j (M.1 b) (M.1 a))) a j x) := fun x => s_A x ha hj (by omega)
      simp (disch := omega) only [e1, e2, e3, Option.bind_some, le_n, suc_n]
      rw [if_neg (by omega), sI_wR, wR_own, wR_wR]
      congr 4
      funext k
      unfold ud mixR
      by_cases c : k = j
      · rw [if_pos c, if_pos (by omega), c]
      · rw [if_neg c]
        by_cases c' : k < j
        · rw [if_pos c', if_pos (by omega)]
        · rw [if_neg c', if_neg (by omega)]
    · unfold X12_copyTo_B2
      have e1 : alen (wR M a (mixR n (M.1 b) (M.1 a))) a = some (Int32.ofNat n) := a_len (t := 0) ha (by decide)
      simp (disch := omega) only [e1, Option.bind_some, le_n]
      rw [if_pos (Nat.le_refl _)]
  unfold sh_X12_copyTo X12_copyTo_F
  rw [key]
  rfl
theorem m_tries {M : Gm} (hM : Ky M) : sh_X12_tries 319 M = some (wR M 332 (mixR 305 (M.1 324) (M.1 332))) := by
  unfold sh_X12_tries X12_tries_F
  simp only [m_O hM, m_then hM, m_now hM, Option.bind_some, m_copyTo (n := 305) ((hM.1 332 (by decide)).trans rfl) ((hM.1 324 (by decide)).trans rfl) (by decide) (by decide)]
theorem m_laysBack {M : Gm} (hM : Ky M) : sh_X12_laysBack 319 M = some (wR M 324 (mixR 305 (M.1 332) (M.1 324))) := by
  unfold sh_X12_laysBack X12_laysBack_F
  simp only [m_O hM, m_then hM, m_now hM, Option.bind_some, m_copyTo (n := 305) ((hM.1 324 (by decide)).trans rfl) ((hM.1 332 (by decide)).trans rfl) (by decide) (by decide)]
