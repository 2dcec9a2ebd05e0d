/-! ===== LEX 1: tokens; the class's nextToken ===== -/
def isW (x : Int32) : Prop := x = 32 ∨ x = 10
/-- what a byte begins -/
def ck (b : Nat → Int32) (n i : Nat) : Nat := if n ≤ i then 0 else if ¬ b i < 97 ∧ ¬ 122 < b i then 1 else if ¬ b i < 48 ∧ ¬ 57 < b i then 2 else if b i = 59 then 3 else 4
def wsK (b : Nat → Int32) (n : Nat) : Nat → Nat → Nat
  | 0, p => p
  | f + 1, p => if p < n ∧ (b p = 32 ∨ b p = 10) then wsK b n f (p + 1) else p
def rnK (b : Nat → Int32) (n k : Nat) : Nat → Nat → Nat
  | 0, p => p
  | f + 1, p => if p < n ∧ ck b n p = k then rnK b n k f (p + 1) else p
/-- the first place from p on that is no space; the end of a run of a kind -/
def wsE (b : Nat → Int32) (n p : Nat) : Nat := wsK b n (n - p) p
def rnE (b : Nat → Int32) (n k p : Nat) : Nat := rnK b n k (n - p) p
def WsR (b : Nat → Int32) (n p q : Nat) : Prop := (p ≤ q ∧ q ≤ n) ∧ (∀ i, p ≤ i → i < q → isW (b i)) ∧ (q = n ∨ ¬ isW (b q))
def RnR (b : Nat → Int32) (n k p q : Nat) : Prop := (p ≤ q ∧ q ≤ n) ∧ (∀ i, p ≤ i → i < q → ck b n i = k) ∧ (q = n ∨ ck b n q ≠ k)
theorem WsR.uq {b : Nat → Int32} {n p q q' : Nat} (h : WsR b n p q) (g : WsR b n p q') : q = q' := by
  obtain ⟨a1, a2, a3⟩ := h
  obtain ⟨b1, b2, b3⟩ := g
  rcases Nat.lt_trichotomy q q' with c | c | c
  · rcases a3 with d | d
    · omega
    · exact absurd (b2 q a1.1 c) d
  · exact c
  · rcases b3 with d | d
    · omega
    · exact absurd (a2 q' b1.1 c) d
theorem RnR.uq {b : Nat → Int32} {n k p q q' : Nat} (h : RnR b n k p q) (g : RnR b n k p q') : q = q' := by
  obtain ⟨a1, a2, a3⟩ := h
  obtain ⟨b1, b2, b3⟩ := g
  rcases Nat.lt_trichotomy q q' with c | c | c
  · rcases a3 with d | d
    · omega
    · exact absurd (b2 q a1.1 c) d
  · exact c
  · rcases b3 with d | d
    · omega
    · exact absurd (a2 q' b1.1 c) d
theorem wsK_ok (b : Nat → Int32) (n : Nat) : ∀ f p, p ≤ n → n - p ≤ f → WsR b n p (wsK b n f p) := by
  intro f
  induction f with
  | zero =>
    intro p h1 h2
    have : p = n := by omega
    subst this
    exact ⟨⟨Nat.le_refl _, Nat.le_refl _⟩, fun i h3 h4 => absurd (Nat.lt_of_le_of_lt h3 h4) (Nat.lt_irrefl _), Or.inl rfl⟩
  | succ f ih =>
    intro p h1 h2
    rw [wsK]
    by_cases c : p < n ∧ (b p = 32 ∨ b p = 10)
    · rw [if_pos c]
      obtain ⟨a1, a2, a3⟩ := ih (p + 1) (by omega) (by omega)
      refine ⟨⟨by omega, a1.2⟩, fun i h3 h4 => ?_, a3⟩
      by_cases e : i = p
      · rw [e]; exact c.2
      · exact a2 i (by omega) h4
    · rw [if_neg c]
      refine ⟨⟨Nat.le_refl _, h1⟩, fun i h3 h4 => absurd (Nat.lt_of_le_of_lt h3 h4) (Nat.lt_irrefl _), ?_⟩
      by_cases d : p = n
      · exact Or.inl d
      · exact Or.inr (fun q => c ⟨by omega, q⟩)
theorem rnK_ok (b : Nat → Int32) (n k : Nat) : ∀ f p, p ≤ n → n - p ≤ f → RnR b n k p (rnK b n k f p) := by
  intro f
  induction f with
  | zero =>
    intro p h1 h2
    have : p = n := by omega
    subst this
    exact ⟨⟨Nat.le_refl _, Nat.le_refl _⟩, fun i h3 h4 => absurd (Nat.lt_of_le_of_lt h3 h4) (Nat.lt_irrefl _), Or.inl rfl⟩
  | succ f ih =>
    intro p h1 h2
    rw [rnK]
    by_cases c : p < n ∧ ck b n p = k
    · rw [if_pos c]
      obtain ⟨a1, a2, a3⟩ := ih (p + 1) (by omega) (by omega)
      refine ⟨⟨by omega, a1.2⟩, fun i h3 h4 => ?_, a3⟩
      by_cases e : i = p
      · rw [e]; exact c.2
      · exact a2 i (by omega) h4
    · rw [if_neg c]
      refine ⟨⟨Nat.le_refl _, h1⟩, fun i h3 h4 => absurd (Nat.lt_of_le_of_lt h3 h4) (Nat.lt_irrefl _), ?_⟩
      by_cases d : p = n
      · exact Or.inl d
      · exact Or.inr (fun q => c ⟨by omega, q⟩)
theorem ws_ok (b : Nat → Int32) {n p : Nat} (h : p ≤ n) : WsR b n p (wsE b n p) := wsK_ok b n _ p h (Nat.le_refl _)
theorem rn_ok (b : Nat → Int32) {n p : Nat} (k : Nat) (h : p ≤ n) : RnR b n k p (rnE b n k p) := rnK_ok b n k _ p h (Nat.le_refl _)
/-- the TOKEN from p on: where it begins, its kind, where it ends -/
def tB (b : Nat → Int32) (n p : Nat) : Nat := wsE b n p
def tK (b : Nat → Int32) (n p : Nat) : Nat := ck b n (tB b n p)
def tE (b : Nat → Int32) (n p : Nat) : Nat := if tK b n p = 0 then tB b n p else if tK b n p = 1 ∨ tK b n p = 2 then rnE b n (tK b n p) (tB b n p + 1) else tB b n p + 1
theorem tB_ok {b : Nat → Int32} {n p : Nat} (h : p ≤ n) : p ≤ tB b n p ∧ tB b n p ≤ n := (ws_ok b h).1
theorem ck_0 {b : Nat → Int32} {n i : Nat} : ck b n i = 0 ↔ n ≤ i := by
  unfold ck
  by_cases c : n ≤ i
  · rw [if_pos c]; exact ⟨fun _ => c, fun _ => rfl⟩
  · rw [if_neg c]
    refine ⟨fun h => ?_, fun h => absurd h c⟩
    split at h
    · omega
    · split at h
      · omega
      · split at h <;> omega
theorem ck_4 (b : Nat → Int32) (n i : Nat) : ck b n i ≤ 4 := by
  unfold ck
  split
  · omega
  · split
    · omega
    · split
      · omega
      · split <;> omega
theorem tE_ok {b : Nat → Int32} {n p : Nat} (h : p ≤ n) : tB b n p ≤ tE b n p ∧ tE b n p ≤ n ∧ (tK b n p ≠ 0 → tB b n p < tE b n p) := by
  have h1 := tB_ok (b := b) h
  unfold tE
  by_cases c : tK b n p = 0
  · rw [if_pos c]; exact ⟨Nat.le_refl _, h1.2, fun q => absurd c q⟩
  · have hlt : tB b n p < n := by
      refine Nat.lt_of_not_le (fun q => c ?_)
      exact ck_0.mpr q
    rw [if_neg c]
    by_cases d : tK b n p = 1 ∨ tK b n p = 2
    · rw [if_pos d]
      have := (rn_ok b (tK b n p) (p := tB b n p + 1) (n := n) (by omega)).1
      omega
    · rw [if_neg d]; omega
/-- the text on the class's tape -/
def Tx (M : Gm) (b : Nat → Int32) (n : Nat) : Prop := n ≤ 700 ∧ ∀ i, i < n → BtV (M.1 65 i) (b i)
theorem bt_all : ∀ n, n < 256 → ((Int32.ofNat n).toInt8.toInt32 = 32 ↔ Int32.ofNat n = 32) ∧ ((Int32.ofNat n).toInt8.toInt32 = 10 ↔ Int32.ofNat n = 10) ∧ ((Int32.ofNat n).toInt8.toInt32 = 59 ↔ Int32.ofNat n = 59) ∧ ((¬ (Int32.ofNat n).toInt8.toInt32 < 97 ∧ ¬ 122 < (Int32.ofNat n).toInt8.toInt32) ↔ (¬ Int32.ofNat n < 97 ∧ ¬ 122 < Int32.ofNat n)) ∧ ((¬ (Int32.ofNat n).toInt8.toInt32 < 48 ∧ ¬ 57 < (Int32.ofNat n).toInt8.toInt32) ↔ (¬ Int32.ofNat n < 48 ∧ ¬ 57 < Int32.ofNat n)) ∧ ((¬ Int32.ofNat n < 48 ∧ ¬ 122 < Int32.ofNat n) → (Int32.ofNat n).toInt8.toInt32 = Int32.ofNat n) := by decide +kernel
theorem bt_eq {a b : Int32} (h : BtV a b) : (a = 32 ↔ b = 32) ∧ (a = 10 ↔ b = 10) ∧ (a = 59 ↔ b = 59) ∧ ((¬ a < 97 ∧ ¬ 122 < a) ↔ (¬ b < 97 ∧ ¬ 122 < b)) ∧ ((¬ a < 48 ∧ ¬ 57 < a) ↔ (¬ b < 48 ∧ ¬ 57 < b)) ∧ ((¬ b < 48 ∧ ¬ 122 < b) → a = b) := by
  obtain ⟨⟨m, e, -, hm⟩, g⟩ := h
  subst e g
  exact bt_all m (by omega)
section
variable {M : Gm} {b : Nat → Int32} {n p : Nat}
/-- the reader's own -/
def RdK (M : Gm) : Prop := M.2.1 66 0 = 65
theorem rd_O (h : Ky M) : isO M 66 6 = some () := i_O ((h.1 66 (by decide)).trans rfl)
theorem rd_I (h : Ky M) (k : Nat) : gfI M 66 6 k = some (M.1 66 k) := g_I k ((h.1 66 (by decide)).trans rfl)
theorem rd_P (h : Ky M) (k : Nat) (x : Int32) : pfI M 66 6 k x = some (sI M 66 k x) := p_I k x ((h.1 66 (by decide)).trans rfl)
theorem rd_R (h : Ky M) (r : RdK M) : gfR M 66 6 0 = some 65 := (g_R 0 ((h.1 66 (by decide)).trans rfl)).trans (congrArg some r)
theorem c_tokenAt (h : Ky M) (r : RdK M) (tx : Tx M b n) (hn : M.1 66 1 = Int32.ofNat n) {i : Nat} (hi : i ≤ 700) : sh_X6_tokenAt 66 (Int32.ofNat i) M = some (Int32.ofNat (ck b n i)) := by
  have hn7 := tx.1
  unfold sh_X6_tokenAt X6_tokenAt_F X6_tokenAt_J34 X6_tokenAt_J58 X6_tokenAt_J74 ck
  rw [rd_O h, bs, rd_I h, bs, hn]
  by_cases c : n ≤ i
  · rw [if_pos c, if_neg (by rw [lt_n (by omega) (by omega)]; omega)]; rfl
  · have hin : i < n := by omega
    obtain ⟨q1, q2, q3, q4, q5, q6⟩ := bt_eq (tx.2 i hin)
    rw [if_neg c, if_pos (by rw [lt_n (by omega) (by omega)]; omega)]
    simp only [bs, rd_R h r, ld65 h (show i < 700 by omega)]
    by_cases d1 : ¬ M.1 65 i < 97 ∧ ¬ 122 < M.1 65 i
    · rw [if_neg d1.1, if_neg d1.2, if_pos (q4.mp d1)]; rfl
    · have e1 : ∀ y z : Option Int32, (if M.1 65 i < 97 then y else if 122 < M.1 65 i then y else z) = y := fun y z => by
        by_cases u : M.1 65 i < 97
        · rw [if_pos u]
        · rw [if_neg u, if_pos (Classical.byContradiction fun w => d1 ⟨u, w⟩)]
      rw [e1, if_neg (fun q => d1 (q4.mpr q))]
      by_cases d2 : ¬ M.1 65 i < 48 ∧ ¬ 57 < M.1 65 i
      · rw [if_neg d2.1, if_neg d2.2, if_pos (q5.mp d2)]; rfl
      · have e2 : ∀ y z : Option Int32, (if M.1 65 i < 48 then y else if 57 < M.1 65 i then y else z) = y := fun y z => by
          by_cases u : M.1 65 i < 48
          · rw [if_pos u]
          · rw [if_neg u, if_pos (Classical.byContradiction fun w => d2 ⟨u, w⟩)]
        rw [e2, if_neg (fun q => d2 (q5.mpr q))]
        by_cases d3 : M.1 65 i = 59
        · rw [if_pos d3, if_pos (q3.mp d3)]; rfl
        · rw [if_neg d3, if_neg (fun q => d3 (q3.mpr q))]; rfl
/-- the class's reader: ahead of a TOKEN, at it, with a FAULT -/
def CB (M : Gm) (n e : Nat) : Prop := M.1 66 1 = Int32.ofNat n ∧ M.1 66 2 = Int32.ofNat e ∧ M.1 66 5 = 0 ∧ e ≤ n
def CA (M : Gm) (b : Nat → Int32) (n e : Nat) : Prop := CB M n (tE b n e) ∧ M.1 66 3 = Int32.ofNat (tK b n e) ∧ M.1 66 4 = Int32.ofNat (tB b n e) ∧ e ≤ n
theorem c_next (h : Ky M) (r : RdK M) (tx : Tx M b n) (cb : CB M n p) : ∃ M', sh_X6_nextToken 66 M = some M' ∧ Fm [66] M M' ∧ CA M' b n p := by
  obtain ⟨c1, c2, c3, c4⟩ := cb
  have hn7 := tx.1
  have w := ws_ok b c4
  -- the spaces
  have l1 : ∃ M1, lp (X6_nextToken_B8 66) FU M = some M1 ∧ (Fm [66] M M1 ∧ M1.1 66 2 = Int32.ofNat (tB b n p) ∧ ∀ k, k ≠ 2 → M1.1 66 k = M.1 66 k) := by
    refine lp_inv (fun j q => p + j ≤ tB b n p ∧ Fm [66] M q ∧ q.1 66 2 = Int32.ofNat (p + j) ∧ ∀ k, k ≠ 2 → q.1 66 k = M.1 66 k) _ (tB b n p - p) ?_ ?_ ⟨by have := tB_ok (b := b) c4; omega, Fm.rfl' _ _, c2, fun _ _ => rfl⟩ (by have := tB_ok (b := b) c4; omega)
    · rintro j Y hj ⟨g1, g2, g3, g4⟩
      have hY := h.fm g2
      have rY : RdK Y := by unfold RdK at *; rw [g2.1]; exact r
      have hb := tB_ok (b := b) c4
      have hw : isW (b (p + j)) := w.2.1 (p + j) (by omega) (by show p + j < tB b n p; omega)
      obtain ⟨q1, q2, -⟩ := bt_eq (tx.2 (p + j) (by omega))
      have e65 : Y.1 65 = M.1 65 := g2.2 65 (by decide)
      have st : X6_nextToken_J47 66 Y = some (.inl (sI Y 66 2 (Int32.ofNat (p + (j + 1))))) := by
        unfold X6_nextToken_J47
        rw [rd_I hY, bs, g3, pl1, rd_P hY, bs]
        rfl
      refine Or.inl ⟨sI Y 66 2 (Int32.ofNat (p + (j + 1))), ?_, by omega, g2.set (by decide) _ _, by rw [sI_own, ud_at], fun k hk => by rw [sI_own, ud_ne _ _ hk]; exact g4 k hk⟩
      unfold X6_nextToken_B8
      rw [rd_I hY, bs, rd_I hY, bs, g3, g4 1 (by decide), c1, if_neg (by rw [le_n (by omega) (by omega)]; omega)]
      simp only [bs, rd_R hY rY, rd_I hY, g3, ld65 hY (show p + j < 700 by omega), e65, st]
      rcases hw with u | u
      · rw [if_pos (q1.mpr u)]
      · rw [if_pos (q2.mpr u), ite_self]
    · rintro Y ⟨g1, g2, g3, g4⟩
      have hb := tB_ok (b := b) c4
      rw [show p + (tB b n p - p) = tB b n p by omega] at g3
      have hY := h.fm g2
      have rY : RdK Y := by unfold RdK at *; rw [g2.1]; exact r
      refine ⟨Y, ?_, g2, g3, g4⟩
      unfold X6_nextToken_B8
      rw [rd_I hY, bs, rd_I hY, bs, g3, g4 1 (by decide), c1]
      by_cases u : tB b n p = n
      · rw [if_pos (by rw [le_n (by omega) (by omega)]; omega)]
      · have nw : ¬ isW (b (tB b n p)) := (w.2.2).resolve_left u
        obtain ⟨q1, q2, -⟩ := bt_eq (tx.2 (tB b n p) (by omega))
        have e65 : Y.1 65 = M.1 65 := g2.2 65 (by decide)
        rw [if_neg (by rw [le_n (by omega) (by omega)]; omega)]
        simp only [bs, rd_R hY rY, rd_I hY, g3, ld65 hY (show tB b n p < 700 by omega), e65]
        rw [if_neg (fun q => nw (Or.inl (q1.mp q))), if_neg (fun q => nw (Or.inr (q2.mp q)))]
  obtain ⟨M1, a1, a2, a3, a4⟩ := l1
  have hb := tB_ok (b := b) c4
  have hM1 := h.fm a2
  have rM1 : RdK M1 := by unfold RdK at *; rw [a2.1]; exact r
  have txM : ∀ Y, Fm [66] M Y → Tx Y b n := fun Y f => ⟨tx.1, fun i hi => by rw [f.2 65 (by decide)]; exact tx.2 i hi⟩
  -- the kind
  have hM2 := hM1.sI 66 4 (Int32.ofNat (tB b n p))
  have f2 := a2.set (a := 66) (by decide) 4 (Int32.ofNat (tB b n p))
  have i22 : (sI M1 66 4 (Int32.ofNat (tB b n p))).1 66 2 = Int32.ofNat (tB b n p) := by rw [sI_own, ud_ne _ _ (by decide)]; exact a3
  have tk := c_tokenAt (i := tB b n p) hM2 rM1 (txM _ f2) (by rw [sI_own, ud_ne _ _ (by decide), a4 1 (by decide)]; exact c1) (by omega)
  rw [show ck b n (tB b n p) = tK b n p from rfl] at tk
  have f3 := f2.set (a := 66) (by decide) 3 (Int32.ofNat (tK b n p))
  have hM3 := hM2.sI 66 3 (Int32.ofNat (tK b n p))
  obtain ⟨X, x1, x2, x3, x4, x5, x6, x7⟩ : ∃ X, X = sI (sI M1 66 4 (Int32.ofNat (tB b n p))) 66 3 (Int32.ofNat (tK b n p)) ∧ Fm [66] M X ∧ X.1 66 1 = Int32.ofNat n ∧ X.1 66 2 = Int32.ofNat (tB b n p) ∧ X.1 66 3 = Int32.ofNat (tK b n p) ∧ X.1 66 4 = Int32.ofNat (tB b n p) ∧ X.1 66 5 = 0 := by
    refine ⟨_, rfl, f3, ?_, ?_, ?_, ?_, ?_⟩
    · rw [sI_own, ud_ne _ _ (by decide), sI_own, ud_ne _ _ (by decide), a4 1 (by decide)]; exact c1
    · rw [sI_own, ud_ne _ _ (by decide)]; exact i22
    · rw [sI_own, ud_at]
    · rw [sI_own, ud_ne _ _ (by decide), sI_own, ud_at]
    · rw [sI_own, ud_ne _ _ (by decide), sI_own, ud_ne _ _ (by decide), a4 5 (by decide)]; exact c3
  have hX := h.fm x2
  have rX : RdK X := by unfold RdK at *; rw [x2.1]; exact r
  have k4 := ck_4 b n (tB b n p)
  have eT := tE_ok (b := b) c4
  -- the end
  have fin : ∀ s0 : Int32, (s0 = bI (tK b n p = 1 ∨ tK b n p = 2)) → ∃ M', X6_nextToken_J101 66 s0 X = some M' ∧ Fm [66] M M' ∧ CA M' b n p := fun s0 hs => by
    have m1 : minI (Int32.ofNat (tB b n p + 1)) (Int32.ofNat n) = Int32.ofNat (min (tB b n p + 1) n) := min_n (by omega) (by omega)
    have hY := hX.sI 66 2 (Int32.ofNat (min (tB b n p + 1) n))
    obtain ⟨Y, y1, y2, y3, y4⟩ : ∃ Y, Y = sI X 66 2 (Int32.ofNat (min (tB b n p + 1) n)) ∧ Fm [66] M Y ∧ Y.1 66 2 = Int32.ofNat (min (tB b n p + 1) n) ∧ ∀ k, k ≠ 2 → Y.1 66 k = X.1 66 k := ⟨_, rfl, x2.set (by decide) _ _, by rw [sI_own, ud_at], fun k hk => by rw [sI_own, ud_ne _ _ hk]⟩
    have loop : ∃ Z, lp (X6_nextToken_B119 66 s0) FU Y = some Z ∧ (Fm [66] M Z ∧ Z.1 66 2 = Int32.ofNat (tE b n p) ∧ ∀ k, k ≠ 2 → Z.1 66 k = X.1 66 k) := by
      by_cases u : tK b n p = 1 ∨ tK b n p = 2
      · have k0 : tK b n p ≠ 0 := by omega
        have hlt : tB b n p < n := Nat.lt_of_not_le (fun q => k0 (ck_0.mpr q))
        have rn := rn_ok b (tK b n p) (p := tB b n p + 1) (n := n) (by omega)
        have eE : tE b n p = rnE b n (tK b n p) (tB b n p + 1) := by unfold tE; rw [if_neg k0, if_pos u]
        rw [← eE] at rn
        have s1 : ¬ s0 = 0 := by rw [hs, bI_t u]; decide
        refine lp_inv (fun j q => tB b n p + 1 + j ≤ tE b n p ∧ Fm [66] M q ∧ q.1 66 2 = Int32.ofNat (tB b n p + 1 + j) ∧ ∀ k, k ≠ 2 → q.1 66 k = X.1 66 k) _ (tE b n p - (tB b n p + 1)) ?_ ?_ ⟨by omega, y2, by rw [y3]; congr 1; omega, y4⟩ (by omega)
        · rintro j Z hj ⟨g1, g2, g3, g4⟩
          have hZ := h.fm g2
          have rZ : RdK Z := by unfold RdK at *; rw [g2.1]; exact r
          have tz := c_tokenAt (i := tB b n p + 1 + j) hZ rZ (txM Z g2) ((g4 1 (by decide)).trans x3) (by omega)
          have ek := rn.2.1 (tB b n p + 1 + j) (by omega) (by omega)
          rw [ek] at tz
          refine Or.inl ⟨sI Z 66 2 (Int32.ofNat (tB b n p + 1 + (j + 1))), ?_, by omega, g2.set (by decide) _ _, by rw [sI_own, ud_at], fun k hk => by rw [sI_own, ud_ne _ _ hk]; exact g4 k hk⟩
          unfold X6_nextToken_B119
          rw [if_neg s1, rd_I hZ, bs, rd_I hZ, bs, g3, g4 1 (by decide), x3, if_neg (by rw [le_n (by omega) (by omega)]; omega), bs, tz, bs, rd_I hZ, bs, g4 3 (by decide), x5, if_pos rfl, bs, pl1, rd_P hZ, bs]
          rfl
        · rintro Z ⟨g1, g2, g3, g4⟩
          have hZ := h.fm g2
          have rZ : RdK Z := by unfold RdK at *; rw [g2.1]; exact r
          rw [show tB b n p + 1 + (tE b n p - (tB b n p + 1)) = tE b n p by omega] at g3
          refine ⟨Z, ?_, g2, g3, g4⟩
          unfold X6_nextToken_B119
          rw [if_neg s1, rd_I hZ, bs, rd_I hZ, bs, g3, g4 1 (by decide), x3]
          by_cases v : tE b n p = n
          · rw [if_pos (by rw [le_n (by omega) (by omega)]; omega)]
          · have nk : ck b n (tE b n p) ≠ tK b n p := (rn.2.2).resolve_left v
            have tz := c_tokenAt (i := tE b n p) hZ rZ (txM Z g2) ((g4 1 (by decide)).trans x3) (by omega)
            have k4' := ck_4 b n (tE b n p)
            have k4'' : tK b n p ≤ 4 := k4
            rw [if_neg (by rw [le_n (by omega) (by omega)]; omega), bs, tz, bs, rd_I hZ, bs, g4 3 (by decide), x5, if_neg (by rw [eq_n (by omega) (by omega)]; exact nk)]
      · have s1 : s0 = 0 := by rw [hs, bI_f u]
        refine ⟨Y, ?_, y2, ?_, y4⟩
        · have : X6_nextToken_B119 66 s0 Y = some (.inr Y) := by unfold X6_nextToken_B119; rw [if_pos s1]
          exact lp_for (fun _ => Y) Y 0 (fun j hj => absurd hj (Nat.not_lt_zero _)) this (by omega)
        · rw [y3]
          congr 1
          unfold tE
          by_cases v : tK b n p = 0
          · have : n ≤ tB b n p := ck_0.mp v
            rw [if_pos v]; omega
          · have : ¬ n ≤ tB b n p := fun q => v (ck_0.mpr q)
            rw [if_neg v, if_neg u]; omega
    obtain ⟨Z, z1, z2, z3, z4⟩ := loop
    refine ⟨Z, ?_, z2, ⟨⟨(z4 1 (by decide)).trans x3, z3, (z4 5 (by decide)).trans x7, eT.2.1⟩, (z4 3 (by decide)).trans x5, (z4 4 (by decide)).trans x6, c4⟩⟩
    unfold X6_nextToken_J101 X6_nextToken_J162
    rw [rd_I hX, bs, rd_I hX, bs, x4, x3, pl1, m_min, bs, m1, rd_P hX, bs, ← y1, z1, bs]
  have k4'' : tK b n p ≤ 4 := k4
  have run0 : sh_X6_nextToken 66 M = if Int32.ofNat (tK b n p) = 1 then X6_nextToken_J96 66 X else if Int32.ofNat (tK b n p) = 2 then X6_nextToken_J96 66 X else X6_nextToken_J101 66 0 X := by
    unfold sh_X6_nextToken X6_nextToken_F X6_nextToken_J60
    rw [rd_O h, bs, rd_I h, bs, c3, if_pos rfl, a1, bs, rd_I hM1, bs, a3, rd_P hM1, bs, rd_I hM2, bs, i22, tk, bs, rd_P hM2, bs]
    simp only [← x1, rd_I hX, bs, x5]
  have e1 : (Int32.ofNat (tK b n p) = 1) ↔ tK b n p = 1 := by rw [show (1 : Int32) = Int32.ofNat 1 from rfl, eq_n (by omega) (by omega)]
  have e2 : (Int32.ofNat (tK b n p) = 2) ↔ tK b n p = 2 := by rw [show (2 : Int32) = Int32.ofNat 2 from rfl, eq_n (by omega) (by omega)]
  rw [run0]
  by_cases u1 : tK b n p = 1
  · rw [if_pos (e1.mpr u1)]
    exact fin 1 (bI_t (Or.inl u1)).symm
  · rw [if_neg (fun q => u1 (e1.mp q))]
    by_cases u2 : tK b n p = 2
    · rw [if_pos (e2.mpr u2)]
      exact fin 1 (bI_t (Or.inr u2)).symm
    · rw [if_neg (fun q => u2 (e2.mp q))]
      exact fin 0 (bI_f (by omega)).symm
end
