/-! ===== PURE 10: the class's filters ===== -/
def cLt (r : Nat → Int32) (v : Int32) : Nat → Nat
  | 0 => 0
  | j + 1 => cLt r v j + (if r j < v then 1 else 0)
def cEq (r : Nat → Int32) (v : Int32) : Nat → Nat
  | 0 => 0
  | j + 1 => cEq r v j + (if r j = v then 1 else 0)
theorem less_c (r : Nat → Int32) (i : Nat) : ∀ j, lessR r i j = cLt r (r i) j + cEq r (r i) (min i j) := by
  intro j
  induction j with
  | zero => simp [lessR, cLt, cEq]
  | succ j ih =>
    have h1 : lessR r i (j + 1) = lessR r i j + (if r j < r i ∨ (r j = r i ∧ j < i) then 1 else 0) := rfl
    have h2 : cLt r (r i) (j + 1) = cLt r (r i) j + (if r j < r i then 1 else 0) := rfl
    have hx : r j < r i → r j ≠ r i := fun a b => by rw [b] at a; exact absurd a (Int32.lt_irrefl)
    rw [h1, h2, ih]
    by_cases c : j < i
    · have h3 : min i (j + 1) = min i j + 1 := by omega
      have h4 : min i j = j := by omega
      rw [h3]
      have h5 : cEq r (r i) (min i j + 1) = cEq r (r i) (min i j) + (if r (min i j) = r i then 1 else 0) := rfl
      rw [h5, h4]
      by_cases d : r j < r i
      · simp [d, hx d]; omega
      · by_cases e : r j = r i
        · simp [e, c, Int32.lt_irrefl]; omega
        · simp [d, e]
    · have h3 : min i (j + 1) = min i j := by omega
      rw [h3]
      by_cases d : r j < r i
      · simp [d]; omega
      · simp [d, c]
theorem cEq_ivt (r : Nat → Int32) (x : Int32) (m : Nat) : ∀ n, m < cEq r x n → ∃ i, i < n ∧ r i = x ∧ cEq r x i = m := by
  intro n
  induction n with
  | zero => intro h; exact absurd h (Nat.not_lt_zero m)
  | succ n ih =>
    intro h
    have h1 : cEq r x (n + 1) = cEq r x n + (if r n = x then 1 else 0) := rfl
    rw [h1] at h
    by_cases c : m < cEq r x n
    · obtain ⟨i, a, b⟩ := ih c
      exact ⟨i, by omega, b⟩
    · by_cases e : r n = x
      · rw [if_pos e] at h
        exact ⟨n, by omega, e, by omega⟩
      · rw [if_neg e] at h
        omega
theorem cEq_mono (r : Nat → Int32) (x : Int32) {i n : Nat} (h : i < n) (e : r i = x) : cEq r x i < cEq r x n := by
  induction n with
  | zero => omega
  | succ n ih =>
    have h1 : cEq r x (n + 1) = cEq r x n + (if r n = x then 1 else 0) := rfl
    rw [h1]
    by_cases c : i = n
    · subst c; rw [if_pos e]; omega
    · have := ih (by omega); omega
theorem cLt_le (r : Nat → Int32) {x y : Int32} (h : x < y) : ∀ n, cLt r x n + cEq r x n ≤ cLt r y n := by
  intro n
  induction n with
  | zero => exact Nat.le_refl _
  | succ n ih =>
    show cLt r x n + (if r n < x then 1 else 0) + (cEq r x n + (if r n = x then 1 else 0)) ≤ cLt r y n + (if r n < y then 1 else 0)
    by_cases a : r n < x
    · have b : r n < y := by rw [tI_lt] at *; omega
      have c : ¬ r n = x := fun e => by rw [e] at a; exact Int32.lt_irrefl a
      rw [if_pos a, if_pos b, if_neg c]; omega
    · rw [if_neg a]
      by_cases c : r n = x
      · rw [if_pos c, if_pos (by rw [c]; exact h)]; omega
      · rw [if_neg c]; split <;> omega
theorem rank_val {r : Nat → Int32} {n i k : Nat} {x : Int32} (hi : i < n) (hr : lessR r i n = k) (h1 : cLt r x n ≤ k) (h2 : k < cLt r x n + cEq r x n) : r i = x := by
  have a := less_c r i n
  rw [Nat.min_eq_left (by omega), hr] at a
  have b := cEq_mono r (r i) hi rfl
  rcases Int.lt_trichotomy (r i).toInt x.toInt with c | c | c
  · have := cLt_le r (x := r i) (y := x) (by rw [tI_lt]; exact c) n; omega
  · exact tI_eq c
  · have := cLt_le r (x := x) (y := r i) (by rw [tI_lt]; exact c) n; omega
theorem rank_ex {r : Nat → Int32} {n k : Nat} {x : Int32} (h1 : cLt r x n ≤ k) (h2 : k < cLt r x n + cEq r x n) : ∃ i, i < n ∧ lessR r i n = k := by
  obtain ⟨i, a, b, c⟩ := cEq_ivt r x (k - cLt r x n) n (by omega)
  refine ⟨i, a, ?_⟩
  rw [less_c, Nat.min_eq_left (by omega), b, c]; omega
theorem med_scan {r : Nat → Int32} {n : Nat} {x : Int32} (h1 : cLt r x n ≤ (n - 1) / 2) (h2 : (n - 1) / 2 < cLt r x n + cEq r x n) : ∀ f i, i + f = n → (∃ i0, i ≤ i0 ∧ i0 < n ∧ lessR r i0 n = (n - 1) / 2) → medR r n f i = x := by
  intro f
  induction f with
  | zero => rintro i hf ⟨i0, a, b, -⟩; omega
  | succ f ih =>
    rintro i hf ⟨i0, a, b, c⟩
    show (if lessR r i n = (n - 1) / 2 then r i else medR r n f (i + 1)) = x
    by_cases e : lessR r i n = (n - 1) / 2
    · rw [if_pos e]; exact rank_val (by omega) e h1 h2
    · rw [if_neg e]
      refine ih (i + 1) (by omega) ⟨i0, ?_, b, c⟩
      by_cases q : i = i0
      · subst q; exact absurd c e
      · omega
/-! insertion -/
def insR (s : Nat → Int32) (p : Nat) (x : Int32) : Nat → Int32 := fun j => if j < p then s j else if j = p then x else s (j - 1)
theorem cLt_congr {r s : Nat → Int32} (v : Int32) : ∀ n, (∀ j, j < n → r j = s j) → cLt r v n = cLt s v n := by
  intro n
  induction n with
  | zero => intro _; rfl
  | succ n ih =>
    intro h
    show cLt r v n + _ = cLt s v n + _
    rw [ih (fun j hj => h j (by omega)), h n (by omega)]
theorem cEq_congr {r s : Nat → Int32} (v : Int32) : ∀ n, (∀ j, j < n → r j = s j) → cEq r v n = cEq s v n := by
  intro n
  induction n with
  | zero => intro _; rfl
  | succ n ih =>
    intro h
    show cEq r v n + _ = cEq s v n + _
    rw [ih (fun j hj => h j (by omega)), h n (by omega)]
theorem cLt_ins (s : Nat → Int32) (p : Nat) (x v : Int32) : ∀ j, p ≤ j → cLt (insR s p x) v (j + 1) = cLt s v j + (if x < v then 1 else 0) := by
  intro j
  induction j with
  | zero =>
    intro h
    have : p = 0 := by omega
    subst this
    rfl
  | succ j ih =>
    intro h
    show cLt (insR s p x) v (j + 1) + (if insR s p x (j + 1) < v then 1 else 0) = (cLt s v j + (if s j < v then 1 else 0)) + _
    by_cases e : p = j + 1
    · subst e
      rw [show insR s (j + 1) x (j + 1) = x by unfold insR; rw [if_neg (by omega), if_pos rfl], cLt_congr (s := s) v (j + 1) (fun i hi => by unfold insR; rw [if_pos hi])]
      rfl
    · rw [ih (by omega), show insR s p x (j + 1) = s j by unfold insR; rw [if_neg (by omega), if_neg (by omega)]; rfl]
      omega
theorem cEq_ins (s : Nat → Int32) (p : Nat) (x v : Int32) : ∀ j, p ≤ j → cEq (insR s p x) v (j + 1) = cEq s v j + (if x = v then 1 else 0) := by
  intro j
  induction j with
  | zero =>
    intro h
    have : p = 0 := by omega
    subst this
    rfl
  | succ j ih =>
    intro h
    show cEq (insR s p x) v (j + 1) + (if insR s p x (j + 1) = v then 1 else 0) = (cEq s v j + (if s j = v then 1 else 0)) + _
    by_cases e : p = j + 1
    · subst e
      rw [show insR s (j + 1) x (j + 1) = x by unfold insR; rw [if_neg (by omega), if_pos rfl], cEq_congr (s := s) v (j + 1) (fun i hi => by unfold insR; rw [if_pos hi])]
      rfl
    · rw [ih (by omega), show insR s p x (j + 1) = s j by unfold insR; rw [if_neg (by omega), if_neg (by omega)]; rfl]
      omega
/-- the first n stand in order -/
def srtd (s : Nat → Int32) (n : Nat) : Prop := ∀ a b, a < b → b < n → (s a).toInt ≤ (s b).toInt
theorem srtd_ins {s : Nat → Int32} {i p : Nat} {x : Int32} (h : srtd s i) (hp : p ≤ i) (h1 : ∀ j, j < p → (s j).toInt ≤ x.toInt) (h2 : ∀ j, p ≤ j → j < i → x.toInt < (s j).toInt) : srtd (insR s p x) (i + 1) := by
  intro a b hab hb
  unfold insR
  by_cases c1 : a < p
  · rw [if_pos c1]
    by_cases c2 : b < p
    · rw [if_pos c2]; exact h a b hab (by omega)
    · rw [if_neg c2]
      by_cases c3 : b = p
      · rw [if_pos c3]; exact h1 a c1
      · rw [if_neg c3]
        by_cases c4 : a = b - 1
        · rw [← c4]; exact Int.le_refl _
        · exact h a (b - 1) (by omega) (by omega)
  · rw [if_neg c1, if_neg (show ¬ b < p by omega), if_neg (show ¬ b = p by omega)]
    by_cases c3 : a = p
    · rw [if_pos c3]; have := h2 (b - 1) (by omega) (by omega); omega
    · rw [if_neg c3]; exact h (a - 1) (b - 1) (by omega) (by omega)
theorem srtd_cnt {s : Nat → Int32} {n k : Nat} (h : srtd s n) (hk : k < n) : cLt s (s k) n ≤ k ∧ k < cLt s (s k) n + cEq s (s k) n := by
  have a : ∀ m, m ≤ n → cLt s (s k) m ≤ k := by
    intro m
    induction m with
    | zero => intro _; exact Nat.zero_le _
    | succ m ih =>
      intro hm
      have b := ih (by omega)
      show cLt s (s k) m + (if s m < s k then 1 else 0) ≤ k
      by_cases c : s m < s k
      · rw [if_pos c]
        have d : m < k := by
          rcases Nat.lt_trichotomy m k with q | q | q
          · exact q
          · subst q; exact absurd c (Int32.lt_irrefl)
          · have := h k m q (by omega); rw [tI_lt] at c; omega
        have e : ∀ j, cLt s (s k) j ≤ j := by
          intro j
          induction j with
          | zero => exact Nat.le_refl _
          | succ j ihj => show cLt s (s k) j + _ ≤ j + 1; split <;> omega
        have := e m
        omega
      · rw [if_neg c]; omega
  have b : ∀ m, m ≤ n → min m (k + 1) ≤ cLt s (s k) m + cEq s (s k) m := by
    intro m
    induction m with
    | zero => intro _; omega
    | succ m ih =>
      intro hm
      have c := ih (by omega)
      show min (m + 1) (k + 1) ≤ cLt s (s k) m + (if s m < s k then 1 else 0) + (cEq s (s k) m + (if s m = s k then 1 else 0))
      by_cases d : m ≤ k
      · have e : s m < s k ∨ s m = s k := by
          by_cases q : m = k
          · subst q; exact Or.inr rfl
          · have := h m k (by omega) hk
            by_cases q2 : (s m).toInt = (s k).toInt
            · exact Or.inr (tI_eq q2)
            · left; rw [tI_lt]; omega
        rcases e with e | e
        · rw [if_pos e]; split <;> omega
        · rw [if_pos e]; split <;> omega
      · omega
  have := b n (Nat.le_refl _)
  exact ⟨a n (Nat.le_refl _), by omega⟩
theorem ml4 (j : Nat) : Int32.ofNat j * 4 = Int32.ofNat (4 * j) := by rw [Nat.mul_comm]; exact (Int32.ofNat_mul j 4).symm
section Filt
variable {M : Gm} {S P : Nat}
/-- one reading is put in its place -/
theorem c_insert (hM : Ky M) (hC : CkK M) {i : Nat} (hi : i < 4) (a b c e : Int32) (x : Int32) (hs : srtd (M.1 301) i) : ∃ r, lp (X1_medianOfReadings_B26 299 S a b c x) FU (Int32.ofNat i, M) = some r ∧ ∃ p, p ≤ i ∧ r.1 = Int32.ofNat p ∧ Fm [301] M r.2 ∧
    (∀ j, j < p → r.2.1 301 j = M.1 301 j) ∧ (∀ j, p < j → j ≤ i → r.2.1 301 j = M.1 301 (j - 1)) ∧ (∀ j, j < p → (M.1 301 j).toInt ≤ x.toInt) ∧ (∀ j, p ≤ j → j < i → x.toInt < (M.1 301 j).toInt) := by
  refine lp_inv (fun m q => q.1 = Int32.ofNat (i - m) ∧ m ≤ i ∧ Fm [301] M q.2 ∧ (∀ j, j < i - m → q.2.1 301 j = M.1 301 j) ∧ (∀ j, i - m < j → j ≤ i → q.2.1 301 j = M.1 301 (j - 1)) ∧ (∀ j, i - m ≤ j → j < i → x.toInt < (M.1 301 j).toInt)) _ i ?_ ?_ ⟨rfl, Nat.zero_le _, Fm.rfl' _ _, fun _ _ => rfl, fun j h1 h2 => by omega, fun j h1 h2 => by omega⟩ (by omega)
  · rintro m ⟨q1, M1⟩ hm ⟨h1, h2, h3, h4, h5, h6⟩
    replace h1 : q1 = Int32.ofNat (i - m) := h1
    subst h1
    have hM1 := hM.fm h3
    have hC1 := hC.fm h3
    obtain ⟨p, hp⟩ : ∃ p, i - m = p + 1 := ⟨i - m - 1, by omega⟩
    rw [hp] at h4 h5 h6 ⊢
    have e1 : Int32.ofNat (p + 1) - 1 = Int32.ofNat p := by rw [Int32.ofNat_add]; exact Int32.add_sub_cancel _ _
    have e2 : Int32.ofNat (p + 1) + (-1) = Int32.ofNat p := by rw [← e1]; rw [Int32.sub_eq_add_neg]
    have h4p : M1.1 301 p = M.1 301 p := h4 p (by omega)
    have hB : X1_medianOfReadings_B26 299 S a b c x (Int32.ofNat (p + 1), M1) = if M.1 301 p ≤ x then some (.inr (Int32.ofNat (p + 1), M1)) else some (.inl (Int32.ofNat p, sI M1 301 (p + 1) (M.1 301 p))) := by
      unfold X1_medianOfReadings_B26
      rw [if_neg (by rw [n_le0 (by omega)]; omega)]
      simp (disch := omega) only [k_sorted hM1 hC1, e1, e2, ld301 hM1, h4p, Option.bind_some, st301 hM1]
    rw [hB]
    by_cases q : M.1 301 p ≤ x
    · rw [if_pos q]
      refine Or.inr ⟨_, rfl, p + 1, by omega, rfl, h3, h4, h5, fun j hj => ?_, h6⟩
      rw [tI_le] at q
      by_cases e : j = p
      · subst e; exact q
      · have := hs j p (by omega) (by omega); omega
    · rw [if_neg q]
      have hq : i - (m + 1) = p := by omega
      refine Or.inl ⟨_, rfl, by show Int32.ofNat p = _; rw [hq], by omega, h3.set (by simp) _ _, fun j hj => ?_, fun j j1 j2 => ?_, fun j j1 j2 => ?_⟩
      · show (sI M1 301 (p + 1) _).1 301 j = _
        rw [sI_own, ud_ne _ _ (by omega)]; exact h4 j (by omega)
      · show (sI M1 301 (p + 1) _).1 301 j = _
        rw [sI_own]
        by_cases e : j = p + 1
        · subst e; rw [ud_at]; rfl
        · rw [ud_ne _ _ e]; exact h5 j (by omega) j2
      · by_cases e : j = p
        · subst e; rw [tI_le] at q; omega
        · exact h6 j (by omega) j2
  · rintro ⟨q1, M1⟩ ⟨h1, h2, h3, h4, h5, h6⟩
    rw [Nat.sub_self] at h4 h5 h6
    replace h1 : q1 = Int32.ofNat (i - i) := h1
    rw [Nat.sub_self] at h1
    subst h1
    exact ⟨_, by unfold X1_medianOfReadings_B26; exact if_pos (show Int32.ofNat 0 ≤ 0 by decide), 0, Nat.zero_le _, rfl, h3, h4, h5, fun j hj => by omega, h6⟩
theorem c_median (hM : Ky M) (hC : CkK M) (hS : StK M S P) (so : SOk S) {z n : Nat} (hz : z < 5) (h1 : 1 ≤ n) (hn : n ≤ 4) {r : Nat → Int32} (hr : ∀ i, i < 4 → M.1 (S + 7) (4 * z + i) = r i) : ∃ M', sh_X1_medianOfReadings 299 S (Int32.ofNat z) (Int32.ofNat n) M = some (medR r n n 0, M') ∧ Fm [301] M M' := by
  have key : ∃ M', lp (X1_medianOfReadings_B3 299 S (Int32.ofNat z) (Int32.ofNat n)) FU (0, M) = some M' ∧ (Fm [301] M M' ∧ srtd (M'.1 301) n ∧ ∀ v, cLt (M'.1 301) v n = cLt r v n ∧ cEq (M'.1 301) v n = cEq r v n) := by
    refine lp_inv (fun j q => q.1 = Int32.ofNat j ∧ Fm [301] M q.2 ∧ srtd (q.2.1 301) j ∧ ∀ v, cLt (q.2.1 301) v j = cLt r v j ∧ cEq (q.2.1 301) v j = cEq r v j) _ n ?_ ?_ ⟨rfl, Fm.rfl' _ _, fun a b _ hb => absurd hb (Nat.not_lt_zero b), fun v => ⟨rfl, rfl⟩⟩ (by omega)
    · rintro j ⟨i, M1⟩ hj ⟨h1, h2, h3, h4⟩
      replace h1 : i = Int32.ofNat j := h1
      subst h1
      have hM1 := hM.fm h2
      have hC1 := hC.fm h2
      have hS1 := hS.fm h2
      unfold SOk at so
      have ne : ∀ a, a ≠ 301 → M1.1 a = M.1 a := fun a ha => h2.2 a (by simp [ha])
      have hrj := hr j (by omega)
      obtain ⟨q, k1, p, k2, k3, k4, k5, k6, k7, k8⟩ := c_insert (S := S) hM1 hC1 (i := j) (by omega) (Int32.ofNat z) (Int32.ofNat n) (Int32.ofNat j) 0 (r j) h3
      obtain ⟨q1, M2⟩ := q
      replace k3 : q1 = Int32.ofNat p := k3
      subst k3
      have hM2 := hM1.fm k4
      have hC2 := hC1.fm k4
      have hrow : ∀ i, i < j + 1 → (sI M2 301 p (r j)).1 301 i = insR (M1.1 301) p (r j) i := fun i hi => by
        rw [sI_own]
        unfold insR
        by_cases c1 : i < p
        · rw [ud_ne _ _ (by omega), if_pos c1]; exact k5 i c1
        · rw [if_neg c1]
          by_cases c2 : i = p
          · subst c2; rw [ud_at, if_pos rfl]
          · rw [ud_ne _ _ c2, if_neg c2]; exact k6 i (by omega) (by omega)
      refine Or.inl ⟨(Int32.ofNat (j + 1), sI M2 301 p (r j)), ?_, rfl, (h2.trans k4 (L2 := [301]) (fun _ q => q) (fun _ q => q)).set (by simp) _ _, ?_, fun v => ?_⟩
      · unfold X1_medianOfReadings_B3 X1_medianOfReadings_J67
        simp (disch := omega) only [le_n, s_readings hS1, ml4, ad_n, sl7 hS1, ne, hrj, Option.bind_some, k1, k_sorted hM2 hC2, st301 hM2, suc_n]
        rw [if_neg (by omega)]
      · have := srtd_ins (x := r j) h3 k2 k7 k8
        intro a b hab hb
        show ((sI M2 301 p (r j)).1 301 a).toInt ≤ ((sI M2 301 p (r j)).1 301 b).toInt
        rw [hrow a (by omega), hrow b hb]
        exact this a b hab hb
      · show cLt ((sI M2 301 p (r j)).1 301) v (j + 1) = cLt r v j + _ ∧ cEq ((sI M2 301 p (r j)).1 301) v (j + 1) = cEq r v j + _
        rw [cLt_congr v (j + 1) hrow, cEq_congr v (j + 1) hrow, cLt_ins _ _ _ _ j k2, cEq_ins _ _ _ _ j k2, (h4 v).1, (h4 v).2]
        exact ⟨rfl, rfl⟩
    · rintro ⟨i, M1⟩ ⟨h1, h2, h3, h4⟩
      replace h1 : i = Int32.ofNat n := h1
      subst h1
      refine ⟨M1, ?_, h2, h3, h4⟩
      unfold X1_medianOfReadings_B3
      simp (disch := omega) only [le_n]
      rw [if_pos (Nat.le_refl _)]
  obtain ⟨M1, k1, k2, k3, k4⟩ := key
  have hM1 := hM.fm k2
  have hC1 := hC.fm k2
  refine ⟨M1, ?_, k2⟩
  have hmid : (dvI (maxI 0 (Int32.ofNat n - 1)) 2) = some (Int32.ofNat ((n - 1) / 2)) := by
    match n, h1, hn with
    | 1, _, _ => rfl
    | 2, _, _ => rfl
    | 3, _, _ => rfl
    | 4, _, _ => rfl
  have hk : (n - 1) / 2 < n := by omega
  have hc := srtd_cnt k3 hk
  rw [(k4 _).1, (k4 _).2] at hc
  obtain ⟨i0, a1, a2⟩ := rank_ex hc.1 hc.2
  have hval := med_scan hc.1 hc.2 n 0 (by omega) ⟨i0, Nat.zero_le _, a1, a2⟩
  unfold sh_X1_medianOfReadings X1_medianOfReadings_F
  simp (disch := omega) only [k_O hM, bs, k1, k_sorted hM1 hC1, m_max, hmid, ld301 hM1, hval]
end Filt

