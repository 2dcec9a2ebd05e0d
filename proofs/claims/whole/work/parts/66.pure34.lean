/-! ===== PURE 34: AGAIN ===== -/
noncomputable def bI (p : Prop) : Int32 := haveI := Classical.propDecidable p; if p then 1 else 0
theorem bI_t {p : Prop} (h : p) : bI p = 1 := by unfold bI; exact if_pos h
theorem bI_f {p : Prop} (h : ¬ p) : bI p = 0 := by unfold bI; exact if_neg h
theorem bI_0 {p : Prop} : bI p = 0 ↔ ¬ p := by
  by_cases h : p
  · rw [bI_t h]; exact ⟨fun q => absurd q (by decide), fun q => absurd h q⟩
  · rw [bI_f h]; exact ⟨fun _ => h, fun _ => rfl⟩
theorem bI_01 (p : Prop) : bI p = 0 ∨ bI p = 1 := by
  by_cases h : p
  · exact Or.inr (bI_t h)
  · exact Or.inl (bI_f h)
theorem bI_c {p q : Prop} (h : p ↔ q) : bI p = bI q := by rw [show p = q from propext h]
theorem zck_b (p : Prop) : zck (bI p) = some (bI p) := if_pos (bI_01 p)
theorem c_same {M : Gm} {a b n m : Nat} (ha : kd M a = (32, m)) (hb : kd M b = (32, m)) (hn : n ≤ m) (hm : m < 1000) : sh_X7_sameRows a b (Int32.ofNat n) M = some (bI (∀ i, i < n → M.1 a i = M.1 b i)) := by
  have key : ∃ r, lp (X7_sameRows_B2 a b (Int32.ofNat n) M) FU 0 = some r ∧ Sum.elim (fun _ => (zck 1).bind fun z4 => some z4) (fun _ => (zck 0).bind fun z7 => some z7) r = some (bI (∀ i, i < n → M.1 a i = M.1 b i)) := by
    refine lp_inv (fun j q => q = Int32.ofNat j ∧ ∀ i, i < j → M.1 a i = M.1 b i) _ n ?_ ?_ ⟨rfl, fun i h => by omega⟩ (by omega)
    · rintro j q hj ⟨h1, h2⟩
      subst h1
      have e : X7_sameRows_B2 a b (Int32.ofNat n) M (Int32.ofNat j) = if M.1 a j = M.1 b j then some (.inl (Int32.ofNat (j + 1))) else some (.inr (.inr ())) := by
        unfold X7_sameRows_B2
        simp (disch := omega) only [le_n, l_A (t := 0) ha (show j < m by omega) (by omega), l_A (t := 0) hb (show j < m by omega) (by omega), Option.bind_some, suc_n]
        rw [if_neg (by omega)]
      by_cases c : M.1 a j = M.1 b j
      · refine Or.inl ⟨_, e.trans (if_pos c), rfl, fun i hi => ?_⟩
        by_cases ei : i = j
        · rw [ei]; exact c
        · exact h2 i (by omega)
      · exact Or.inr ⟨_, e.trans (if_neg c), by rw [bI_f (fun q => c (q j hj))]; rfl⟩
    · rintro q ⟨h1, h2⟩
      subst h1
      refine ⟨.inl (), ?_, by rw [bI_t h2]; rfl⟩
      unfold X7_sameRows_B2
      simp (disch := omega) only [le_n]
      rw [if_pos (Nat.le_refl _)]
  obtain ⟨r, k1, k2⟩ := key
  unfold sh_X7_sameRows X7_sameRows_F
  rw [k1]
  exact k2
def win (T : Nat → Int32) (z : Nat) : Nat := if T (5 + z) = 1 ∨ T (5 + z) = 2 then (T (10 + z)).toNatClampNeg else 1
theorem win_ok {T : Nat → Int32} (hT : TOk T) {z : Nat} (hz : z < tz T) : 1 ≤ win T z ∧ win T z ≤ 4 := by
  unfold win
  have := isN_nn (hT.2.1 z hz).2.2.1 (by omega)
  split <;> omega
theorem c_window {M : Gm} {P : Nat} {T : Nat → Int32} (w : Wd M P T) {z : Nat} (hz : z < tz T) : sh_X10_window (P + 6 + z) M = some (Int32.ofNat (win T z)) := by
  obtain ⟨hM, hC, hF, hP, po, hT, pv⟩ := w
  have h5 := hT.z.2
  have o : isO M (P + 6 + z) 10 = some () := i_O (hP.2.2.2.1 z (by omega)).2
  have e2 := (pv.2.1 z hz).1
  have e3 := (pv.2.1 z hz).2
  have hd := (isN_nn (hT.2.1 z hz).2.2.1 (by omega)).1
  unfold sh_X10_window X10_window_F X10_window_J16 X10_window_J24 win
  simp (disch := omega) only [o, pz_I hP, Option.bind_some, e2, e3]
  by_cases c1 : T (5 + z) = 1
  · rw [if_pos c1, if_pos (Or.inl c1), ← hd]
  · rw [if_neg c1]
    by_cases c2 : T (5 + z) = 2
    · rw [if_pos c2, if_pos (Or.inr c2), ← hd]
    · rw [if_neg c2, if_neg (by rintro (q | q); exact c1 q; exact c2 q)]; rfl
/-- all is as AGAIN asks for -/
def lkZ (T N R : Nat → Int32) (z : Nat) : Prop := sb R z = sb N z ∧ ∀ i, i < win T z → R (30 + 4 * z + i) = N (30 + 4 * z + i)
def lk (T N R : Nat → Int32) : Prop := (((∀ z, z < tz T → R z = N z) ∧ (∀ z, z < tz T → R (20 + z) = N (20 + z)) ∧ ∀ z, z < tz T → lkZ T N R z) ∧ (∀ t, t < tt T → R (50 + t) = N (50 + t)) ∧ (∀ d, d < td T → R (70 + d) = N (70 + d)) ∧ ∀ t i, t < tt T → i < (dl T t).length → R (82 + 6 * t + di T t i) = N (82 + 6 * t + di T t i))
theorem fb_find (T : Nat → Int32) : ∀ n b, b < fb T n → ∃ t i, t < n ∧ i < (dl T t).length ∧ b = fb T t + i := by
  intro n
  induction n with
  | zero => intro b h; exact absurd h (Nat.not_lt_zero _)
  | succ n ih =>
    intro b h
    by_cases c : b < fb T n
    · obtain ⟨t, i, a, d, e⟩ := ih b c
      exact ⟨t, i, by omega, d, e⟩
    · have : fb T (n + 1) = fb T n + (dl T n).length := rfl
      exact ⟨n, b - fb T n, by omega, by omega, by omega⟩
section
variable {M : Gm} {P k k' : Nat} {N R T : Nat → Int32}
theorem c_readLike (w : Wd M P T) (s : Sd M 263 P N T k) (r : Sd M 304 P R T k') {z : Nat} (hz : z < tz T) : sh_X7_readingsLike 304 263 (Int32.ofNat z) M = some (bI (∀ i, i < win T z → R (30 + 4 * z + i) = N (30 + 4 * z + i))) := by
  have hT := w.2.2.2.2.2.1
  have h5 := hT.z.2
  have hw := win_ok hT hz
  have key : ∃ q, lp (X7_readingsLike_B7 304 263 (Int32.ofNat z) (Int32.ofNat (4 * z)) M) FU (Int32.ofNat (4 * z)) = some q ∧ Sum.elim (fun _ => (zck 1).bind fun z4 => some z4) (fun _ => (zck 0).bind fun z7 => some z7) q = some (bI (∀ i, i < win T z → R (30 + 4 * z + i) = N (30 + 4 * z + i))) := by
    have pl : gfR M P 5 0 = some (P + 1) := p_zones w.2.2.2.1
    refine lp_inv (fun j q => q = Int32.ofNat (4 * z + j) ∧ ∀ i, i < j → R (30 + 4 * z + i) = N (30 + 4 * z + i)) _ (win T z) ?_ ?_ ⟨rfl, fun i h => by omega⟩ (by omega)
    · rintro j q hj ⟨h1, h2⟩
      subst h1
      have e : X7_readingsLike_B7 304 263 (Int32.ofNat z) (Int32.ofNat (4 * z)) M (Int32.ofNat (4 * z + j)) = if R (30 + 4 * z + j) = N (30 + 4 * z + j) then some (.inl (Int32.ofNat (4 * z + (j + 1)))) else some (.inr (.inr ())) := by
        unfold X7_readingsLike_B7
        simp (disch := omega) only [s_plan r.1, pl, p_zone w.2.2.2.1, c_window w hz, ad_n, le_n, s_readings r.1, s_readings s.1, sl7 r.1, sl7 s.1, Option.bind_some, suc_n]
        rw [if_neg (by omega), r.2.2.1.2.2.1 z j hz (by omega), s.2.2.1.2.2.1 z j hz (by omega)]
        rfl
      by_cases c : R (30 + 4 * z + j) = N (30 + 4 * z + j)
      · refine Or.inl ⟨_, e.trans (if_pos c), rfl, fun i hi => ?_⟩
        by_cases ei : i = j
        · rw [ei]; exact c
        · exact h2 i (by omega)
      · exact Or.inr ⟨_, e.trans (if_neg c), by rw [bI_f (fun q => c (q j hj))]; rfl⟩
    · rintro q ⟨h1, h2⟩
      subst h1
      refine ⟨.inl (), ?_, by rw [bI_t h2]; rfl⟩
      unfold X7_readingsLike_B7
      simp (disch := omega) only [s_plan r.1, pl, p_zone w.2.2.2.1, c_window w hz, ad_n, le_n, Option.bind_some]
      rw [if_pos (Nat.le_refl _)]
  obtain ⟨q, k1, k2⟩ := key
  unfold sh_X7_readingsLike X7_readingsLike_F
  rw [s_O r.1, ml4]
  simp only [Option.bind_some, k1]
  exact k2
theorem c_shutE {S : Nat} (hT : TOk T) (q : Sd M S P N T k) {j : Nat} (hj : j < tz T) : sh_X7_isShut S (Int32.ofNat j) M = some (bI (sb N j = true)) := by
  have h5 := hT.z.2
  rw [c_isShut q.1 (by omega), (q.2.2.1.2.1 j hj).2.2.2.2.2]
  have h10 := (q.2.2.2.1.1 j hj).2.2.2.2.2
  unfold sb
  rw [h10]
  split
  · rw [bI_f (by simp)]
  · rw [bI_t (by simp)]
theorem c_zonesLike (w : Wd M P T) (s : Sd M 263 P N T k) (r : Sd M 304 P R T k') : sh_X7_zonesLike 304 263 M = some (bI ((∀ z, z < tz T → R z = N z) ∧ (∀ z, z < tz T → R (20 + z) = N (20 + z)) ∧ ∀ z, z < tz T → lkZ T N R z)) := by
  have hT := w.2.2.2.2.2.1
  have hz := hT.z
  have hP := w.2.2.2.1
  have e5 : M.1 P 5 = Int32.ofNat (tz T) := w.2.2.2.2.2.2.1.1.trans hz.1
  have q1 := c_same (M := M) (a := 304 + 1) (b := 263 + 1) (n := tz T) (m := 5) (r.1.2.2 0 (by decide)).2 (s.1.2.2 0 (by decide)).2 hz.2 (by decide)
  have q2 := c_same (M := M) (a := 304 + 4) (b := 263 + 4) (n := tz T) (m := 5) (r.1.2.2 3 (by decide)).2 (s.1.2.2 3 (by decide)).2 hz.2 (by decide)
  have c1 : (∀ i, i < tz T → M.1 (304 + 1) i = M.1 (263 + 1) i) ↔ ∀ z, z < tz T → R z = N z := ⟨fun h i hi => by rw [← (r.2.2.1.2.1 i hi).1, ← (s.2.2.1.2.1 i hi).1]; exact h i hi, fun h i hi => by rw [(r.2.2.1.2.1 i hi).1, (s.2.2.1.2.1 i hi).1]; exact h i hi⟩
  have c2 : (∀ i, i < tz T → M.1 (304 + 4) i = M.1 (263 + 4) i) ↔ ∀ z, z < tz T → R (20 + z) = N (20 + z) := ⟨fun h i hi => by rw [← (r.2.2.1.2.1 i hi).2.2.2.1, ← (s.2.2.1.2.1 i hi).2.2.2.1]; exact h i hi, fun h i hi => by rw [(r.2.2.1.2.1 i hi).2.2.2.1, (s.2.2.1.2.1 i hi).2.2.2.1]; exact h i hi⟩
  rw [bI_c c1] at q1
  rw [bI_c c2] at q2
  have key : ∃ q, lp (X7_zonesLike_B46 304 263 M) FU 0 = some q ∧ Sum.elim (fun _ => (zck 1).bind fun z4 => some z4) (fun _ => X7_zonesLike_J79 M) q = some (bI (∀ z, z < tz T → lkZ T N R z)) := by
    refine lp_inv (fun j q => q = Int32.ofNat j ∧ ∀ i, i < j → lkZ T N R i) _ (tz T) ?_ ?_ ⟨rfl, fun i h => by omega⟩ (by omega)
    · rintro j q hj ⟨h1, h2⟩
      subst h1
      have hd : Decidable (lkZ T N R j) := Classical.propDecidable _
      have e : X7_zonesLike_B46 304 263 M (Int32.ofNat j) = if lkZ T N R j then some (.inl (Int32.ofNat (j + 1))) else some (.inr (.inr ())) := by
        unfold X7_zonesLike_B46
        simp (disch := omega) only [s_plan r.1, pg_I hP, e5, le_n, c_shutE hT r hj, c_shutE hT s hj, c_readLike w s r hj, Option.bind_some, suc_n]
        rw [if_neg (by omega)]
        by_cases d1 : sb R j = sb N j
        · rw [d1, if_pos rfl]
          by_cases d2 : ∀ i, i < win T j → R (30 + 4 * j + i) = N (30 + 4 * j + i)
          · rw [if_pos (show lkZ T N R j from ⟨d1, d2⟩), bI_t d2, if_neg (by decide)]
          · rw [if_neg (fun q : lkZ T N R j => d2 q.2), bI_f d2, if_pos rfl]
        · rw [if_neg (fun q : lkZ T N R j => d1 q.1), if_neg]
          intro q
          apply d1
          rcases Bool.eq_false_or_eq_true (sb R j) with a | a <;> rcases Bool.eq_false_or_eq_true (sb N j) with b | b <;> rw [a, b] at q ⊢
          · rw [bI_t rfl, bI_f (by decide)] at q; exact absurd q (by decide)
          · rw [bI_t rfl, bI_f (by decide)] at q; exact absurd q (by decide)
      by_cases c : lkZ T N R j
      · refine Or.inl ⟨_, e.trans (if_pos c), rfl, fun i hi => ?_⟩
        by_cases ei : i = j
        · rw [ei]; exact c
        · exact h2 i (by omega)
      · exact Or.inr ⟨_, e.trans (if_neg c), by rw [bI_f (fun q => c (q j hj))]; rfl⟩
    · rintro q ⟨h1, h2⟩
      subst h1
      refine ⟨.inl (), ?_, by rw [bI_t h2]; rfl⟩
      unfold X7_zonesLike_B46
      simp (disch := omega) only [s_plan r.1, pg_I hP, e5, le_n, Option.bind_some]
      rw [if_pos (Nat.le_refl _)]
  obtain ⟨q, k1, k2⟩ := key
  unfold sh_X7_zonesLike X7_zonesLike_F X7_zonesLike_J42
  simp only [s_O r.1, s_heat r.1, s_heat s.1, s_plan r.1, pg_I hP, e5, Option.bind_some, q1, s_temp r.1, s_temp s.1, q2, k1]
  by_cases d1 : ∀ z, z < tz T → R z = N z
  · rw [bI_t d1, if_neg (by decide)]
    by_cases d2 : ∀ z, z < tz T → R (20 + z) = N (20 + z)
    · rw [bI_t d2, if_neg (by decide)]
      exact k2.trans (congrArg some (bI_c ⟨fun h => ⟨d1, d2, h⟩, fun h => h.2.2⟩))
    · rw [bI_f d2, if_pos rfl, bI_f (fun q => d2 q.2.1)]; rfl
  · rw [bI_f d1, if_pos rfl, bI_f (fun q => d1 q.1)]; rfl
theorem c_isLike (w : Wd M P T) (s : Sd M 263 P N T k) (r : Sd M 304 P R T k') : sh_X7_isLike 304 263 M = some (bI (lk T N R)) := by
  have hT := w.2.2.2.2.2.1
  have ht := hT.t
  have hd := hT.d
  have hP := w.2.2.2.1
  have pv := w.2.2.2.2.2.2
  have h60 := fb_60 hT
  have q1 := c_same (M := M) (a := 304 + 8) (b := 263 + 8) (n := tt T) (m := 10) (r.1.2.2 7 (by decide)).2 (s.1.2.2 7 (by decide)).2 ht.2 (by decide)
  have q2 := c_same (M := M) (a := 304 + 10) (b := 263 + 10) (n := td T) (m := 6) (r.1.2.2 9 (by decide)).2 (s.1.2.2 9 (by decide)).2 hd.2 (by decide)
  have q3 := c_same (M := M) (a := 304 + 13) (b := 263 + 13) (n := fb T (tt T)) (m := 60) (r.1.2.2 12 (by decide)).2 (s.1.2.2 12 (by decide)).2 h60 (by decide)
  have c1 : (∀ i, i < tt T → M.1 (304 + 8) i = M.1 (263 + 8) i) ↔ ∀ t, t < tt T → R (50 + t) = N (50 + t) := ⟨fun h i hi => by rw [← (r.2.2.1.2.2.2.1 i hi).1, ← (s.2.2.1.2.2.2.1 i hi).1]; exact h i hi, fun h i hi => by rw [(r.2.2.1.2.2.2.1 i hi).1, (s.2.2.1.2.2.2.1 i hi).1]; exact h i hi⟩
  have c2 : (∀ i, i < td T → M.1 (304 + 10) i = M.1 (263 + 10) i) ↔ ∀ t, t < td T → R (70 + t) = N (70 + t) := ⟨fun h i hi => by rw [← (r.2.2.1.2.2.2.2.1 i hi).1, ← (s.2.2.1.2.2.2.2.1 i hi).1]; exact h i hi, fun h i hi => by rw [(r.2.2.1.2.2.2.2.1 i hi).1, (s.2.2.1.2.2.2.2.1 i hi).1]; exact h i hi⟩
  have c3 : (∀ i, i < fb T (tt T) → M.1 (304 + 13) i = M.1 (263 + 13) i) ↔ ∀ t i, t < tt T → i < (dl T t).length → R (82 + 6 * t + di T t i) = N (82 + 6 * t + di T t i) := by
    refine ⟨fun h t i h1 h2 => ?_, fun h b hb => ?_⟩
    · rw [← r.2.2.1.2.2.2.2.2.1 t i h1 h2, ← s.2.2.1.2.2.2.2.2.1 t i h1 h2]
      have := fb_mono T (i := t + 1) (j := tt T) (by omega)
      have e : fb T (t + 1) = fb T t + (dl T t).length := rfl
      exact h _ (by omega)
    · obtain ⟨t, i, h1, h2, h3⟩ := fb_find T (tt T) b hb
      rw [h3, r.2.2.1.2.2.2.2.2.1 t i h1 h2, s.2.2.1.2.2.2.2.2.1 t i h1 h2]
      exact h t i h1 h2
  rw [bI_c c1] at q1
  rw [bI_c c2] at q2
  rw [bI_c c3] at q3
  have e6 : M.1 P 6 = Int32.ofNat (tt T) := pv.1.2.1.trans ht.1
  have e7 : M.1 P 7 = Int32.ofNat (td T) := pv.1.2.2.1.trans hd.1
  have e8 : M.1 P 8 = Int32.ofNat (fb T (tt T)) := pv.1.2.2.2.1
  unfold sh_X7_isLike X7_isLike_F X7_isLike_J75 X7_isLike_J76
  simp only [s_O r.1, c_zonesLike w s r, s_on r.1, s_on s.1, s_plan r.1, pg_I hP, e6, e7, e8, Option.bind_some, q1, s_position r.1, s_position s.1, q2, s_wanted r.1, s_wanted s.1, q3]
  by_cases d0 : (∀ z, z < tz T → R z = N z) ∧ (∀ z, z < tz T → R (20 + z) = N (20 + z)) ∧ ∀ z, z < tz T → lkZ T N R z
  · rw [bI_t d0, if_neg (by decide)]
    by_cases d1 : ∀ t, t < tt T → R (50 + t) = N (50 + t)
    · rw [bI_t d1, if_neg (by decide)]
      by_cases d2 : ∀ t, t < td T → R (70 + t) = N (70 + t)
      · rw [bI_t d2, if_neg (by decide)]
        by_cases d3 : ∀ t i, t < tt T → i < (dl T t).length → R (82 + 6 * t + di T t i) = N (82 + 6 * t + di T t i)
        · rw [bI_t d3, if_neg (by decide), bI_t (show lk T N R from ⟨d0, d1, d2, d3⟩)]; rfl
        · rw [bI_f d3, if_pos rfl, bI_f (fun q : lk T N R => d3 q.2.2.2)]; rfl
      · rw [bI_f d2, if_pos rfl, bI_f (fun q : lk T N R => d2 q.2.2.1)]; rfl
    · rw [bI_f d1, if_pos rfl, bI_f (fun q : lk T N R => d1 q.2.1)]; rfl
  · rw [bI_f d0, if_pos rfl, bI_f (fun q : lk T N R => d0 q.1)]; rfl
theorem c_again (w : Wd M P T) (s : Sd M 263 P N T k) {P' : Nat} (t : StK M 304 P') (hk : k < 2147470000) : ∃ e n M', sh_X3_againMinutes 302 263 M = some (e, M') ∧ Ft M M' ∧ Fst (fun n => lk T N (mRun T N n)) e n := by
  obtain ⟨M0, a1, a2, a3⟩ := c_try w s (by decide) t
  have key : ∃ r, lp (X3_againMinutes_B10 302 263) FU (1, M0) = some r ∧ ∃ e n M', Sum.elim (fun u7 => some ((-1), u7)) (fun u8 => some (u8.1, u8.2)) r = some (e, M') ∧ Ft M M' ∧ Fst (fun n => lk T N (mRun T N n)) e n := by
    refine lp_inv (fun j q => q.1 = Int32.ofNat (j + 1) ∧ Ft M q.2 ∧ Sd q.2 304 P (mRun T N j) T (k + 20 * j) ∧ ∀ i, 1 ≤ i → i ≤ j → ¬ lk T N (mRun T N i)) _ 200 ?_ ?_ ⟨rfl, a2, a3, fun i h1 h2 => by omega⟩ (by omega)
    · rintro j ⟨i, M1⟩ hj ⟨h1, h2, h3, h4⟩
      replace h1 : i = Int32.ofNat (j + 1) := h1
      subst h1
      have w1 := w.ft h2
      obtain ⟨M2, b1, b2, b3⟩ := c_passT w1 h3 (by omega)
      have w2 := w1.ft b2
      have b4 : Sd M2 304 P (mRun T N (j + 1)) T (k + 20 * (j + 1)) := b3
      have s2 := s.ft (h2.trans b2) (by decide)
      have e : X3_againMinutes_B10 302 263 (Int32.ofNat (j + 1), M1) = if bI (lk T N (mRun T N (j + 1))) = 0 then some (.inl (Int32.ofNat (j + 2), M2)) else some (.inr (.inr (Int32.ofNat (j + 1), M2))) := by
        unfold X3_againMinutes_B10
        rw [show (200 : Int32) = Int32.ofNat 200 from rfl]
        simp (disch := omega) only [f_clock w1.1 w1.2.2.1, f_trial w1.1 w1.2.2.1, Option.bind_some, lt_n, b1, suc_n, f_trial w2.1 w2.2.2.1, c_isLike w2 s2 b4]
        rw [if_neg (by omega)]
      by_cases c : lk T N (mRun T N (j + 1))
      · exact Or.inr ⟨_, e.trans (if_neg (by rw [bI_0]; exact fun q => q c)), _, j + 1, M2, rfl, h2.trans b2, Or.inr ⟨rfl, by omega, by omega, c, fun i g1 g2 => h4 i g1 (by omega)⟩⟩
      · refine Or.inl ⟨_, e.trans (if_pos (bI_f c)), rfl, h2.trans b2, b4, fun i g1 g2 => ?_⟩
        by_cases ei : i = j + 1
        · rw [ei]; exact c
        · exact h4 i g1 (by omega)
    · rintro ⟨i, M1⟩ ⟨h1, h2, h3, h4⟩
      replace h1 : i = Int32.ofNat 201 := h1
      subst h1
      exact ⟨_, rfl, _, 200, M1, rfl, h2, Or.inl ⟨rfl, rfl, h4⟩⟩
  obtain ⟨r, k1, e, n, M', k2, k3, k5⟩ := key
  refine ⟨e, n, M', ?_, k3, k5⟩
  unfold sh_X3_againMinutes X3_againMinutes_F
  simp only [f_O w.1, f_trial w.1 w.2.2.1, Option.bind_some, a1, k1, k2]
end
