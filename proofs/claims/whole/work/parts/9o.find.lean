/-! ===== FIND: the BINDS of each TRIP ===== -/
def bLp (T : Nat → Int32) (n : Nat) : List (Nat × Nat) := (List.range n).flatMap fun t => (dl T t).map fun d => (t, d)
section
variable {C C' : Gm} {D m : Nat} {N T : Nat → Int32} {L : List (Nat × Nat)}
theorem bLp_succ (T : Nat → Int32) (n : Nat) : bLp T (n + 1) = bLp T n ++ (dl T n).map fun d => (n, d) := by
  unfold bLp
  rw [List.range_succ, List.flatMap_append]
  simp
theorem bLp_len (T : Nat → Int32) (n : Nat) : (bLp T n).length = fb T n := by
  induction n with
  | zero => rfl
  | succ n ih =>
    rw [bLp_succ, List.length_append, ih, List.length_map]
    rfl
theorem fb_up (T : Nat → Int32) {a b : Nat} (h : a ≤ b) : fb T a ≤ fb T b := by
  induction h with
  | refl => exact Nat.le_refl _
  | step h ih => exact Nat.le_trans ih (Nat.le_add_right _ _)
theorem bLp_at (T : Nat → Int32) (n : Nat) {t i : Nat} (ht : t < n) (hi : i < (dl T t).length) : (bLp T n).getD (fb T t + i) (0, 0) = (t, di T t i) := by
  induction n with
  | zero => exact absurd ht (Nat.not_lt_zero _)
  | succ n ih =>
    rw [bLp_succ, List.getD_eq_getElem?_getD]
    by_cases c : t < n
    · have h1 : fb T t + i < fb T (t + 1) := Nat.add_lt_add_left hi _
      have h2 := fb_up T (show t + 1 ≤ n by omega)
      rw [List.getElem?_append_left (by rw [bLp_len]; omega), ← List.getD_eq_getElem?_getD]
      exact ih c
    · have e : t = n := by omega
      subst e
      rw [List.getElem?_append_right (by rw [bLp_len]; omega), bLp_len, show fb T t + i - fb T t = i by omega, List.getElem?_map, List.getElem?_eq_getElem hi]
      unfold di
      rw [List.getD_eq_getElem?_getD, List.getElem?_eq_getElem hi]
      rfl
theorem bL_at (T : Nat → Int32) {t i : Nat} (ht : t < 10) (hi : i < (dl T t).length) : (bL T).getD (fb T t + i) (0, 0) = (t, di T t i) := bLp_at T 10 ht hi
theorem dl_nil (hT : TOk T) {t : Nat} (h1 : tt T ≤ t) (h2 : t < 10) : dl T t = [] := by
  cases q : dl T t with
  | nil => rfl
  | cons d l =>
    have m : d ∈ dl T t := by rw [q]; exact List.mem_cons_self
    have := ((dl_ok hT h2).2 d).mp m
    have w := (hT.2.2.2.2.1 t d h2 this.1)
    have := (w.2 (fun e => this.2 (by unfold wn; rw [e]; rfl))).1
    omega
theorem fb_tt (hT : TOk T) : fb T (tt T) = fb T 10 := by
  have : ∀ n, tt T ≤ n → n ≤ 10 → fb T n = fb T (tt T) := by
    intro n h
    induction h with
    | refl => intro _; rfl
    | step h ih =>
      intro h2
      rw [← ih (by omega)]
      show fb T _ + (dl T _).length = _
      rw [dl_nil hT h (by omega)]
      rfl
  exact (this 10 hT.t.2 (Nat.le_refl _)).symm
/-- the trip of a BIND's place -/
def tpB (C : Gm) (D p : Nat) : Int32 := C.1 (C.2.1 (D + 4) p) 0
theorem c_find1 (pk : PlK C D) (e8 : C.1 D 8 = Int32.ofNat m) (hm : m ≤ 60) {a : Nat} (ha : a ≤ m) (x : Int32) : ∃ r, lp (X5_findBindsOfTrips_B22 D x C) FU (Int32.ofNat a) = some (Int32.ofNat r) ∧ a ≤ r ∧ r ≤ m ∧ (∀ p, a ≤ p → p < r → tpB C D p = x) ∧ (r < m → tpB C D r ≠ x) := by
  have key : ∃ q, lp (X5_findBindsOfTrips_B22 D x C) FU (Int32.ofNat a) = some q ∧ ∃ r, q = Int32.ofNat r ∧ a ≤ r ∧ r ≤ m ∧ (∀ p, a ≤ p → p < r → tpB C D p = x) ∧ (r < m → tpB C D r ≠ x) := by
    refine lp_inv (fun i q => q = Int32.ofNat (a + i) ∧ ∀ p, a ≤ p → p < a + i → tpB C D p = x) _ (m - a) ?_ ?_ ⟨rfl, fun p h1 h2 => absurd h2 (by omega)⟩ (by omega)
    · rintro i q hi ⟨h1, h2⟩
      subst h1
      have e : X5_findBindsOfTrips_B22 D x C (Int32.ofNat (a + i)) = if tpB C D (a + i) = x then some (.inl (Int32.ofNat (a + i + 1))) else some (.inr (Int32.ofNat (a + i))) := by
        unfold X5_findBindsOfTrips_B22 tpB
        rw [pg_I pk, bs, e8, if_neg (fun q => by have := (le_n (by omega) (by omega)).mp q; omega), p_binds pk, bs, p_bind pk (by omega), bs, pb_I pk (by omega), bs, pl1]
      by_cases c : tpB C D (a + i) = x
      · rw [if_pos c] at e
        refine Or.inl ⟨_, e, rfl, fun p h3 h4 => ?_⟩
        by_cases d : p = a + i
        · rw [d]; exact c
        · exact h2 p h3 (by omega)
      · rw [if_neg c] at e
        exact Or.inr ⟨_, e, a + i, rfl, by omega, by omega, h2, fun _ => c⟩
    · rintro q ⟨h1, h2⟩
      subst h1
      refine ⟨Int32.ofNat (a + (m - a)), ?_, m, by rw [show a + (m - a) = m by omega], ha, Nat.le_refl _, fun p h3 h4 => h2 p h3 (by omega), fun q => absurd q (by omega)⟩
      unfold X5_findBindsOfTrips_B22
      rw [pg_I pk, bs, e8, if_pos ((le_n (by omega) (by omega)).mpr (by omega))]
  obtain ⟨q, q1, r, q2, q3⟩ := key
  subst q2
  exact ⟨r, q1, q3⟩
/-- where the BINDS of the first TRIPS begin and end -/
def Fnd (C : Gm) (D m j : Nat) (f : Nat → Nat) : Prop := f 0 = 0 ∧ ∀ t, t < j → f t ≤ f (t + 1) ∧ f (t + 1) ≤ m ∧ (∀ p, f t ≤ p → p < f (t + 1) → tpB C D p = Int32.ofNat t) ∧ (f (t + 1) < m → tpB C D (f (t + 1)) ≠ Int32.ofNat t)
theorem c_find (pk : PlK C D) {t : Nat} (ht : t ≤ 10) (hm : m ≤ 60) (e6 : C.1 D 6 = Int32.ofNat t) (e8 : C.1 D 8 = Int32.ofNat m) : ∃ C' f, sh_X5_findBindsOfTrips D C = some C' ∧ C'.2 = C.2 ∧ (∀ a, (a < D + 11 ∨ D + 21 ≤ a) → C'.1 a = C.1 a) ∧ Fnd C D m t f ∧ (∀ i, i < t → C'.1 (D + 11 + i) = ud (ud (C.1 (D + 11 + i)) 4 (Int32.ofNat (f i))) 5 (Int32.ofNat (f (i + 1)))) := by
  have key : ∃ q, lp (X5_findBindsOfTrips_B4 D) FU (0, 0, C) = some q ∧ ∃ f, q.2 = C.2 ∧ (∀ a, (a < D + 11 ∨ D + 21 ≤ a) → q.1 a = C.1 a) ∧ Fnd C D m t f ∧ (∀ i, i < t → q.1 (D + 11 + i) = ud (ud (C.1 (D + 11 + i)) 4 (Int32.ofNat (f i))) 5 (Int32.ofNat (f (i + 1)))) := by
    refine lp_inv (fun j (q : Int32 × Int32 × Gm) => ∃ f, q.1 = Int32.ofNat (f j) ∧ q.2.1 = Int32.ofNat j ∧ f j ≤ m ∧ q.2.2.2 = C.2 ∧ (∀ a, (a < D + 11 ∨ D + 11 + j ≤ a) → q.2.2.1 a = C.1 a) ∧ Fnd C D m j f ∧ (∀ i, i < j → q.2.2.1 (D + 11 + i) = ud (ud (C.1 (D + 11 + i)) 4 (Int32.ofNat (f i))) 5 (Int32.ofNat (f (i + 1))))) _ t ?_ ?_ ⟨fun _ => 0, rfl, rfl, Nat.zero_le _, rfl, fun _ _ => rfl, ⟨rfl, fun t h => absurd h (Nat.not_lt_zero _)⟩, fun t h => absurd h (Nat.not_lt_zero _)⟩ (by omega)
    · rintro j ⟨x, y, M⟩ hj ⟨f, h1, h2, h3, h4, h5, ⟨h6, h6'⟩, h7⟩
      replace h1 : x = Int32.ofNat (f j) := h1
      replace h2 : y = Int32.ofNat j := h2
      replace h4 : M.2 = C.2 := h4
      replace h5 : ∀ a, (a < D + 11 ∨ D + 11 + j ≤ a) → M.1 a = C.1 a := h5
      replace h7 : ∀ i, i < j → M.1 (D + 11 + i) = ud (ud (C.1 (D + 11 + i)) 4 (Int32.ofNat (f i))) 5 (Int32.ofNat (f (i + 1))) := h7
      subst h1 h2
      have pM : PlK M D := pk.eq h4
      have p1 : PlK (sI M (D + 11 + j) 4 (Int32.ofNat (f j))) D := pM.sI _ _ _
      obtain ⟨r, r1, r2, r3, r4, r5⟩ := c_find1 (m := m) (a := f j) p1 (by rw [sI_ne _ _ _ (by omega), h5 D (by omega)]; exact e8) hm h3 (Int32.ofNat j)
      have et : ∀ p, p < 60 → tpB (sI M (D + 11 + j) 4 (Int32.ofNat (f j))) D p = tpB C D p := fun p hp => by
        unfold tpB
        have := pM.2.2.2.2.2.2.1 p hp
        show (sI M (D + 11 + j) 4 (Int32.ofNat (f j))).1 (M.2.1 (D + 4) p) 0 = _
        rw [sI_ne _ _ _ (by omega), h5 _ (by omega), h4]
      have kt : kd M (D + 11 + j) = (8, 0) := (pM.2.2.2.2.1 j (by omega)).2
      refine Or.inl ⟨(Int32.ofNat r, Int32.ofNat (j + 1), sI (sI M (D + 11 + j) 4 (Int32.ofNat (f j))) (D + 11 + j) 5 (Int32.ofNat r)), ?_, fun i => if i = j + 1 then r else f i, ?_, rfl, ?_, h4, fun a ha => ?_, ⟨?_, fun i hi => ?_⟩, fun i hi => ?_⟩
      · unfold X5_findBindsOfTrips_B4 X5_findBindsOfTrips_J49
        show ((gfI M D 5 6).bind _) = _
        rw [pg_I pM, bs, h5 D (by omega), e6]
        show (if Int32.ofNat t ≤ Int32.ofNat j then _ else _) = _
        rw [if_neg (fun q => by have := (le_n (by omega) (by omega)).mp q; omega), p_trips pM, bs, p_trip pM (by omega), bs, p_I 4 _ kt, bs]
        show ((lp (X5_findBindsOfTrips_B22 D (Int32.ofNat j) (sI M (D + 11 + j) 4 (Int32.ofNat (f j)))) FU (Int32.ofNat (f j))).bind _) = _
        rw [r1, bs, p_trips p1, bs, p_trip p1 (by omega), bs, p_I 5 _ (show kd (sI M (D + 11 + j) 4 (Int32.ofNat (f j))) (D + 11 + j) = (8, 0) from kt), bs, pl1]
      · show Int32.ofNat r = Int32.ofNat (if j + 1 = j + 1 then r else f (j + 1))
        rw [if_pos rfl]
      · show (if j + 1 = j + 1 then r else f (j + 1)) ≤ m
        rw [if_pos rfl]; exact r3
      · show (sI (sI M (D + 11 + j) 4 (Int32.ofNat (f j))) (D + 11 + j) 5 (Int32.ofNat r)).1 a = _
        rw [sI_ne _ _ _ (by omega), sI_ne _ _ _ (by omega), h5 a (by omega)]
      · show (if 0 = j + 1 then r else f 0) = 0
        rw [if_neg (by omega)]; exact h6
      · show (if i = j + 1 then r else f i) ≤ (if i + 1 = j + 1 then r else f (i + 1)) ∧ (if i + 1 = j + 1 then r else f (i + 1)) ≤ m ∧ (∀ p, (if i = j + 1 then r else f i) ≤ p → p < (if i + 1 = j + 1 then r else f (i + 1)) → tpB C D p = Int32.ofNat i) ∧ ((if i + 1 = j + 1 then r else f (i + 1)) < m → tpB C D (if i + 1 = j + 1 then r else f (i + 1)) ≠ Int32.ofNat i)
        rw [if_neg (by omega)]
        by_cases c : i = j
        · subst c
          rw [if_pos rfl]
          exact ⟨r2, r3, fun p h1 h2 => by rw [← et p (by omega)]; exact r4 p h1 h2, fun h => by rw [← et r (by omega)]; exact r5 h⟩
        · rw [if_neg (by omega)]
          exact h6' i (by omega)
      · show (sI (sI M (D + 11 + j) 4 (Int32.ofNat (f j))) (D + 11 + j) 5 (Int32.ofNat r)).1 (D + 11 + i) = ud (ud (C.1 (D + 11 + i)) 4 (Int32.ofNat (if i = j + 1 then r else f i))) 5 (Int32.ofNat (if i + 1 = j + 1 then r else f (i + 1)))
        rw [if_neg (by omega)]
        by_cases c : i = j
        · subst c
          rw [if_pos rfl, sI_own, sI_own, h5 _ (by omega)]
        · rw [if_neg (by omega), sI_ne _ _ _ (by omega), sI_ne _ _ _ (by omega)]
          exact h7 i (by omega)
    · rintro ⟨x, y, M⟩ ⟨f, h1, h2, h3, h4, h5, h6, h7⟩
      replace h2 : y = Int32.ofNat t := h2
      replace h4 : M.2 = C.2 := h4
      replace h5 : ∀ a, (a < D + 11 ∨ D + 11 + t ≤ a) → M.1 a = C.1 a := h5
      subst h2
      refine ⟨M, ?_, f, h4, fun a ha => h5 a (by omega), h6, h7⟩
      unfold X5_findBindsOfTrips_B4
      show ((gfI M D 5 6).bind _) = _
      rw [pg_I (pk.eq h4), bs, h5 D (by omega), e6]
      show (if Int32.ofNat t ≤ Int32.ofNat t then _ else _) = _
      rw [if_pos (Int32.le_refl _)]
  obtain ⟨C', q1, f, q2⟩ := key
  refine ⟨C', f, ?_, q2⟩
  unfold sh_X5_findBindsOfTrips X5_findBindsOfTrips_F
  rw [p_O pk, bs, q1, bs]
/-- where they begin, of a draft that stands -/
theorem Fnd.eqf (hT : TOk T) (l : BdV C D T L) {f : Nat → Nat} (h : Fnd C D L.length (tt T) f) : ∀ t, t ≤ tt T → f t = fb T t := by
  obtain ⟨⟨a1, a2, a3⟩, b, c, d⟩ := l
  have t10 := hT.t.2
  have eL := bL_uniq hT b c
  have len : L.length = fb T 10 := by rw [eL]; exact (bL_len hT).1
  have gm : ∀ i, i < L.length → L.getD i (0, 0) ∈ L := fun i hi => by rw [List.getD_eq_getElem?_getD, List.getElem?_eq_getElem hi]; exact List.getElem_mem hi
  have tp : ∀ p, p < L.length → tpB C D p = Int32.ofNat (L.getD p (0, 0)).1 := fun p hp => (d p hp).1
  intro t
  induction t with
  | zero => intro _; exact h.1
  | succ t ih =>
    intro ht
    have e := ih (by omega)
    obtain ⟨u1, u2, u3, u4⟩ := h.2 t (by omega)
    have s1 : fb T (t + 1) = fb T t + (dl T t).length := rfl
    have s2 := fb_up T (show t + 1 ≤ 10 by omega)
    rcases Nat.lt_trichotomy (f (t + 1)) (fb T (t + 1)) with g | g | g
    · have q := bL_at T (t := t) (i := f (t + 1) - fb T t) (by omega) (by omega)
      rw [show fb T t + (f (t + 1) - fb T t) = f (t + 1) by omega, ← eL] at q
      exact absurd (by rw [tp _ (by omega), q]) (u4 (by omega))
    · exact g
    · have q := u3 (fb T (t + 1)) (by omega) g
      have hp : fb T (t + 1) < L.length := by omega
      have mm := gm _ hp
      have m2 := (c _).mp mm
      rw [tp _ hp, eq_n (by omega) (by omega)] at q
      have dm := ((dl_ok hT (show t < 10 by omega)).2 (L.getD (fb T (t + 1)) (0, 0)).2).mpr ⟨m2.2.1, by have q0 := m2.2.2; rw [q] at q0; exact q0⟩
      obtain ⟨i, hi, ei⟩ := List.getElem_of_mem dm
      have q2 := bL_at T (t := t) (i := i) (by omega) hi
      rw [← eL] at q2
      have q3 : L.getD (fb T t + i) (0, 0) = L.getD (fb T (t + 1)) (0, 0) := by
        rw [q2]
        refine Prod.ext q.symm ?_
        show di T t i = _
        unfold di
        rw [List.getD_eq_getElem?_getD, List.getElem?_eq_getElem hi]
        exact ei
      have pw := (List.pairwise_iff_getElem.mp b) (fb T t + i) (fb T (t + 1)) (by omega) hp (by omega)
      rw [List.getD_eq_getElem?_getD, List.getElem?_eq_getElem (by omega), List.getD_eq_getElem?_getD, List.getElem?_eq_getElem hp] at q3
      replace q3 : L[fb T t + i]'(by omega) = L[fb T (t + 1)]'hp := q3
      rw [q3] at pw
      unfold bf bfr at pw
      omega
/-- the plan that is read stands for the told row -/
theorem DrV.find (h : DrV C D N T) (pk : PlK C D) : ∃ C', sh_X5_findBindsOfTrips D C = some C' ∧ C'.2 = C.2 ∧ (∀ a, (a < D + 11 ∨ D + 21 ≤ a) → C'.1 a = C.1 a) ∧ PlV C' D T ∧ T 166 = Int32.ofNat (fb T (tt T)) := by
  obtain ⟨hT, ⟨a5, a6, a7, a9, a10, a11⟩, z, c, d', ⟨L, l⟩, f, g⟩ := h
  have t10 := hT.t.2
  have d6 := hT.d.2
  have z5 := hT.z.2
  have w8 := hT.w.2
  have l' := l
  obtain ⟨⟨l1, l2, l3⟩, lb, lc, ld⟩ := l'
  have eL := bL_uniq hT lb lc
  have len : L.length = fb T (tt T) := by rw [fb_tt hT, eL]; exact (bL_len hT).1
  obtain ⟨C', fn, q1, q2, q3, q4, q5⟩ := c_find pk (t := tt T) t10 l3 (a6.trans hT.t.1) l1
  have ef := Fnd.eqf hT l q4
  refine ⟨C', q1, q2, q3, ⟨⟨?_, ?_, ?_, ?_, ?_⟩, fun y hy => ?_, fun i hi => ?_, fun i hi => ?_, fun t i ht hi => ?_, fun i hi => ?_⟩, by rw [← len]; exact l2⟩
  · rw [q3 D (by omega)]; exact a5
  · rw [q3 D (by omega)]; exact a6
  · rw [q3 D (by omega)]; exact a7
  · rw [q3 D (by omega), ← len]; exact l1
  · rw [q3 D (by omega)]; exact a9
  · rw [q3 (D + 6 + y) (by omega)]; exact (z y hy).2.2.2
  · rw [q5 i hi, ud_ne _ _ (by decide), ud_ne _ _ (by decide), ud_ne _ _ (by decide), ud_ne _ _ (by decide), ud_ne _ _ (by decide), ud_ne _ _ (by decide), ud_ne _ _ (by decide), ud_ne _ _ (by decide), ud_ne _ _ (by decide), ud_at, ud_at, ef i (by omega), ef (i + 1) (by omega)]
    exact ⟨(c i hi).1, (c i hi).2.1, (c i hi).2.2.1, (c i hi).2.2.2, rfl, rfl⟩
  · rw [q3 (D + 21 + i) (by omega)]; exact ⟨(d' i hi).1, (d' i hi).2.1, (d' i hi).2.2.1⟩
  · have s1 : fb T (t + 1) = fb T t + (dl T t).length := rfl
    have s2 := fb_up T (show t + 1 ≤ tt T by omega)
    have q := bL_at T (t := t) (i := i) (by omega) hi
    rw [← eL] at q
    have hp : fb T t + i < L.length := by omega
    have ldp := ld _ hp
    rw [q] at ldp
    have rg := pk.2.2.2.2.2.2.1 (fb T t + i) (by omega)
    rw [q2, q3 _ (by omega)]
    exact ldp
  · rw [q3 (D + 87 + i) (by omega)]; exact f i hi
end
