/-! ===== PURE 0: loops, ints, memory, the fixed layout ===== -/
theorem lp_more {σ ε : Type} (B : σ → Option (σ ⊕ ε)) : ∀ (n m : Nat) (q : σ) (e : ε), n ≤ m → lp B n q = some e → lp B m q = some e
  | 0, _, _, _, _, h => by cases h
  | n + 1, 0, _, _, hl, _ => by omega
  | n + 1, m + 1, q, e, hl, h => by
    rw [lp_succ] at h ⊢
    cases hB : B q with
    | none => rw [hB] at h; cases h
    | some r =>
      rw [hB] at h
      cases r with
      | inl t => exact lp_more B n m t e (by omega) h
      | inr e' => exact h
/-- a loop by what holds after j turns, that may leave at every turn, and leaves at the n-th -/
theorem lp_inv {σ ε : Type} {B : σ → Option (σ ⊕ ε)} (I : Nat → σ → Prop) (P : ε → Prop) (n : Nat)
    (hs : ∀ j q, j < n → I j q → (∃ t, B q = some (.inl t) ∧ I (j + 1) t) ∨ ∃ e, B q = some (.inr e) ∧ P e)
    (hE : ∀ q, I n q → ∃ e, B q = some (.inr e) ∧ P e) {q : σ} (h0 : I 0 q) (hn : n < 20000) : ∃ e, lp B FU q = some e ∧ P e := by
  have key : ∀ m j q, j + m = n → I j q → ∃ e, lp B (m + 1) q = some e ∧ P e := by
    intro m
    induction m with
    | zero =>
      intro j q hj hI
      have hj' : j = n := by omega
      subst hj'
      obtain ⟨e, h1, h2⟩ := hE q hI
      exact ⟨e, by rw [lp_succ, h1]; rfl, h2⟩
    | succ m ih =>
      intro j q hj hI
      rcases hs j q (by omega) hI with ⟨t, h1, h2⟩ | ⟨e, h1, h2⟩
      · obtain ⟨e, h3, h4⟩ := ih (j + 1) t (by omega) h2
        exact ⟨e, by rw [lp_succ, h1]; exact h3, h4⟩
      · exact ⟨e, by rw [lp_succ, h1]; rfl, h2⟩
  obtain ⟨e, h1, h2⟩ := key n 0 q (by omega) h0
  exact ⟨e, lp_more B _ _ _ _ (by rw [FU_eq]; omega) h1, h2⟩
/-- a loop whose state after j turns is s j -/
theorem lp_for {σ ε : Type} {B : σ → Option (σ ⊕ ε)} (s : Nat → σ) (e : ε) (n : Nat) (hs : ∀ j, j < n → B (s j) = some (.inl (s (j + 1)))) (hE : B (s n) = some (.inr e)) (hn : n < 20000) : lp B FU (s 0) = some e := by
  obtain ⟨e', h1, h2⟩ := lp_inv (B := B) (fun j q => q = s j) (fun x => x = e) n (fun j q hj hq => Or.inl ⟨s (j + 1), by rw [hq]; exact hs j hj, rfl⟩) (fun q hq => ⟨e, by rw [hq]; exact hE, rfl⟩) (q := s 0) rfl hn
  rw [h1, h2]
/-! ints -/
theorem nn (n : Nat) (h : n < 2147483648) : (Int32.ofNat n).toNatClampNeg = n := Int32.toNatClampNeg_ofNat_of_lt h
theorem tn (n : Nat) (h : n < 2147483648) : (Int32.ofNat n).toInt = (n : Int) := Int32.toInt_ofNat_of_lt h
theorem le_n {a b : Nat} (ha : a < 2147483648) (hb : b < 2147483648) : (Int32.ofNat a ≤ Int32.ofNat b) ↔ a ≤ b := Int32.ofNat_le_iff_le ha hb
theorem lt_n {a b : Nat} (ha : a < 2147483648) (hb : b < 2147483648) : (Int32.ofNat a < Int32.ofNat b) ↔ a < b := Int32.ofNat_lt_iff_lt ha hb
theorem eq_n {a b : Nat} (ha : a < 2147483648) (hb : b < 2147483648) : (Int32.ofNat a = Int32.ofNat b) ↔ a = b :=
  ⟨fun h => by have := congrArg Int32.toNatClampNeg h; rw [nn a ha, nn b hb] at this; exact this, fun h => by rw [h]⟩
theorem nneg {n : Nat} (h : n < 2147483648) : ¬ Int32.ofNat n < 0 := by
  rw [show (0 : Int32) = Int32.ofNat 0 from rfl, lt_n h (by omega)]; omega
theorem suc_n (j : Nat) : Int32.ofNat j + 1 = Int32.ofNat (j + 1) := (Int32.ofNat_add j 1).symm
theorem bmI {x : Int} (h1 : -2147483648 ≤ x) (h2 : x < 2147483648) : x.bmod (2 ^ 32) = x := Int.bmod_eq_of_le (by omega) (by omega)
theorem tI_add {a b : Int32} (h1 : -2147483648 ≤ a.toInt + b.toInt) (h2 : a.toInt + b.toInt < 2147483648) : (a + b).toInt = a.toInt + b.toInt := by rw [Int32.toInt_add, bmI h1 h2]
theorem tI_sub {a b : Int32} (h1 : -2147483648 ≤ a.toInt - b.toInt) (h2 : a.toInt - b.toInt < 2147483648) : (a - b).toInt = a.toInt - b.toInt := by rw [Int32.toInt_sub, bmI h1 h2]
theorem tI_mul {a b : Int32} (h1 : -2147483648 ≤ a.toInt * b.toInt) (h2 : a.toInt * b.toInt < 2147483648) : (a * b).toInt = a.toInt * b.toInt := by rw [Int32.toInt_mul, bmI h1 h2]
theorem tI_neg {a : Int32} (h1 : -2147483648 < a.toInt) : (-a).toInt = -a.toInt := by
  have := a.toInt_lt
  rw [Int32.toInt_neg, bmI (by omega) (by omega)]
theorem tI_eq {a b : Int32} (h : a.toInt = b.toInt) : a = b := Int32.toInt_inj.mp h
theorem tI_le {a b : Int32} : a ≤ b ↔ a.toInt ≤ b.toInt := Int32.le_iff_toInt_le
theorem tI_lt {a b : Int32} : a < b ↔ a.toInt < b.toInt := Int32.lt_iff_toInt_lt
theorem ofNat_tI {a : Int32} (h : 0 ≤ a.toInt) : a = Int32.ofNat a.toInt.toNat := by
  rw [Int32.toNat_toInt]
  exact (Int32.ofNat_toNatClampNeg a (by rw [tI_le]; exact h)).symm
/-- an int between two naturals -/
def isN (x : Int32) (lo hi : Nat) : Prop := ∃ n, x = Int32.ofNat n ∧ lo ≤ n ∧ n ≤ hi
theorem isN_tI {x : Int32} {lo hi : Nat} (h : isN x lo hi) (hh : hi < 2147483648) : (lo : Int) ≤ x.toInt ∧ x.toInt ≤ hi := by
  obtain ⟨n, h1, h2, h3⟩ := h
  rw [h1, tn n (by omega)]
  omega
theorem isN_of {x : Int32} {lo hi : Nat} (h1 : (lo : Int) ≤ x.toInt) (h2 : x.toInt ≤ hi) : isN x lo hi := ⟨x.toInt.toNat, ofNat_tI (by omega), by omega, by omega⟩
theorem isN_nn {x : Int32} {lo hi : Nat} (h : isN x lo hi) (hh : hi < 2147483648) : x = Int32.ofNat x.toNatClampNeg ∧ lo ≤ x.toNatClampNeg ∧ x.toNatClampNeg ≤ hi := by
  obtain ⟨n, h1, h2, h3⟩ := h
  rw [h1, nn n (by omega)]
  exact ⟨rfl, h2, h3⟩
theorem isN_w {x : Int32} {lo hi lo' hi' : Nat} (h : isN x lo hi) (h1 : lo' ≤ lo) (h2 : hi ≤ hi') : isN x lo' hi' := by
  obtain ⟨n, e, g1, g2⟩ := h
  exact ⟨n, e, by omega, by omega⟩
/-! memory -/
theorem g_I {M : Gm} {a c : Nat} (k : Nat) (h : kd M a = (c, 0)) : gfI M a c k = some (M.1 a k) := if_pos h
theorem g_R {M : Gm} {a c : Nat} (k : Nat) (h : kd M a = (c, 0)) : gfR M a c k = some (M.2.1 a k) := if_pos h
theorem p_I {M : Gm} {a c : Nat} (k : Nat) (x : Int32) (h : kd M a = (c, 0)) : pfI M a c k x = some (sI M a k x) := if_pos h
theorem p_R {M : Gm} {a c : Nat} (k r : Nat) (h : kd M a = (c, 0)) : pfR M a c k r = some (sR M a k r) := if_pos h
theorem p_Z {M : Gm} {a c : Nat} (k : Nat) (x : Int32) (h : kd M a = (c, 0)) (hx : x = 0 ∨ x = 1) : pfZ M a c k x = some (sI M a k x) := if_pos ⟨h, hx⟩
theorem i_O {M : Gm} {a c : Nat} (h : kd M a = (c, 0)) : isO M a c = some () := if_pos h
theorem inb_n {j n : Nat} (hj : j < n) (hn : n < 2147483648) : inb (Int32.ofNat j) n := ⟨nneg (by omega), by rw [nn j (by omega)]; exact hj⟩
theorem l_A {M : Gm} {t a n j : Nat} (h : kd M a = (32 + t, n)) (hj : j < n) (hn : n < 2147483648) : ldA M t a (Int32.ofNat j) = some (M.1 a j) := by
  unfold ldA
  rw [if_pos ⟨by rw [h], by rw [h]; exact inb_n hj hn⟩, nn j (by omega)]
theorem l_R {M : Gm} {t a n j : Nat} (h : kd M a = (32 + t, n)) (hj : j < n) (hn : n < 2147483648) : ldR M t a (Int32.ofNat j) = some (M.2.1 a j) := by
  unfold ldR
  rw [if_pos ⟨by rw [h], by rw [h]; exact inb_n hj hn⟩, nn j (by omega)]
theorem s_A {M : Gm} {t a n j : Nat} (x : Int32) (h : kd M a = (32 + t, n)) (hj : j < n) (hn : n < 2147483648) : stA M t a (Int32.ofNat j) x = some (sI M a j x) := by
  unfold stA
  rw [if_pos ⟨by rw [h], by rw [h]; exact inb_n hj hn⟩, nn j (by omega)]
theorem s_R {M : Gm} {t c a n j r : Nat} (h : kd M a = (32 + t, n)) (hj : j < n) (hn : n < 2147483648) (hr : kd M r = (c, 0)) : stR M t c a (Int32.ofNat j) r = some (sR M a j r) := by
  unfold stR
  rw [if_pos ⟨by rw [h], by rw [h]; exact inb_n hj hn, hr⟩, nn j (by omega)]
theorem a_len {M : Gm} {t a n : Nat} (h : kd M a = (32 + t, n)) (ht : t < 11) : alen M a = some (Int32.ofNat n) := by
  unfold alen
  rw [if_pos (by rw [h]; exact ⟨Nat.le_add_right 32 t, by show 32 + t < 43; omega⟩), h]
theorem kd_sI (M : Gm) (a k : Nat) (x : Int32) (b : Nat) : kd (sI M a k x) b = kd M b := rfl
theorem kd_sR (M : Gm) (a k : Nat) (x : Nat) (b : Nat) : kd (sR M a k x) b = kd M b := rfl
theorem kd_nwl {M : Gm} (q : Nat × Nat) {b : Nat} (h : b < M.2.2.length) : kd (nwM M q) b = kd M b := by
  unfold kd nwM
  rw [List.getD_eq_getElem?_getD, List.getD_eq_getElem?_getD]
  show ((M.2.2 ++ [q])[b]?).getD (31, 0) = _
  rw [List.getElem?_append_left h]
theorem kd_nw_own (M : Gm) (q : Nat × Nat) : kd (nwM M q) M.2.2.length = q := by
  unfold kd nwM
  rw [List.getD_eq_getElem?_getD]
  show ((M.2.2 ++ [q])[M.2.2.length]?).getD (31, 0) = _
  simp
def ud (f : Nat → Int32) (k : Nat) (x : Int32) : Nat → Int32 := fun j => if j = k then x else f j
theorem ud_at (f : Nat → Int32) (k : Nat) (x : Int32) : ud f k x k = x := if_pos rfl
theorem ud_ne (f : Nat → Int32) {k j : Nat} (x : Int32) (h : j ≠ k) : ud f k x j = f j := if_neg h
theorem sI_own (M : Gm) (a k : Nat) (x : Int32) : (sI M a k x).1 a = ud (M.1 a) k x := up2_own M.1 a k x
theorem sI_ne (M : Gm) {a b : Nat} (k : Nat) (x : Int32) (h : b ≠ a) : (sI M a k x).1 b = M.1 b := up2_row M.1 a k x h
theorem sI_2 (M : Gm) (a k : Nat) (x : Int32) : (sI M a k x).2 = M.2 := rfl
/-- nothing but these rows of ints has changed -/
def Fm (L : List Nat) (M M' : Gm) : Prop := M'.2 = M.2 ∧ ∀ b, b ∉ L → M'.1 b = M.1 b
theorem Fm.rfl' (L : List Nat) (M : Gm) : Fm L M M := ⟨rfl, fun _ _ => rfl⟩
theorem Fm.set {L : List Nat} {M M' : Gm} (h : Fm L M M') {a : Nat} (ha : a ∈ L) (k : Nat) (x : Int32) : Fm L M (sI M' a k x) :=
  ⟨by rw [sI_2]; exact h.1, fun b hb => by rw [sI_ne M' k x (show b ≠ a from fun e => hb (by rw [e]; exact ha))]; exact h.2 b hb⟩
theorem Fm.trans {L L' L2 : List Nat} {M M' M2 : Gm} (h : Fm L M M') (h' : Fm L' M' M2) (hs : ∀ a, a ∈ L → a ∈ L2) (hs' : ∀ a, a ∈ L' → a ∈ L2) : Fm L2 M M2 :=
  ⟨h'.1.trans h.1, fun b hb => (h'.2 b (fun e => hb (hs' b e))).trans (h.2 b (fun e => hb (hs b e)))⟩
theorem Fm.kdE {L : List Nat} {M M' : Gm} (h : Fm L M M') (b : Nat) : kd M' b = kd M b := by unfold kd; rw [h.1]

/-- the kinds of the cells that stand from the beginning on: 64 the class's object .. 319 the reference's .. 345 the law's long[1] -/
def kz : List (Nat × Nat) := List.replicate 64 (31, 0) ++ [(11, 0), (33, 700), (6, 0), (5, 0), (36, 5), (37, 10), (38, 6), (39, 60), (40, 8), (10, 0), (10, 0), (10, 0), (10, 0), (10, 0), (8, 0), (8, 0), (8, 0), (8, 0), (8, 0), (8, 0), (8, 0), (8, 0), (8, 0), (8, 0), (2, 0), (2, 0), (2, 0), (2, 0), (2, 0), (2, 0), (0, 0), (0, 0), (0, 0), (0, 0), (0, 0), (0, 0), (0, 0), (0, 0), (0, 0), (0, 0), (0, 0), (0, 0), (0, 0), (0, 0), (0, 0), (0, 0), (0, 0), (0, 0), (0, 0), (0, 0), (0, 0), (0, 0), (0, 0), (0, 0), (0, 0), (0, 0), (0, 0), (0, 0), (0, 0), (0, 0), (0, 0), (0, 0), (0, 0), (0, 0), (0, 0), (0, 0), (0, 0), (0, 0), (0, 0), (0, 0), (0, 0), (0, 0), (0, 0), (0, 0), (0, 0), (0, 0), (0, 0), (0, 0), (0, 0), (0, 0), (0, 0), (0, 0), (0, 0), (0, 0), (0, 0), (0, 0), (0, 0), (0, 0), (0, 0), (0, 0), (9, 0), (9, 0), (9, 0), (9, 0), (9, 0), (9, 0), (9, 0), (9, 0), (5, 0), (36, 5), (37, 10), (38, 6), (39, 60), (40, 8), (10, 0), (10, 0), (10, 0), (10, 0), (10, 0), (8, 0), (8, 0), (8, 0), (8, 0), (8, 0), (8, 0), (8, 0), (8, 0), (8, 0), (8, 0), (2, 0), (2, 0), (2, 0), (2, 0), (2, 0), (2, 0), (0, 0), (0, 0), (0, 0), (0, 0), (0, 0), (0, 0), (0, 0), (0, 0), (0, 0), (0, 0), (0, 0), (0, 0), (0, 0), (0, 0), (0, 0), (0, 0), (0, 0), (0, 0), (0, 0), (0, 0), (0, 0), (0, 0), (0, 0), (0, 0), (0, 0), (0, 0), (0, 0), (0, 0), (0, 0), (0, 0), (0, 0), (0, 0), (0, 0), (0, 0), (0, 0), (0, 0), (0, 0), (0, 0), (0, 0), (0, 0), (0, 0), (0, 0), (0, 0), (0, 0), (0, 0), (0, 0), (0, 0), (0, 0), (0, 0), (0, 0), (0, 0), (0, 0), (0, 0), (0, 0), (0, 0), (0, 0), (0, 0), (0, 0), (0, 0), (0, 0), (9, 0), (9, 0), (9, 0), (9, 0), (9, 0), (9, 0), (9, 0), (9, 0), (4, 0), (41, 40), (32, 8), (32, 8), (32, 8), (32, 3), (7, 0), (32, 5), (32, 5), (32, 5), (32, 5), (32, 5), (32, 5), (32, 20), (32, 10), (32, 10), (32, 6), (32, 6), (32, 6), (32, 60), (32, 160), (4, 0), (41, 40), (32, 8), (32, 8), (32, 8), (32, 3), (7, 0), (32, 5), (32, 5), (32, 5), (32, 5), (32, 5), (32, 5), (32, 20), (32, 10), (32, 10), (32, 6), (32, 6), (32, 6), (32, 60), (32, 160), (1, 0), (32, 5), (32, 4), (3, 0), (32, 1050), (7, 0), (32, 5), (32, 5), (32, 5), (32, 5), (32, 5), (32, 5), (32, 20), (32, 10), (32, 10), (32, 6), (32, 6), (32, 6), (32, 60), (32, 160), (12, 0), (42, 6), (42, 4), (42, 4), (42, 3), (32, 305), (32, 168), (32, 305), (32, 168), (32, 3), (32, 700), (32, 5), (34, 6), (32, 305), (32, 12200), (32, 8), (32, 8), (32, 8), (34, 51), (32, 1071), (32, 305), (32, 12200), (32, 8), (32, 8), (32, 8), (32, 3), (35, 1)]
theorem kz_len : kz.length = 346 := by decide +kernel
/-- the references that the reference's object holds -/
def mr : List Nat := [320, 321, 322, 323, 0, 324, 325, 326, 327, 328, 329, 0, 0, 0, 0, 0, 0, 0, 0, 0, 0, 0, 330, 331, 332, 0, 0, 333, 0, 334, 335, 336, 337, 338, 0, 0, 0, 0, 339, 340, 341, 342, 343, 344]
/-- the layout stands -/
def Ky (M : Gm) : Prop := (∀ a, a < 346 → kd M a = kz.getD a (31, 0)) ∧ ∀ k, k < 44 → M.2.1 319 k = mr.getD k 0
theorem Ky.eq {M M' : Gm} (h : Ky M) (e : M'.2 = M.2) : Ky M' := ⟨fun a ha => by unfold kd; rw [e]; exact h.1 a ha, fun k hk => by rw [e]; exact h.2 k hk⟩
theorem Ky.fm {L : List Nat} {M M' : Gm} (h : Ky M) (e : Fm L M M') : Ky M' := h.eq e.1
theorem Ky.sI {M : Gm} (h : Ky M) (a k : Nat) (x : Int32) : Ky (sI M a k x) := h.eq rfl
theorem m_O {M : Gm} (h : Ky M) : isO M 319 12 = some () := i_O ((h.1 319 (by decide)).trans rfl)
theorem m_I {M : Gm} (h : Ky M) (k : Nat) : gfI M 319 12 k = some (M.1 319 k) := g_I k ((h.1 319 (by decide)).trans rfl)
theorem m_P {M : Gm} (h : Ky M) (k : Nat) (x : Int32) : pfI M 319 12 k x = some (sI M 319 k x) := p_I k x ((h.1 319 (by decide)).trans rfl)
theorem m_Z {M : Gm} (h : Ky M) (k : Nat) (x : Int32) (hx : x = 0 ∨ x = 1) : pfZ M 319 12 k x = some (sI M 319 k x) := p_Z k x ((h.1 319 (by decide)).trans rfl) hx
theorem m_words {M : Gm} (h : Ky M) : gfR M 319 12 0 = some 320 := (g_R 0 ((h.1 319 (by decide)).trans rfl)).trans (congrArg some ((h.2 0 (by decide)).trans rfl))
theorem m_filters {M : Gm} (h : Ky M) : gfR M 319 12 1 = some 321 := (g_R 1 ((h.1 319 (by decide)).trans rfl)).trans (congrArg some ((h.2 1 (by decide)).trans rfl))
theorem m_sorts {M : Gm} (h : Ky M) : gfR M 319 12 2 = some 322 := (g_R 2 ((h.1 319 (by decide)).trans rfl)).trans (congrArg some ((h.2 2 (by decide)).trans rfl))
theorem m_makes {M : Gm} (h : Ky M) : gfR M 319 12 3 = some 323 := (g_R 3 ((h.1 319 (by decide)).trans rfl)).trans (congrArg some ((h.2 3 (by decide)).trans rfl))
theorem m_now {M : Gm} (h : Ky M) : gfR M 319 12 5 = some 324 := (g_R 5 ((h.1 319 (by decide)).trans rfl)).trans (congrArg some ((h.2 5 (by decide)).trans rfl))
theorem m_told {M : Gm} (h : Ky M) : gfR M 319 12 6 = some 325 := (g_R 6 ((h.1 319 (by decide)).trans rfl)).trans (congrArg some ((h.2 6 (by decide)).trans rfl))
theorem m_reading {M : Gm} (h : Ky M) : gfR M 319 12 7 = some 326 := (g_R 7 ((h.1 319 (by decide)).trans rfl)).trans (congrArg some ((h.2 7 (by decide)).trans rfl))
theorem m_readTold {M : Gm} (h : Ky M) : gfR M 319 12 8 = some 327 := (g_R 8 ((h.1 319 (by decide)).trans rfl)).trans (congrArg some ((h.2 8 (by decide)).trans rfl))
theorem m_status {M : Gm} (h : Ky M) : gfR M 319 12 9 = some 328 := (g_R 9 ((h.1 319 (by decide)).trans rfl)).trans (congrArg some ((h.2 9 (by decide)).trans rfl))
theorem m_tape {M : Gm} (h : Ky M) : gfR M 319 12 10 = some 329 := (g_R 10 ((h.1 319 (by decide)).trans rfl)).trans (congrArg some ((h.2 10 (by decide)).trans rfl))
theorem m_next {M : Gm} (h : Ky M) : gfR M 319 12 22 = some 330 := (g_R 22 ((h.1 319 (by decide)).trans rfl)).trans (congrArg some ((h.2 22 (by decide)).trans rfl))
theorem m_given {M : Gm} (h : Ky M) : gfR M 319 12 23 = some 331 := (g_R 23 ((h.1 319 (by decide)).trans rfl)).trans (congrArg some ((h.2 23 (by decide)).trans rfl))
theorem m_then {M : Gm} (h : Ky M) : gfR M 319 12 24 = some 332 := (g_R 24 ((h.1 319 (by decide)).trans rfl)).trans (congrArg some ((h.2 24 (by decide)).trans rfl))
theorem m_past {M : Gm} (h : Ky M) : gfR M 319 12 27 = some 333 := (g_R 27 ((h.1 319 (by decide)).trans rfl)).trans (congrArg some ((h.2 27 (by decide)).trans rfl))
theorem m_notedZone {M : Gm} (h : Ky M) : gfR M 319 12 29 = some 334 := (g_R 29 ((h.1 319 (by decide)).trans rfl)).trans (congrArg some ((h.2 29 (by decide)).trans rfl))
theorem m_notedMinutes {M : Gm} (h : Ky M) : gfR M 319 12 30 = some 335 := (g_R 30 ((h.1 319 (by decide)).trans rfl)).trans (congrArg some ((h.2 30 (by decide)).trans rfl))
theorem m_notedHeat {M : Gm} (h : Ky M) : gfR M 319 12 31 = some 336 := (g_R 31 ((h.1 319 (by decide)).trans rfl)).trans (congrArg some ((h.2 31 (by decide)).trans rfl))
theorem m_fitting {M : Gm} (h : Ky M) : gfR M 319 12 32 = some 337 := (g_R 32 ((h.1 319 (by decide)).trans rfl)).trans (congrArg some ((h.2 32 (by decide)).trans rfl))
theorem m_heatsOf {M : Gm} (h : Ky M) : gfR M 319 12 33 = some 338 := (g_R 33 ((h.1 319 (by decide)).trans rfl)).trans (congrArg some ((h.2 33 (by decide)).trans rfl))
theorem m_imageRow {M : Gm} (h : Ky M) : gfR M 319 12 38 = some 339 := (g_R 38 ((h.1 319 (by decide)).trans rfl)).trans (congrArg some ((h.2 38 (by decide)).trans rfl))
theorem m_pastThen {M : Gm} (h : Ky M) : gfR M 319 12 39 = some 340 := (g_R 39 ((h.1 319 (by decide)).trans rfl)).trans (congrArg some ((h.2 39 (by decide)).trans rfl))
theorem m_notedZoneThen {M : Gm} (h : Ky M) : gfR M 319 12 40 = some 341 := (g_R 40 ((h.1 319 (by decide)).trans rfl)).trans (congrArg some ((h.2 40 (by decide)).trans rfl))
theorem m_notedMinutesThen {M : Gm} (h : Ky M) : gfR M 319 12 41 = some 342 := (g_R 41 ((h.1 319 (by decide)).trans rfl)).trans (congrArg some ((h.2 41 (by decide)).trans rfl))
theorem m_notedHeatThen {M : Gm} (h : Ky M) : gfR M 319 12 42 = some 343 := (g_R 42 ((h.1 319 (by decide)).trans rfl)).trans (congrArg some ((h.2 42 (by decide)).trans rfl))
theorem m_statusThen {M : Gm} (h : Ky M) : gfR M 319 12 43 = some 344 := (g_R 43 ((h.1 319 (by decide)).trans rfl)).trans (congrArg some ((h.2 43 (by decide)).trans rfl))
theorem ld65 {M : Gm} (h : Ky M) {j : Nat} (hj : j < 700) : ldA M 1 65 (Int32.ofNat j) = some (M.1 65 j) := l_A ((h.1 65 (by decide)).trans rfl) hj (by decide)
theorem st65 {M : Gm} (h : Ky M) {j : Nat} (x : Int32) (hj : j < 700) : stA M 1 65 (Int32.ofNat j) x = some (sI M 65 j x) := s_A x ((h.1 65 (by decide)).trans rfl) hj (by decide)
theorem al65 {M : Gm} (h : Ky M) : alen M 65 = some (Int32.ofNat 700) := a_len (t := 1) ((h.1 65 (by decide)).trans rfl) (by decide)
theorem ld300 {M : Gm} (h : Ky M) {j : Nat} (hj : j < 5) : ldA M 0 300 (Int32.ofNat j) = some (M.1 300 j) := l_A ((h.1 300 (by decide)).trans rfl) hj (by decide)
theorem st300 {M : Gm} (h : Ky M) {j : Nat} (x : Int32) (hj : j < 5) : stA M 0 300 (Int32.ofNat j) x = some (sI M 300 j x) := s_A x ((h.1 300 (by decide)).trans rfl) hj (by decide)
theorem al300 {M : Gm} (h : Ky M) : alen M 300 = some (Int32.ofNat 5) := a_len (t := 0) ((h.1 300 (by decide)).trans rfl) (by decide)
theorem ld301 {M : Gm} (h : Ky M) {j : Nat} (hj : j < 4) : ldA M 0 301 (Int32.ofNat j) = some (M.1 301 j) := l_A ((h.1 301 (by decide)).trans rfl) hj (by decide)
theorem st301 {M : Gm} (h : Ky M) {j : Nat} (x : Int32) (hj : j < 4) : stA M 0 301 (Int32.ofNat j) x = some (sI M 301 j x) := s_A x ((h.1 301 (by decide)).trans rfl) hj (by decide)
theorem al301 {M : Gm} (h : Ky M) : alen M 301 = some (Int32.ofNat 4) := a_len (t := 0) ((h.1 301 (by decide)).trans rfl) (by decide)
theorem ld303 {M : Gm} (h : Ky M) {j : Nat} (hj : j < 1050) : ldA M 0 303 (Int32.ofNat j) = some (M.1 303 j) := l_A ((h.1 303 (by decide)).trans rfl) hj (by decide)
theorem st303 {M : Gm} (h : Ky M) {j : Nat} (x : Int32) (hj : j < 1050) : stA M 0 303 (Int32.ofNat j) x = some (sI M 303 j x) := s_A x ((h.1 303 (by decide)).trans rfl) hj (by decide)
theorem al303 {M : Gm} (h : Ky M) : alen M 303 = some (Int32.ofNat 1050) := a_len (t := 0) ((h.1 303 (by decide)).trans rfl) (by decide)
theorem ld324 {M : Gm} (h : Ky M) {j : Nat} (hj : j < 305) : ldA M 0 324 (Int32.ofNat j) = some (M.1 324 j) := l_A ((h.1 324 (by decide)).trans rfl) hj (by decide)
theorem st324 {M : Gm} (h : Ky M) {j : Nat} (x : Int32) (hj : j < 305) : stA M 0 324 (Int32.ofNat j) x = some (sI M 324 j x) := s_A x ((h.1 324 (by decide)).trans rfl) hj (by decide)
theorem al324 {M : Gm} (h : Ky M) : alen M 324 = some (Int32.ofNat 305) := a_len (t := 0) ((h.1 324 (by decide)).trans rfl) (by decide)
theorem ld325 {M : Gm} (h : Ky M) {j : Nat} (hj : j < 168) : ldA M 0 325 (Int32.ofNat j) = some (M.1 325 j) := l_A ((h.1 325 (by decide)).trans rfl) hj (by decide)
theorem st325 {M : Gm} (h : Ky M) {j : Nat} (x : Int32) (hj : j < 168) : stA M 0 325 (Int32.ofNat j) x = some (sI M 325 j x) := s_A x ((h.1 325 (by decide)).trans rfl) hj (by decide)
theorem al325 {M : Gm} (h : Ky M) : alen M 325 = some (Int32.ofNat 168) := a_len (t := 0) ((h.1 325 (by decide)).trans rfl) (by decide)
theorem ld326 {M : Gm} (h : Ky M) {j : Nat} (hj : j < 305) : ldA M 0 326 (Int32.ofNat j) = some (M.1 326 j) := l_A ((h.1 326 (by decide)).trans rfl) hj (by decide)
theorem st326 {M : Gm} (h : Ky M) {j : Nat} (x : Int32) (hj : j < 305) : stA M 0 326 (Int32.ofNat j) x = some (sI M 326 j x) := s_A x ((h.1 326 (by decide)).trans rfl) hj (by decide)
theorem al326 {M : Gm} (h : Ky M) : alen M 326 = some (Int32.ofNat 305) := a_len (t := 0) ((h.1 326 (by decide)).trans rfl) (by decide)
theorem ld327 {M : Gm} (h : Ky M) {j : Nat} (hj : j < 168) : ldA M 0 327 (Int32.ofNat j) = some (M.1 327 j) := l_A ((h.1 327 (by decide)).trans rfl) hj (by decide)
theorem st327 {M : Gm} (h : Ky M) {j : Nat} (x : Int32) (hj : j < 168) : stA M 0 327 (Int32.ofNat j) x = some (sI M 327 j x) := s_A x ((h.1 327 (by decide)).trans rfl) hj (by decide)
theorem al327 {M : Gm} (h : Ky M) : alen M 327 = some (Int32.ofNat 168) := a_len (t := 0) ((h.1 327 (by decide)).trans rfl) (by decide)
theorem ld328 {M : Gm} (h : Ky M) {j : Nat} (hj : j < 3) : ldA M 0 328 (Int32.ofNat j) = some (M.1 328 j) := l_A ((h.1 328 (by decide)).trans rfl) hj (by decide)
theorem st328 {M : Gm} (h : Ky M) {j : Nat} (x : Int32) (hj : j < 3) : stA M 0 328 (Int32.ofNat j) x = some (sI M 328 j x) := s_A x ((h.1 328 (by decide)).trans rfl) hj (by decide)
theorem al328 {M : Gm} (h : Ky M) : alen M 328 = some (Int32.ofNat 3) := a_len (t := 0) ((h.1 328 (by decide)).trans rfl) (by decide)
theorem ld329 {M : Gm} (h : Ky M) {j : Nat} (hj : j < 700) : ldA M 0 329 (Int32.ofNat j) = some (M.1 329 j) := l_A ((h.1 329 (by decide)).trans rfl) hj (by decide)
theorem st329 {M : Gm} (h : Ky M) {j : Nat} (x : Int32) (hj : j < 700) : stA M 0 329 (Int32.ofNat j) x = some (sI M 329 j x) := s_A x ((h.1 329 (by decide)).trans rfl) hj (by decide)
theorem al329 {M : Gm} (h : Ky M) : alen M 329 = some (Int32.ofNat 700) := a_len (t := 0) ((h.1 329 (by decide)).trans rfl) (by decide)
theorem ld330 {M : Gm} (h : Ky M) {j : Nat} (hj : j < 5) : ldA M 0 330 (Int32.ofNat j) = some (M.1 330 j) := l_A ((h.1 330 (by decide)).trans rfl) hj (by decide)
theorem st330 {M : Gm} (h : Ky M) {j : Nat} (x : Int32) (hj : j < 5) : stA M 0 330 (Int32.ofNat j) x = some (sI M 330 j x) := s_A x ((h.1 330 (by decide)).trans rfl) hj (by decide)
theorem al330 {M : Gm} (h : Ky M) : alen M 330 = some (Int32.ofNat 5) := a_len (t := 0) ((h.1 330 (by decide)).trans rfl) (by decide)
theorem ld331 {M : Gm} (h : Ky M) {j : Nat} (hj : j < 6) : ldA M 2 331 (Int32.ofNat j) = some (M.1 331 j) := l_A ((h.1 331 (by decide)).trans rfl) hj (by decide)
theorem st331 {M : Gm} (h : Ky M) {j : Nat} (x : Int32) (hj : j < 6) : stA M 2 331 (Int32.ofNat j) x = some (sI M 331 j x) := s_A x ((h.1 331 (by decide)).trans rfl) hj (by decide)
theorem al331 {M : Gm} (h : Ky M) : alen M 331 = some (Int32.ofNat 6) := a_len (t := 2) ((h.1 331 (by decide)).trans rfl) (by decide)
theorem ld332 {M : Gm} (h : Ky M) {j : Nat} (hj : j < 305) : ldA M 0 332 (Int32.ofNat j) = some (M.1 332 j) := l_A ((h.1 332 (by decide)).trans rfl) hj (by decide)
theorem st332 {M : Gm} (h : Ky M) {j : Nat} (x : Int32) (hj : j < 305) : stA M 0 332 (Int32.ofNat j) x = some (sI M 332 j x) := s_A x ((h.1 332 (by decide)).trans rfl) hj (by decide)
theorem al332 {M : Gm} (h : Ky M) : alen M 332 = some (Int32.ofNat 305) := a_len (t := 0) ((h.1 332 (by decide)).trans rfl) (by decide)
theorem ld333 {M : Gm} (h : Ky M) {j : Nat} (hj : j < 12200) : ldA M 0 333 (Int32.ofNat j) = some (M.1 333 j) := l_A ((h.1 333 (by decide)).trans rfl) hj (by decide)
theorem st333 {M : Gm} (h : Ky M) {j : Nat} (x : Int32) (hj : j < 12200) : stA M 0 333 (Int32.ofNat j) x = some (sI M 333 j x) := s_A x ((h.1 333 (by decide)).trans rfl) hj (by decide)
theorem al333 {M : Gm} (h : Ky M) : alen M 333 = some (Int32.ofNat 12200) := a_len (t := 0) ((h.1 333 (by decide)).trans rfl) (by decide)
theorem ld334 {M : Gm} (h : Ky M) {j : Nat} (hj : j < 8) : ldA M 0 334 (Int32.ofNat j) = some (M.1 334 j) := l_A ((h.1 334 (by decide)).trans rfl) hj (by decide)
theorem st334 {M : Gm} (h : Ky M) {j : Nat} (x : Int32) (hj : j < 8) : stA M 0 334 (Int32.ofNat j) x = some (sI M 334 j x) := s_A x ((h.1 334 (by decide)).trans rfl) hj (by decide)
theorem al334 {M : Gm} (h : Ky M) : alen M 334 = some (Int32.ofNat 8) := a_len (t := 0) ((h.1 334 (by decide)).trans rfl) (by decide)
theorem ld335 {M : Gm} (h : Ky M) {j : Nat} (hj : j < 8) : ldA M 0 335 (Int32.ofNat j) = some (M.1 335 j) := l_A ((h.1 335 (by decide)).trans rfl) hj (by decide)
theorem st335 {M : Gm} (h : Ky M) {j : Nat} (x : Int32) (hj : j < 8) : stA M 0 335 (Int32.ofNat j) x = some (sI M 335 j x) := s_A x ((h.1 335 (by decide)).trans rfl) hj (by decide)
theorem al335 {M : Gm} (h : Ky M) : alen M 335 = some (Int32.ofNat 8) := a_len (t := 0) ((h.1 335 (by decide)).trans rfl) (by decide)
theorem ld336 {M : Gm} (h : Ky M) {j : Nat} (hj : j < 8) : ldA M 0 336 (Int32.ofNat j) = some (M.1 336 j) := l_A ((h.1 336 (by decide)).trans rfl) hj (by decide)
theorem st336 {M : Gm} (h : Ky M) {j : Nat} (x : Int32) (hj : j < 8) : stA M 0 336 (Int32.ofNat j) x = some (sI M 336 j x) := s_A x ((h.1 336 (by decide)).trans rfl) hj (by decide)
theorem al336 {M : Gm} (h : Ky M) : alen M 336 = some (Int32.ofNat 8) := a_len (t := 0) ((h.1 336 (by decide)).trans rfl) (by decide)
theorem ld337 {M : Gm} (h : Ky M) {j : Nat} (hj : j < 51) : ldA M 2 337 (Int32.ofNat j) = some (M.1 337 j) := l_A ((h.1 337 (by decide)).trans rfl) hj (by decide)
theorem st337 {M : Gm} (h : Ky M) {j : Nat} (x : Int32) (hj : j < 51) : stA M 2 337 (Int32.ofNat j) x = some (sI M 337 j x) := s_A x ((h.1 337 (by decide)).trans rfl) hj (by decide)
theorem al337 {M : Gm} (h : Ky M) : alen M 337 = some (Int32.ofNat 51) := a_len (t := 2) ((h.1 337 (by decide)).trans rfl) (by decide)
theorem ld338 {M : Gm} (h : Ky M) {j : Nat} (hj : j < 1071) : ldA M 0 338 (Int32.ofNat j) = some (M.1 338 j) := l_A ((h.1 338 (by decide)).trans rfl) hj (by decide)
theorem st338 {M : Gm} (h : Ky M) {j : Nat} (x : Int32) (hj : j < 1071) : stA M 0 338 (Int32.ofNat j) x = some (sI M 338 j x) := s_A x ((h.1 338 (by decide)).trans rfl) hj (by decide)
theorem al338 {M : Gm} (h : Ky M) : alen M 338 = some (Int32.ofNat 1071) := a_len (t := 0) ((h.1 338 (by decide)).trans rfl) (by decide)
theorem ld339 {M : Gm} (h : Ky M) {j : Nat} (hj : j < 305) : ldA M 0 339 (Int32.ofNat j) = some (M.1 339 j) := l_A ((h.1 339 (by decide)).trans rfl) hj (by decide)
theorem st339 {M : Gm} (h : Ky M) {j : Nat} (x : Int32) (hj : j < 305) : stA M 0 339 (Int32.ofNat j) x = some (sI M 339 j x) := s_A x ((h.1 339 (by decide)).trans rfl) hj (by decide)
theorem al339 {M : Gm} (h : Ky M) : alen M 339 = some (Int32.ofNat 305) := a_len (t := 0) ((h.1 339 (by decide)).trans rfl) (by decide)
theorem ld340 {M : Gm} (h : Ky M) {j : Nat} (hj : j < 12200) : ldA M 0 340 (Int32.ofNat j) = some (M.1 340 j) := l_A ((h.1 340 (by decide)).trans rfl) hj (by decide)
theorem st340 {M : Gm} (h : Ky M) {j : Nat} (x : Int32) (hj : j < 12200) : stA M 0 340 (Int32.ofNat j) x = some (sI M 340 j x) := s_A x ((h.1 340 (by decide)).trans rfl) hj (by decide)
theorem al340 {M : Gm} (h : Ky M) : alen M 340 = some (Int32.ofNat 12200) := a_len (t := 0) ((h.1 340 (by decide)).trans rfl) (by decide)
theorem ld341 {M : Gm} (h : Ky M) {j : Nat} (hj : j < 8) : ldA M 0 341 (Int32.ofNat j) = some (M.1 341 j) := l_A ((h.1 341 (by decide)).trans rfl) hj (by decide)
theorem st341 {M : Gm} (h : Ky M) {j : Nat} (x : Int32) (hj : j < 8) : stA M 0 341 (Int32.ofNat j) x = some (sI M 341 j x) := s_A x ((h.1 341 (by decide)).trans rfl) hj (by decide)
theorem al341 {M : Gm} (h : Ky M) : alen M 341 = some (Int32.ofNat 8) := a_len (t := 0) ((h.1 341 (by decide)).trans rfl) (by decide)
theorem ld342 {M : Gm} (h : Ky M) {j : Nat} (hj : j < 8) : ldA M 0 342 (Int32.ofNat j) = some (M.1 342 j) := l_A ((h.1 342 (by decide)).trans rfl) hj (by decide)
theorem st342 {M : Gm} (h : Ky M) {j : Nat} (x : Int32) (hj : j < 8) : stA M 0 342 (Int32.ofNat j) x = some (sI M 342 j x) := s_A x ((h.1 342 (by decide)).trans rfl) hj (by decide)
theorem al342 {M : Gm} (h : Ky M) : alen M 342 = some (Int32.ofNat 8) := a_len (t := 0) ((h.1 342 (by decide)).trans rfl) (by decide)
theorem ld343 {M : Gm} (h : Ky M) {j : Nat} (hj : j < 8) : ldA M 0 343 (Int32.ofNat j) = some (M.1 343 j) := l_A ((h.1 343 (by decide)).trans rfl) hj (by decide)
theorem st343 {M : Gm} (h : Ky M) {j : Nat} (x : Int32) (hj : j < 8) : stA M 0 343 (Int32.ofNat j) x = some (sI M 343 j x) := s_A x ((h.1 343 (by decide)).trans rfl) hj (by decide)
theorem al343 {M : Gm} (h : Ky M) : alen M 343 = some (Int32.ofNat 8) := a_len (t := 0) ((h.1 343 (by decide)).trans rfl) (by decide)
theorem ld344 {M : Gm} (h : Ky M) {j : Nat} (hj : j < 3) : ldA M 0 344 (Int32.ofNat j) = some (M.1 344 j) := l_A ((h.1 344 (by decide)).trans rfl) hj (by decide)
theorem st344 {M : Gm} (h : Ky M) {j : Nat} (x : Int32) (hj : j < 3) : stA M 0 344 (Int32.ofNat j) x = some (sI M 344 j x) := s_A x ((h.1 344 (by decide)).trans rfl) hj (by decide)
theorem al344 {M : Gm} (h : Ky M) : alen M 344 = some (Int32.ofNat 3) := a_len (t := 0) ((h.1 344 (by decide)).trans rfl) (by decide)
theorem ld345 {M : Gm} (h : Ky M) {j : Nat} (hj : j < 1) : ldA M 3 345 (Int32.ofNat j) = some (M.1 345 j) := l_A ((h.1 345 (by decide)).trans rfl) hj (by decide)
theorem st345 {M : Gm} (h : Ky M) {j : Nat} (x : Int32) (hj : j < 1) : stA M 3 345 (Int32.ofNat j) x = some (sI M 345 j x) := s_A x ((h.1 345 (by decide)).trans rfl) hj (by decide)
theorem al345 {M : Gm} (h : Ky M) : alen M 345 = some (Int32.ofNat 1) := a_len (t := 3) ((h.1 345 (by decide)).trans rfl) (by decide)
theorem ix0 (j : Nat) : (0 : Int32) + Int32.ofNat j = Int32.ofNat (0 + j) := (Int32.ofNat_add 0 j).symm
theorem ix1 (j : Nat) : (1 : Int32) + Int32.ofNat j = Int32.ofNat (1 + j) := (Int32.ofNat_add 1 j).symm
theorem ix5 (j : Nat) : (5 : Int32) + Int32.ofNat j = Int32.ofNat (5 + j) := (Int32.ofNat_add 5 j).symm
theorem ix10 (j : Nat) : (10 : Int32) + Int32.ofNat j = Int32.ofNat (10 + j) := (Int32.ofNat_add 10 j).symm
theorem ix15 (j : Nat) : (15 : Int32) + Int32.ofNat j = Int32.ofNat (15 + j) := (Int32.ofNat_add 15 j).symm
theorem ix20 (j : Nat) : (20 : Int32) + Int32.ofNat j = Int32.ofNat (20 + j) := (Int32.ofNat_add 20 j).symm
theorem ix25 (j : Nat) : (25 : Int32) + Int32.ofNat j = Int32.ofNat (25 + j) := (Int32.ofNat_add 25 j).symm
theorem ix30 (j : Nat) : (30 : Int32) + Int32.ofNat j = Int32.ofNat (30 + j) := (Int32.ofNat_add 30 j).symm
theorem ix35 (j : Nat) : (35 : Int32) + Int32.ofNat j = Int32.ofNat (35 + j) := (Int32.ofNat_add 35 j).symm
theorem ix45 (j : Nat) : (45 : Int32) + Int32.ofNat j = Int32.ofNat (45 + j) := (Int32.ofNat_add 45 j).symm
theorem ix50 (j : Nat) : (50 : Int32) + Int32.ofNat j = Int32.ofNat (50 + j) := (Int32.ofNat_add 50 j).symm
theorem ix55 (j : Nat) : (55 : Int32) + Int32.ofNat j = Int32.ofNat (55 + j) := (Int32.ofNat_add 55 j).symm
theorem ix60 (j : Nat) : (60 : Int32) + Int32.ofNat j = Int32.ofNat (60 + j) := (Int32.ofNat_add 60 j).symm
theorem ix61 (j : Nat) : (61 : Int32) + Int32.ofNat j = Int32.ofNat (61 + j) := (Int32.ofNat_add 61 j).symm
theorem ix67 (j : Nat) : (67 : Int32) + Int32.ofNat j = Int32.ofNat (67 + j) := (Int32.ofNat_add 67 j).symm
theorem ix70 (j : Nat) : (70 : Int32) + Int32.ofNat j = Int32.ofNat (70 + j) := (Int32.ofNat_add 70 j).symm
theorem ix73 (j : Nat) : (73 : Int32) + Int32.ofNat j = Int32.ofNat (73 + j) := (Int32.ofNat_add 73 j).symm
theorem ix76 (j : Nat) : (76 : Int32) + Int32.ofNat j = Int32.ofNat (76 + j) := (Int32.ofNat_add 76 j).symm
theorem ix79 (j : Nat) : (79 : Int32) + Int32.ofNat j = Int32.ofNat (79 + j) := (Int32.ofNat_add 79 j).symm
theorem ix82 (j : Nat) : (82 : Int32) + Int32.ofNat j = Int32.ofNat (82 + j) := (Int32.ofNat_add 82 j).symm
theorem ix139 (j : Nat) : (139 : Int32) + Int32.ofNat j = Int32.ofNat (139 + j) := (Int32.ofNat_add 139 j).symm
theorem ix145 (j : Nat) : (145 : Int32) + Int32.ofNat j = Int32.ofNat (145 + j) := (Int32.ofNat_add 145 j).symm
theorem ix147 (j : Nat) : (147 : Int32) + Int32.ofNat j = Int32.ofNat (147 + j) := (Int32.ofNat_add 147 j).symm
theorem ix155 (j : Nat) : (155 : Int32) + Int32.ofNat j = Int32.ofNat (155 + j) := (Int32.ofNat_add 155 j).symm
theorem ix163 (j : Nat) : (163 : Int32) + Int32.ofNat j = Int32.ofNat (163 + j) := (Int32.ofNat_add 163 j).symm
