/-! ===== DRAFT 2: one more TRIP, DEVICE, WALL; FORESEEN ===== -/
section
variable {C C' : Gm} {D : Nat} {N N' T T' : Nat → Int32} {L : List (Nat × Nat)}
/-- one more TRIP -/
theorem TOk.trip (h : TOk T) {t : Nat} (hv : tt T = t) (v5 : t < 10) (same : ∀ k, k ≠ 15 + t → k ≠ 25 + t → k ≠ 35 + t → k ≠ 45 + t → k ≠ 164 → T' k = T k) (h3 : T' 164 = Int32.ofNat (t + 1)) (v : (∃ z, z < tz T ∧ T' (15 + t) = Int32.ofNat z) ∧ isN (T' (25 + t)) 0 3 ∧ isN (T' (35 + t)) 200 999 ∧ isN (T' (45 + t)) 0 99) (uq : T' (25 + t) = 3 → ∀ u, u < t → ¬ (T (15 + u) = T' (15 + t) ∧ T (25 + u) = 3)) : TOk T' ∧ tz T' = tz T ∧ tt T' = t + 1 ∧ td T' = td T ∧ tw T' = tw T := by
  have e163 : tz T' = tz T := by unfold tz; rw [same 163 (by omega) (by omega) (by omega) (by omega) (by omega)]
  have e164 : tt T' = t + 1 := n_up h3 (by omega)
  have e165 : td T' = td T := by unfold td; rw [same 165 (by omega) (by omega) (by omega) (by omega) (by omega)]
  have e167 : tw T' = tw T := by unfold tw; rw [same 167 (by omega) (by omega) (by omega) (by omega) (by omega)]
  refine ⟨?_, e163, e164, e165, e167⟩
  have z5 := h.z.2
  have t10 := h.t.2
  have d6 := h.d.2
  have w8 := h.w.2
  obtain ⟨⟨a1, a2, a3, a4⟩, b, c, d, e, f, g⟩ := h
  unfold TOk
  rw [e163, e164, e165, e167, same 163 (by omega) (by omega) (by omega) (by omega) (by omega), same 165 (by omega) (by omega) (by omega) (by omega) (by omega), same 167 (by omega) (by omega) (by omega) (by omega) (by omega)]
  refine ⟨⟨a1, ⟨h3, by omega⟩, a3, a4⟩, fun y hy => ?_, fun i hi => ?_, fun i hi => ?_, fun i j hi hj => ?_, fun i hi => ?_, fun i u hi hu => ?_⟩
  · rw [same y (by omega) (by omega) (by omega) (by omega) (by omega), same (5 + y) (by omega) (by omega) (by omega) (by omega) (by omega), same (10 + y) (by omega) (by omega) (by omega) (by omega) (by omega)]
    exact b y hy
  · by_cases q : i = t
    · rw [q]; exact v
    · rw [same (15 + i) (by omega) (by omega) (by omega) (by omega) (by omega), same (25 + i) (by omega) (by omega) (by omega) (by omega) (by omega), same (35 + i) (by omega) (by omega) (by omega) (by omega) (by omega), same (45 + i) (by omega) (by omega) (by omega) (by omega) (by omega)]
      exact c i (by omega)
  · rw [same (55 + i) (by omega) (by omega) (by omega) (by omega) (by omega), same (61 + i) (by omega) (by omega) (by omega) (by omega) (by omega), same (67 + i) (by omega) (by omega) (by omega) (by omega) (by omega), same (73 + i) (by omega) (by omega) (by omega) (by omega) (by omega)]
    exact d i hi
  · rw [same _ (by omega) (by omega) (by omega) (by omega) (by omega)]
    refine ⟨(e i j hi hj).1, fun q => ?_⟩
    have := (e i j hi hj).2 q
    rw [same (25 + i) (by omega) (by omega) (by omega) (by omega) (by omega)]
    exact ⟨by omega, this.2⟩
  · rw [same (139 + i) (by omega) (by omega) (by omega) (by omega) (by omega), same (147 + i) (by omega) (by omega) (by omega) (by omega) (by omega), same (155 + i) (by omega) (by omega) (by omega) (by omega) (by omega)]
    exact f i hi
  · by_cases q1 : i = t
    · by_cases q2 : u = t
      · intro _ _ _; omega
      · subst q1
        rw [same (25 + u) (by omega) (by omega) (by omega) (by omega) (by omega), same (15 + u) (by omega) (by omega) (by omega) (by omega) (by omega)]
        intro k1 k2 k3
        exact absurd ⟨k3.symm, k2⟩ (uq k1 u (by omega))
    · by_cases q2 : u = t
      · subst q2
        rw [same (25 + i) (by omega) (by omega) (by omega) (by omega) (by omega), same (15 + i) (by omega) (by omega) (by omega) (by omega) (by omega)]
        intro k1 k2 k3
        exact absurd ⟨k3, k1⟩ (uq k2 i (by omega))
      · rw [same (25 + i) (by omega) (by omega) (by omega) (by omega) (by omega), same (25 + u) (by omega) (by omega) (by omega) (by omega) (by omega), same (15 + i) (by omega) (by omega) (by omega) (by omega) (by omega), same (15 + u) (by omega) (by omega) (by omega) (by omega) (by omega)]
        exact g i u (by omega) (by omega)
theorem DrV.trip (h : DrV C D N T) (pk : PlK C D) {t : Nat} (hv : tt T = t) (v5 : t < 10) (same : ∀ k, k ≠ 15 + t → k ≠ 25 + t → k ≠ 35 + t → k ≠ 45 + t → k ≠ 164 → T' k = T k) (h3 : T' 164 = Int32.ofNat (t + 1)) (v : (∃ z, z < tz T ∧ T' (15 + t) = Int32.ofNat z) ∧ isN (T' (25 + t)) 0 3 ∧ isN (T' (35 + t)) 200 999 ∧ isN (T' (45 + t)) 0 99) (uq : T' (25 + t) = 3 → ∀ u, u < t → ¬ (T (15 + u) = T' (15 + t) ∧ T (25 + u) = 3))
    (e2 : C'.2 = C.2) (eC : ∀ a, D < a → a ≤ D + 94 → a ≠ D + 11 + t → C'.1 a = C.1 a) (eD : ∀ k, k ≠ 6 → C'.1 D k = C.1 D k) (e5 : C'.1 D 6 = Int32.ofNat (t + 1)) (eZ : C'.1 (D + 11 + t) 0 = T' (15 + t) ∧ C'.1 (D + 11 + t) 1 = T' (25 + t) ∧ C'.1 (D + 11 + t) 2 = T' (35 + t) ∧ C'.1 (D + 11 + t) 3 = T' (45 + t)) : DrV C' D N T' := by
  obtain ⟨hT, ⟨a5, a6, a7, a9, a10, a11⟩, b, c, d, ⟨L, l⟩, f, g⟩ := h
  obtain ⟨hT', ez, et, ed, ew⟩ := hT.trip hv v5 same h3 v uq
  have z5 := hT.z.2
  have t10 := hT.t.2
  have d6 := hT.d.2
  have w8 := hT.w.2
  unfold DrV
  rw [ez, et, ed, ew]
  refine ⟨hT', ⟨?_, ?_, ?_, ?_, ?_, a11⟩, fun y hy => ?_, fun i hi => ?_, fun i hi => ?_, ⟨L, l.q pk e2 (eD 8 (by omega)) (fun a h1 h2 => eC a (by omega) (by omega) (by omega)) (fun k h1 h2 => same k (by omega) (by omega) (by omega) (by omega) (by omega)) (same 166 (by omega) (by omega) (by omega) (by omega) (by omega))⟩, fun i hi => ?_, g⟩
  · rw [eD 5 (by omega), same 163 (by omega) (by omega) (by omega) (by omega) (by omega)]; exact a5
  · exact e5.trans h3.symm
  · rw [eD 7 (by omega), same 165 (by omega) (by omega) (by omega) (by omega) (by omega)]; exact a7
  · rw [eD 9 (by omega), same 167 (by omega) (by omega) (by omega) (by omega) (by omega)]; exact a9
  · rw [eD 10 (by omega)]; exact a10
  · rw [eC (D + 6 + y) (by omega) (by omega) (by omega), same y (by omega) (by omega) (by omega) (by omega) (by omega), same (5 + y) (by omega) (by omega) (by omega) (by omega) (by omega), same (10 + y) (by omega) (by omega) (by omega) (by omega) (by omega)]
    exact b y hy
  · by_cases q : i = t
    · rw [q]; exact eZ
    · rw [eC (D + 11 + i) (by omega) (by omega) (by omega), same (15 + i) (by omega) (by omega) (by omega) (by omega) (by omega), same (25 + i) (by omega) (by omega) (by omega) (by omega) (by omega), same (35 + i) (by omega) (by omega) (by omega) (by omega) (by omega), same (45 + i) (by omega) (by omega) (by omega) (by omega) (by omega)]
      exact c i (by omega)
  · rw [eC (D + 21 + i) (by omega) (by omega) (by omega), same (55 + i) (by omega) (by omega) (by omega) (by omega) (by omega), same (61 + i) (by omega) (by omega) (by omega) (by omega) (by omega), same (67 + i) (by omega) (by omega) (by omega) (by omega) (by omega), same (73 + i) (by omega) (by omega) (by omega) (by omega) (by omega)]
    exact d i hi
  · rw [eC (D + 87 + i) (by omega) (by omega) (by omega), same (139 + i) (by omega) (by omega) (by omega) (by omega) (by omega), same (147 + i) (by omega) (by omega) (by omega) (by omega) (by omega), same (155 + i) (by omega) (by omega) (by omega) (by omega) (by omega)]
    exact f i hi
/-- one more DEVICE -/
theorem TOk.device (h : TOk T) {x : Nat} (hv : td T = x) (v5 : x < 6) (same : ∀ k, k ≠ 55 + x → k ≠ 61 + x → k ≠ 67 + x → k ≠ 73 + x → k ≠ 165 → T' k = T k) (h3 : T' 165 = Int32.ofNat (x + 1)) (v : isN (T' (55 + x)) 0 2 ∧ (∃ z, z < tz T ∧ T' (61 + x) = Int32.ofNat z) ∧ isN (T' (67 + x)) 1 9 ∧ isN (T' (73 + x)) 0 30) : TOk T' ∧ tz T' = tz T ∧ tt T' = tt T ∧ td T' = x + 1 ∧ tw T' = tw T := by
  have e163 : tz T' = tz T := by unfold tz; rw [same 163 (by omega) (by omega) (by omega) (by omega) (by omega)]
  have e164 : tt T' = tt T := by unfold tt; rw [same 164 (by omega) (by omega) (by omega) (by omega) (by omega)]
  have e165 : td T' = x + 1 := n_up h3 (by omega)
  have e167 : tw T' = tw T := by unfold tw; rw [same 167 (by omega) (by omega) (by omega) (by omega) (by omega)]
  refine ⟨?_, e163, e164, e165, e167⟩
  have z5 := h.z.2
  have t10 := h.t.2
  have d6 := h.d.2
  have w8 := h.w.2
  obtain ⟨⟨a1, a2, a3, a4⟩, b, c, d, e, f, g⟩ := h
  unfold TOk
  rw [e163, e164, e165, e167, same 163 (by omega) (by omega) (by omega) (by omega) (by omega), same 164 (by omega) (by omega) (by omega) (by omega) (by omega), same 167 (by omega) (by omega) (by omega) (by omega) (by omega)]
  refine ⟨⟨a1, a2, ⟨h3, by omega⟩, a4⟩, fun y hy => ?_, fun i hi => ?_, fun i hi => ?_, fun i j hi hj => ?_, fun i hi => ?_, fun i u hi hu => ?_⟩
  · rw [same y (by omega) (by omega) (by omega) (by omega) (by omega), same (5 + y) (by omega) (by omega) (by omega) (by omega) (by omega), same (10 + y) (by omega) (by omega) (by omega) (by omega) (by omega)]
    exact b y hy
  · rw [same (15 + i) (by omega) (by omega) (by omega) (by omega) (by omega), same (25 + i) (by omega) (by omega) (by omega) (by omega) (by omega), same (35 + i) (by omega) (by omega) (by omega) (by omega) (by omega), same (45 + i) (by omega) (by omega) (by omega) (by omega) (by omega)]
    exact c i hi
  · by_cases q : i = x
    · rw [q]; exact v
    · rw [same (55 + i) (by omega) (by omega) (by omega) (by omega) (by omega), same (61 + i) (by omega) (by omega) (by omega) (by omega) (by omega), same (67 + i) (by omega) (by omega) (by omega) (by omega) (by omega), same (73 + i) (by omega) (by omega) (by omega) (by omega) (by omega)]
      exact d i (by omega)
  · rw [same _ (by omega) (by omega) (by omega) (by omega) (by omega), same (25 + i) (by omega) (by omega) (by omega) (by omega) (by omega)]
    refine ⟨(e i j hi hj).1, fun q => ?_⟩
    have := (e i j hi hj).2 q
    exact ⟨by omega, by omega, this.2.2⟩
  · rw [same (139 + i) (by omega) (by omega) (by omega) (by omega) (by omega), same (147 + i) (by omega) (by omega) (by omega) (by omega) (by omega), same (155 + i) (by omega) (by omega) (by omega) (by omega) (by omega)]
    exact f i hi
  · rw [same (25 + i) (by omega) (by omega) (by omega) (by omega) (by omega), same (25 + u) (by omega) (by omega) (by omega) (by omega) (by omega), same (15 + i) (by omega) (by omega) (by omega) (by omega) (by omega), same (15 + u) (by omega) (by omega) (by omega) (by omega) (by omega)]
    exact g i u hi hu
theorem DrV.device (h : DrV C D N T) (pk : PlK C D) {x : Nat} (hv : td T = x) (v5 : x < 6) (same : ∀ k, k ≠ 55 + x → k ≠ 61 + x → k ≠ 67 + x → k ≠ 73 + x → k ≠ 165 → T' k = T k) (h3 : T' 165 = Int32.ofNat (x + 1)) (v : isN (T' (55 + x)) 0 2 ∧ (∃ z, z < tz T ∧ T' (61 + x) = Int32.ofNat z) ∧ isN (T' (67 + x)) 1 9 ∧ isN (T' (73 + x)) 0 30)
    (e2 : C'.2 = C.2) (eC : ∀ a, D < a → a ≤ D + 94 → a ≠ D + 21 + x → C'.1 a = C.1 a) (eD : ∀ k, k ≠ 7 → C'.1 D k = C.1 D k) (e5 : C'.1 D 7 = Int32.ofNat (x + 1)) (eZ : C'.1 (D + 21 + x) 0 = T' (55 + x) ∧ C'.1 (D + 21 + x) 1 = T' (61 + x) ∧ C'.1 (D + 21 + x) 2 = T' (67 + x) ∧ C'.1 (D + 21 + x) 3 = T' (73 + x)) : DrV C' D N T' := by
  obtain ⟨hT, ⟨a5, a6, a7, a9, a10, a11⟩, b, c, d, ⟨L, l⟩, f, g⟩ := h
  obtain ⟨hT', ez, et, ed, ew⟩ := hT.device hv v5 same h3 v
  have z5 := hT.z.2
  have t10 := hT.t.2
  have d6 := hT.d.2
  have w8 := hT.w.2
  unfold DrV
  rw [ez, et, ed, ew]
  refine ⟨hT', ⟨?_, ?_, ?_, ?_, ?_, a11⟩, fun y hy => ?_, fun i hi => ?_, fun i hi => ?_, ⟨L, l.q pk e2 (eD 8 (by omega)) (fun a h1 h2 => eC a (by omega) (by omega) (by omega)) (fun k h1 h2 => same k (by omega) (by omega) (by omega) (by omega) (by omega)) (same 166 (by omega) (by omega) (by omega) (by omega) (by omega))⟩, fun i hi => ?_, g⟩
  · rw [eD 5 (by omega), same 163 (by omega) (by omega) (by omega) (by omega) (by omega)]; exact a5
  · rw [eD 6 (by omega), same 164 (by omega) (by omega) (by omega) (by omega) (by omega)]; exact a6
  · exact e5.trans h3.symm
  · rw [eD 9 (by omega), same 167 (by omega) (by omega) (by omega) (by omega) (by omega)]; exact a9
  · rw [eD 10 (by omega)]; exact a10
  · rw [eC (D + 6 + y) (by omega) (by omega) (by omega), same y (by omega) (by omega) (by omega) (by omega) (by omega), same (5 + y) (by omega) (by omega) (by omega) (by omega) (by omega), same (10 + y) (by omega) (by omega) (by omega) (by omega) (by omega)]
    exact b y hy
  · rw [eC (D + 11 + i) (by omega) (by omega) (by omega), same (15 + i) (by omega) (by omega) (by omega) (by omega) (by omega), same (25 + i) (by omega) (by omega) (by omega) (by omega) (by omega), same (35 + i) (by omega) (by omega) (by omega) (by omega) (by omega), same (45 + i) (by omega) (by omega) (by omega) (by omega) (by omega)]
    exact c i hi
  · by_cases q : i = x
    · rw [q]; exact eZ
    · rw [eC (D + 21 + i) (by omega) (by omega) (by omega), same (55 + i) (by omega) (by omega) (by omega) (by omega) (by omega), same (61 + i) (by omega) (by omega) (by omega) (by omega) (by omega), same (67 + i) (by omega) (by omega) (by omega) (by omega) (by omega), same (73 + i) (by omega) (by omega) (by omega) (by omega) (by omega)]
      exact d i (by omega)
  · rw [eC (D + 87 + i) (by omega) (by omega) (by omega), same (139 + i) (by omega) (by omega) (by omega) (by omega) (by omega), same (147 + i) (by omega) (by omega) (by omega) (by omega) (by omega), same (155 + i) (by omega) (by omega) (by omega) (by omega) (by omega)]
    exact f i hi
/-- one more WALL -/
theorem TOk.wall (h : TOk T) {w : Nat} (hv : tw T = w) (v5 : w < 8) (same : ∀ k, k ≠ 139 + w → k ≠ 147 + w → k ≠ 155 + w → k ≠ 167 → T' k = T k) (h3 : T' 167 = Int32.ofNat (w + 1)) (v : (∃ a b, a < tz T ∧ b < tz T ∧ a ≠ b ∧ T' (139 + w) = Int32.ofNat a ∧ T' (147 + w) = Int32.ofNat b) ∧ isN (T' (155 + w)) 1 50) : TOk T' ∧ tz T' = tz T ∧ tt T' = tt T ∧ td T' = td T ∧ tw T' = w + 1 := by
  have e163 : tz T' = tz T := by unfold tz; rw [same 163 (by omega) (by omega) (by omega) (by omega)]
  have e164 : tt T' = tt T := by unfold tt; rw [same 164 (by omega) (by omega) (by omega) (by omega)]
  have e165 : td T' = td T := by unfold td; rw [same 165 (by omega) (by omega) (by omega) (by omega)]
  have e167 : tw T' = w + 1 := n_up h3 (by omega)
  refine ⟨?_, e163, e164, e165, e167⟩
  have z5 := h.z.2
  have t10 := h.t.2
  have d6 := h.d.2
  have w8 := h.w.2
  obtain ⟨⟨a1, a2, a3, a4⟩, b, c, d, e, f, g⟩ := h
  unfold TOk
  rw [e163, e164, e165, e167, same 163 (by omega) (by omega) (by omega) (by omega), same 164 (by omega) (by omega) (by omega) (by omega), same 165 (by omega) (by omega) (by omega) (by omega)]
  refine ⟨⟨a1, a2, a3, ⟨h3, by omega⟩⟩, fun y hy => ?_, fun i hi => ?_, fun i hi => ?_, fun i j hi hj => ?_, fun i hi => ?_, fun i u hi hu => ?_⟩
  · rw [same y (by omega) (by omega) (by omega) (by omega), same (5 + y) (by omega) (by omega) (by omega) (by omega), same (10 + y) (by omega) (by omega) (by omega) (by omega)]
    exact b y hy
  · rw [same (15 + i) (by omega) (by omega) (by omega) (by omega), same (25 + i) (by omega) (by omega) (by omega) (by omega), same (35 + i) (by omega) (by omega) (by omega) (by omega), same (45 + i) (by omega) (by omega) (by omega) (by omega)]
    exact c i hi
  · rw [same (55 + i) (by omega) (by omega) (by omega) (by omega), same (61 + i) (by omega) (by omega) (by omega) (by omega), same (67 + i) (by omega) (by omega) (by omega) (by omega), same (73 + i) (by omega) (by omega) (by omega) (by omega)]
    exact d i hi
  · rw [same _ (by omega) (by omega) (by omega) (by omega), same (25 + i) (by omega) (by omega) (by omega) (by omega)]
    refine ⟨(e i j hi hj).1, fun q => ?_⟩
    have := (e i j hi hj).2 q
    exact ⟨by omega, by omega, this.2.2⟩
  · by_cases q : i = w
    · rw [q]; exact v
    · rw [same (139 + i) (by omega) (by omega) (by omega) (by omega), same (147 + i) (by omega) (by omega) (by omega) (by omega), same (155 + i) (by omega) (by omega) (by omega) (by omega)]
      exact f i (by omega)
  · rw [same (25 + i) (by omega) (by omega) (by omega) (by omega), same (25 + u) (by omega) (by omega) (by omega) (by omega), same (15 + i) (by omega) (by omega) (by omega) (by omega), same (15 + u) (by omega) (by omega) (by omega) (by omega)]
    exact g i u hi hu
theorem DrV.wall (h : DrV C D N T) (pk : PlK C D) {w : Nat} (hv : tw T = w) (v5 : w < 8) (same : ∀ k, k ≠ 139 + w → k ≠ 147 + w → k ≠ 155 + w → k ≠ 167 → T' k = T k) (h3 : T' 167 = Int32.ofNat (w + 1)) (v : (∃ a b, a < tz T ∧ b < tz T ∧ a ≠ b ∧ T' (139 + w) = Int32.ofNat a ∧ T' (147 + w) = Int32.ofNat b) ∧ isN (T' (155 + w)) 1 50)
    (e2 : C'.2 = C.2) (eC : ∀ a, D < a → a ≤ D + 94 → a ≠ D + 87 + w → C'.1 a = C.1 a) (eD : ∀ k, k ≠ 9 → C'.1 D k = C.1 D k) (e5 : C'.1 D 9 = Int32.ofNat (w + 1)) (eZ : C'.1 (D + 87 + w) 0 = T' (139 + w) ∧ C'.1 (D + 87 + w) 1 = T' (147 + w) ∧ C'.1 (D + 87 + w) 2 = T' (155 + w)) : DrV C' D N T' := by
  obtain ⟨hT, ⟨a5, a6, a7, a9, a10, a11⟩, b, c, d, ⟨L, l⟩, f, g⟩ := h
  obtain ⟨hT', ez, et, ed, ew⟩ := hT.wall hv v5 same h3 v
  have z5 := hT.z.2
  have t10 := hT.t.2
  have d6 := hT.d.2
  have w8 := hT.w.2
  unfold DrV
  rw [ez, et, ed, ew]
  refine ⟨hT', ⟨?_, ?_, ?_, ?_, ?_, a11⟩, fun y hy => ?_, fun i hi => ?_, fun i hi => ?_, ⟨L, l.q pk e2 (eD 8 (by omega)) (fun a h1 h2 => eC a (by omega) (by omega) (by omega)) (fun k h1 h2 => same k (by omega) (by omega) (by omega) (by omega)) (same 166 (by omega) (by omega) (by omega) (by omega))⟩, fun i hi => ?_, g⟩
  · rw [eD 5 (by omega), same 163 (by omega) (by omega) (by omega) (by omega)]; exact a5
  · rw [eD 6 (by omega), same 164 (by omega) (by omega) (by omega) (by omega)]; exact a6
  · rw [eD 7 (by omega), same 165 (by omega) (by omega) (by omega) (by omega)]; exact a7
  · exact e5.trans h3.symm
  · rw [eD 10 (by omega)]; exact a10
  · rw [eC (D + 6 + y) (by omega) (by omega) (by omega), same y (by omega) (by omega) (by omega) (by omega), same (5 + y) (by omega) (by omega) (by omega) (by omega), same (10 + y) (by omega) (by omega) (by omega) (by omega)]
    exact b y hy
  · rw [eC (D + 11 + i) (by omega) (by omega) (by omega), same (15 + i) (by omega) (by omega) (by omega) (by omega), same (25 + i) (by omega) (by omega) (by omega) (by omega), same (35 + i) (by omega) (by omega) (by omega) (by omega), same (45 + i) (by omega) (by omega) (by omega) (by omega)]
    exact c i hi
  · rw [eC (D + 21 + i) (by omega) (by omega) (by omega), same (55 + i) (by omega) (by omega) (by omega) (by omega), same (61 + i) (by omega) (by omega) (by omega) (by omega), same (67 + i) (by omega) (by omega) (by omega) (by omega), same (73 + i) (by omega) (by omega) (by omega) (by omega)]
    exact d i hi
  · by_cases q : i = w
    · rw [q]; exact eZ
    · rw [eC (D + 87 + i) (by omega) (by omega) (by omega), same (139 + i) (by omega) (by omega) (by omega) (by omega), same (147 + i) (by omega) (by omega) (by omega) (by omega), same (155 + i) (by omega) (by omega) (by omega) (by omega)]
      exact f i (by omega)
/-- FORESEEN -/
theorem DrV.seen (h : DrV C D N T) (pk : PlK C D) (sN : ∀ k, k ≠ 143 → N' k = N k) (vN : isN (N' 143) 0 9) (e2 : C'.2 = C.2) (eC : ∀ a, D < a → a ≤ D + 94 → C'.1 a = C.1 a) (eD : ∀ k, k < 10 → C'.1 D k = C.1 D k) (e10 : C'.1 D 10 = N' 143) : DrV C' D N' T := by
  obtain ⟨hT, ⟨a5, a6, a7, a9, a10, a11⟩, b, c, d, ⟨L, l⟩, f, g⟩ := h
  have z5 := hT.z.2
  have t10 := hT.t.2
  have d6 := hT.d.2
  have w8 := hT.w.2
  refine ⟨hT, ⟨by rw [eD 5 (by omega)]; exact a5, by rw [eD 6 (by omega)]; exact a6, by rw [eD 7 (by omega)]; exact a7, by rw [eD 9 (by omega)]; exact a9, e10, vN⟩, fun y hy => ?_, fun i hi => ?_, fun i hi => ?_, ⟨L, l.q pk e2 (eD 8 (by omega)) (fun a h1 h2 => eC a (by omega) (by omega)) (fun _ _ _ => rfl) rfl⟩, fun i hi => ?_, fun k h1 h2 h4 => by rw [sN k h4]; exact g k h1 h2 h4⟩
  · rw [eC (D + 6 + y) (by omega) (by omega), sN (5 + y) (by omega)]; exact b y hy
  · rw [eC (D + 11 + i) (by omega) (by omega)]; exact c i hi
  · rw [eC (D + 21 + i) (by omega) (by omega)]; exact d i hi
  · rw [eC (D + 87 + i) (by omega) (by omega)]; exact f i hi
end
