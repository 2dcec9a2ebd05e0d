/-! ===== DRAFT 1: what is read so far ===== -/
def bf (T : Nat → Int32) (p q : Nat × Nat) : Prop := p.1 < q.1 ∨ (p.1 = q.1 ∧ bfr T p.1 p.2 q.2)
/-- the BINDS of the plan D, by TRIP and then as SHARES are dealt out -/
def BdV (C : Gm) (D : Nat) (T : Nat → Int32) (L : List (Nat × Nat)) : Prop :=
  (C.1 D 8 = Int32.ofNat L.length ∧ T 166 = Int32.ofNat L.length ∧ L.length ≤ 60) ∧ L.Pairwise (bf T) ∧ (∀ q, q ∈ L ↔ q.1 < 10 ∧ q.2 < 6 ∧ wn T q.1 q.2 ≠ 0) ∧
  ∀ i, i < L.length → C.1 (C.2.1 (D + 4) i) 0 = Int32.ofNat (L.getD i (0, 0)).1 ∧ C.1 (C.2.1 (D + 4) i) 1 = Int32.ofNat (L.getD i (0, 0)).2 ∧ C.1 (C.2.1 (D + 4) i) 2 = T (79 + 6 * (L.getD i (0, 0)).1 + (L.getD i (0, 0)).2)
/-- the row of a plan with nothing told -/
def eN (k : Nat) : Int32 := if k < 5 ∨ (20 ≤ k ∧ k < 25) ∨ (30 ≤ k ∧ k < 50) then 200 else if 76 ≤ k ∧ k < 82 then -1 else 0
/-- the plan D stands for the rows that the reference reads into -/
def DrV (C : Gm) (D : Nat) (N T : Nat → Int32) : Prop :=
  TOk T ∧ (C.1 D 5 = T 163 ∧ C.1 D 6 = T 164 ∧ C.1 D 7 = T 165 ∧ C.1 D 9 = T 167 ∧ C.1 D 10 = N 143 ∧ isN (N 143) 0 9) ∧
  (∀ z, z < tz T → C.1 (D + 6 + z) 0 = N (5 + z) ∧ isN (N (5 + z)) 0 99 ∧ C.1 (D + 6 + z) 1 = T z ∧ C.1 (D + 6 + z) 2 = T (5 + z) ∧ C.1 (D + 6 + z) 3 = T (10 + z)) ∧
  (∀ t, t < tt T → C.1 (D + 11 + t) 0 = T (15 + t) ∧ C.1 (D + 11 + t) 1 = T (25 + t) ∧ C.1 (D + 11 + t) 2 = T (35 + t) ∧ C.1 (D + 11 + t) 3 = T (45 + t)) ∧
  (∀ d, d < td T → C.1 (D + 21 + d) 0 = T (55 + d) ∧ C.1 (D + 21 + d) 1 = T (61 + d) ∧ C.1 (D + 21 + d) 2 = T (67 + d) ∧ C.1 (D + 21 + d) 3 = T (73 + d)) ∧
  (∃ L, BdV C D T L) ∧
  (∀ k, k < tw T → C.1 (D + 87 + k) 0 = T (139 + k) ∧ C.1 (D + 87 + k) 1 = T (147 + k) ∧ C.1 (D + 87 + k) 2 = T (155 + k)) ∧
  ∀ k, k < 305 → (k < 5 ∨ 10 ≤ k) → k ≠ 143 → N k = eN k
section
variable {C C' : Gm} {D : Nat} {N N' T T' : Nat → Int32} {L : List (Nat × Nat)}
theorem BdV.q (h : BdV C D T L) (pk : PlK C D) (e2 : C'.2 = C.2) (e8 : C'.1 D 8 = C.1 D 8) (eb : ∀ a, D + 27 ≤ a → a < D + 87 → C'.1 a = C.1 a) (hw : ∀ k, 79 ≤ k → k < 139 → T' k = T k) (h6 : T' 166 = T 166) : BdV C' D T' L := by
  obtain ⟨⟨a1, a2, a3⟩, b, c, d⟩ := h
  have w : ∀ t d, t < 10 → d < 6 → wn T' t d = wn T t d := fun t d h1 h2 => by unfold wn; rw [hw _ (by omega) (by omega)]
  refine ⟨⟨e8.trans a1, h6.trans a2, a3⟩, ?_, fun q => ?_, fun i hi => ?_⟩
  · refine List.Pairwise.imp_of_mem (fun {p q} hp hq h => ?_) b
    have p1 := (c p).mp hp
    have q1 := (c q).mp hq
    unfold bf bfr at *
    rcases h with h | ⟨h0, h⟩
    · exact Or.inl h
    · refine Or.inr ⟨h0, ?_⟩
      rw [w _ _ p1.1 p1.2.1, w _ _ p1.1 q1.2.1]
      exact h
  · constructor
    · intro hq
      have q1 := (c q).mp hq
      exact ⟨q1.1, q1.2.1, by rw [w _ _ q1.1 q1.2.1]; exact q1.2.2⟩
    · rintro ⟨h1, h2, h3⟩
      exact (c q).mpr ⟨h1, h2, by rw [← w _ _ h1 h2]; exact h3⟩
  · have m := (c _).mp (show L.getD i (0, 0) ∈ L by rw [List.getD_eq_getElem?_getD, List.getElem?_eq_getElem hi]; exact List.getElem_mem hi)
    have r := pk.2.2.2.2.2.2.1 i (by omega)
    rw [e2, eb _ r.1 r.2, hw _ (by omega) (by omega)]
    exact d i hi
theorem n_up {x : Int32} {m : Nat} (h : x = Int32.ofNat m) (hm : m < 2147483648) : x.toNatClampNeg = m := by rw [h, nn m hm]
/-- one more ZONE -/
theorem TOk.zone (h : TOk T) {z : Nat} (hz : tz T = z) (z5 : z < 5) (same : ∀ k, k ≠ z → k ≠ 5 + z → k ≠ 10 + z → k ≠ 163 → T' k = T k) (h3 : T' 163 = Int32.ofNat (z + 1)) (v : isN (T' z) 1 50 ∧ isN (T' (5 + z)) 0 3 ∧ isN (T' (10 + z)) 1 4 ∧ (T' (5 + z) = 0 → T' (10 + z) = 1)) : TOk T' ∧ tz T' = z + 1 ∧ tt T' = tt T ∧ td T' = td T ∧ tw T' = tw T := by
  have e1 : tz T' = z + 1 := n_up h3 (by omega)
  have e2 : tt T' = tt T := by unfold tt; rw [same 164 (by omega) (by omega) (by omega) (by omega)]
  have e3 : td T' = td T := by unfold td; rw [same 165 (by omega) (by omega) (by omega) (by omega)]
  have e4 : tw T' = tw T := by unfold tw; rw [same 167 (by omega) (by omega) (by omega) (by omega)]
  refine ⟨?_, e1, e2, e3, e4⟩
  have t10 := h.t.2
  have d6 := h.d.2
  have w8 := h.w.2
  obtain ⟨⟨a1, a2, a3, a4⟩, b, c, d, e, f, g⟩ := h
  unfold TOk
  rw [e1, e2, e3, e4, same 164 (by omega) (by omega) (by omega) (by omega), same 165 (by omega) (by omega) (by omega) (by omega), same 167 (by omega) (by omega) (by omega) (by omega)]
  refine ⟨⟨⟨h3, by omega⟩, a2, a3, a4⟩, fun y hy => ?_, fun t ht => ?_, fun d' hd => ?_, fun t d' ht hd => ?_, fun k hk => ?_, fun t u ht hu => ?_⟩
  · by_cases q : y = z
    · rw [q]; exact v
    · rw [same y (by omega) (by omega) (by omega) (by omega), same (5 + y) (by omega) (by omega) (by omega) (by omega), same (10 + y) (by omega) (by omega) (by omega) (by omega)]
      exact b y (by omega)
  · rw [same (15 + t) (by omega) (by omega) (by omega) (by omega), same (25 + t) (by omega) (by omega) (by omega) (by omega), same (35 + t) (by omega) (by omega) (by omega) (by omega), same (45 + t) (by omega) (by omega) (by omega) (by omega)]
    obtain ⟨⟨y, hy, ey⟩, q⟩ := c t ht
    exact ⟨⟨y, by omega, ey⟩, q⟩
  · rw [same (55 + d') (by omega) (by omega) (by omega) (by omega), same (61 + d') (by omega) (by omega) (by omega) (by omega), same (67 + d') (by omega) (by omega) (by omega) (by omega), same (73 + d') (by omega) (by omega) (by omega) (by omega)]
    obtain ⟨q1, ⟨y, hy, ey⟩, q⟩ := d d' hd
    exact ⟨q1, ⟨y, by omega, ey⟩, q⟩
  · rw [same _ (by omega) (by omega) (by omega) (by omega), same (25 + t) (by omega) (by omega) (by omega) (by omega)]
    exact e t d' ht hd
  · rw [same (139 + k) (by omega) (by omega) (by omega) (by omega), same (147 + k) (by omega) (by omega) (by omega) (by omega), same (155 + k) (by omega) (by omega) (by omega) (by omega)]
    obtain ⟨⟨x, y, q1, q2, q3⟩, q4⟩ := f k hk
    exact ⟨⟨x, y, by omega, by omega, q3⟩, q4⟩
  · rw [same (25 + t) (by omega) (by omega) (by omega) (by omega), same (25 + u) (by omega) (by omega) (by omega) (by omega), same (15 + t) (by omega) (by omega) (by omega) (by omega), same (15 + u) (by omega) (by omega) (by omega) (by omega)]
    exact g t u ht hu
theorem DrV.zone (h : DrV C D N T) (pk : PlK C D) {z : Nat} (hz : tz T = z) (z5 : z < 5) (same : ∀ k, k ≠ z → k ≠ 5 + z → k ≠ 10 + z → k ≠ 163 → T' k = T k) (h3 : T' 163 = Int32.ofNat (z + 1)) (v : isN (T' z) 1 50 ∧ isN (T' (5 + z)) 0 3 ∧ isN (T' (10 + z)) 1 4 ∧ (T' (5 + z) = 0 → T' (10 + z) = 1)) (sN : ∀ k, k ≠ 5 + z → N' k = N k) (vN : isN (N' (5 + z)) 0 99)
    (e2 : C'.2 = C.2) (eC : ∀ a, D < a → a ≤ D + 94 → a ≠ D + 6 + z → C'.1 a = C.1 a) (eD : ∀ k, 5 < k → C'.1 D k = C.1 D k) (e5 : C'.1 D 5 = Int32.ofNat (z + 1)) (eZ : C'.1 (D + 6 + z) 0 = N' (5 + z) ∧ C'.1 (D + 6 + z) 1 = T' z ∧ C'.1 (D + 6 + z) 2 = T' (5 + z) ∧ C'.1 (D + 6 + z) 3 = T' (10 + z)) : DrV C' D N' T' := by
  obtain ⟨hT, ⟨a5, a6, a7, a9, a10, a11⟩, b, c, d, ⟨L, l⟩, f, g⟩ := h
  obtain ⟨hT', e1, et, ed, ew⟩ := hT.zone hz z5 same h3 v
  have t10 := hT.t.2
  have d6 := hT.d.2
  have w8 := hT.w.2
  unfold DrV
  rw [e1, et, ed, ew]
  refine ⟨hT', ⟨e5.trans h3.symm, ?_, ?_, ?_, ?_, ?_⟩, fun y hy => ?_, fun t ht => ?_, fun d' hd => ?_, ⟨L, l.q pk e2 (eD 8 (by omega)) (fun a h1 h2 => eC a (by omega) (by omega) (by omega)) (fun k h1 h2 => same k (by omega) (by omega) (by omega) (by omega)) (same 166 (by omega) (by omega) (by omega) (by omega))⟩, fun k hk => ?_, fun k h1 h2 h4 => ?_⟩
  · rw [eD 6 (by omega), same 164 (by omega) (by omega) (by omega) (by omega)]; exact a6
  · rw [eD 7 (by omega), same 165 (by omega) (by omega) (by omega) (by omega)]; exact a7
  · rw [eD 9 (by omega), same 167 (by omega) (by omega) (by omega) (by omega)]; exact a9
  · rw [eD 10 (by omega), sN 143 (by omega)]; exact a10
  · rw [sN 143 (by omega)]; exact a11
  · by_cases q : y = z
    · rw [q]; exact ⟨eZ.1, vN, eZ.2⟩
    · rw [eC (D + 6 + y) (by omega) (by omega) (by omega), sN (5 + y) (by omega), same y (by omega) (by omega) (by omega) (by omega), same (5 + y) (by omega) (by omega) (by omega) (by omega), same (10 + y) (by omega) (by omega) (by omega) (by omega)]
      exact b y (by omega)
  · rw [eC (D + 11 + t) (by omega) (by omega) (by omega), same (15 + t) (by omega) (by omega) (by omega) (by omega), same (25 + t) (by omega) (by omega) (by omega) (by omega), same (35 + t) (by omega) (by omega) (by omega) (by omega), same (45 + t) (by omega) (by omega) (by omega) (by omega)]
    exact c t ht
  · rw [eC (D + 21 + d') (by omega) (by omega) (by omega), same (55 + d') (by omega) (by omega) (by omega) (by omega), same (61 + d') (by omega) (by omega) (by omega) (by omega), same (67 + d') (by omega) (by omega) (by omega) (by omega), same (73 + d') (by omega) (by omega) (by omega) (by omega)]
    exact d d' hd
  · rw [eC (D + 87 + k) (by omega) (by omega) (by omega), same (139 + k) (by omega) (by omega) (by omega) (by omega), same (147 + k) (by omega) (by omega) (by omega) (by omega), same (155 + k) (by omega) (by omega) (by omega) (by omega)]
    exact f k hk
  · rw [sN k (by omega)]; exact g k h1 h2 h4
end
