/-! ===== BIND 5: the CLAUSE of a BIND ===== -/
section
variable {C R C' R' : Gm} {b : Nat → Int32} {n e D : Nat} {N T : Nat → Int32}
/-- a BIND of the draft, or none -/
theorem DrV.bindOf (h : DrV C D N T) (pk : PlK C D) {t d : Nat} (ht : t < 10) (hd : d < 6) : ∃ r, sh_X5_bindOf D (Int32.ofNat t) (Int32.ofNat d) C = some r ∧ (r = -1 ↔ wn T t d = 0) := by
  obtain ⟨L, l⟩ := h.2.2.2.2.2.1
  obtain ⟨⟨a1, a2, a3⟩, b, c, f⟩ := l
  have gm : ∀ i, i < L.length → L.getD i (0, 0) ∈ L := fun i hi => by rw [List.getD_eq_getElem?_getD, List.getElem?_eq_getElem hi]; exact List.getElem_mem hi
  obtain ⟨r, r1, r2⟩ := c_bindOf0 pk a3 a1 (Int32.ofNat t) (Int32.ofNat d)
  refine ⟨r, r1, ?_⟩
  have pr : ∀ i, i < L.length → ((C.1 (C.2.1 (D + 4) i) 0 = Int32.ofNat t ∧ C.1 (C.2.1 (D + 4) i) 1 = Int32.ofNat d) ↔ L.getD i (0, 0) = (t, d)) := fun i hi => by
    have m := (c _).mp (gm i hi)
    obtain ⟨f0, f1, -⟩ := f i hi
    rw [f0, f1, eq_n (by omega) (by omega), eq_n (by omega) (by omega)]
    exact ⟨fun q => Prod.ext q.1 q.2, fun q => by rw [q]; exact ⟨rfl, rfl⟩⟩
  constructor
  · intro er
    rcases r2 with ⟨-, q⟩ | ⟨i, hi, q, -⟩
    · refine Classical.byContradiction fun w => ?_
      have mm : (t, d) ∈ L := (c (t, d)).mpr ⟨ht, hd, w⟩
      obtain ⟨i, hi, ei⟩ := List.getElem_of_mem mm
      refine q i hi ((pr i hi).mpr ?_)
      rw [List.getD_eq_getElem?_getD, List.getElem?_eq_getElem hi]
      exact ei
    · rw [q] at er
      exact absurd er (ne_m1' (by omega))
  · intro w
    rcases r2 with ⟨q, -⟩ | ⟨i, hi, -, q⟩
    · exact q
    · have m := (c _).mp (gm i hi)
      rw [(pr i hi).mp q] at m
      exact absurd w m.2.2
theorem DrV.bind (h : DrV C D N T) (hD : POk D) (pk : PlK C D) (ds : DsK C.2.1) {t d w : Nat} (ht : t < tt T) (hd : d < td T) (hs : T (25 + t) = 0 ∨ T (25 + t) = 1) (hw : 1 ≤ w ∧ w ≤ 9) (h0 : wn T t d = 0) {T' : Nat → Int32} (same : ∀ k, k ≠ 79 + 6 * t + d → k ≠ 166 → T' k = T k) (hv : T' (79 + 6 * t + d) = Int32.ofNat w) (h6 : T' 166 = T 166 + 1) :
    ∃ C', sh_X5_addBind D (Int32.ofNat t) (Int32.ofNat d) (Int32.ofNat w) C = some C' ∧ DrV C' D N T' ∧ PlK C' D ∧ DsK C'.2.1 ∧ C'.2.2 = C.2.2 ∧ (∀ a i, a ≠ D + 4 → C'.2.1 a i = C.2.1 a i) ∧ (∀ a, a ≠ D → (a < D + 27 ∨ D + 87 ≤ a) → C'.1 a = C.1 a) ∧ ∃ m, m ≤ 60 ∧ C'.1 D = ud (C.1 D) 8 (Int32.ofNat m) := by
  obtain ⟨hT, ⟨a5, a6, a7, a9, a10, a11⟩, z, c, d', ⟨L, l⟩, f, g⟩ := h
  have t10 := hT.t.2
  have d6 := hT.d.2
  have z5 := hT.z.2
  have w8 := hT.w.2
  obtain ⟨hT', ez, et, ed, ew⟩ := hT.bind ht hd hs hw same hv
  obtain ⟨C', L', k1, k2, k3, k4, k5, k6, k7, k8, k9⟩ := l.add hT hT' pk hD ds (t := t) (d := d) (w := w) (by omega) (by omega) hw h0 same hv (by rw [h6, l.1.2.1, pl1])
  have cD : ∀ k, k ≠ 8 → C'.1 D k = C.1 D k := fun k hk => by rw [k8, ud_ne _ _ hk]
  refine ⟨C', k1, ?_, k3, k4, k5, k6, k7, L.length + 1, k9, k8⟩
  unfold DrV
  rw [ez, et, ed, ew]
  refine ⟨hT', ⟨?_, ?_, ?_, ?_, ?_, a11⟩, fun y hy => ?_, fun i hi => ?_, fun i hi => ?_, ⟨L', k2⟩, fun i hi => ?_, g⟩
  · rw [cD 5 (by omega), same 163 (by omega) (by omega)]; exact a5
  · rw [cD 6 (by omega), same 164 (by omega) (by omega)]; exact a6
  · rw [cD 7 (by omega), same 165 (by omega) (by omega)]; exact a7
  · rw [cD 9 (by omega), same 167 (by omega) (by omega)]; exact a9
  · rw [cD 10 (by omega)]; exact a10
  · rw [k7 (D + 6 + y) (by omega) (by omega), same y (by omega) (by omega), same (5 + y) (by omega) (by omega), same (10 + y) (by omega) (by omega)]; exact z y hy
  · rw [k7 (D + 11 + i) (by omega) (by omega), same (15 + i) (by omega) (by omega), same (25 + i) (by omega) (by omega), same (35 + i) (by omega) (by omega), same (45 + i) (by omega) (by omega)]; exact c i hi
  · rw [k7 (D + 21 + i) (by omega) (by omega), same (55 + i) (by omega) (by omega), same (61 + i) (by omega) (by omega), same (67 + i) (by omega) (by omega), same (73 + i) (by omega) (by omega)]; exact d' i hi
  · rw [k7 (D + 87 + i) (by omega) (by omega), same (139 + i) (by omega) (by omega), same (147 + i) (by omega) (by omega), same (155 + i) (by omega) (by omega)]; exact f i hi
/-- the draft, when only the reader has changed -/
theorem DrV.rd (h : DrV C D N T) (pk : PlK C D) (e2 : C'.2 = C.2) (eo : ∀ a, D ≤ a → a ≤ D + 94 → C'.1 a = C.1 a) : DrV C' D N T := by
  obtain ⟨hT, a, z, c, d', ⟨L, l⟩, f, g⟩ := h
  have t10 := hT.t.2
  have d6 := hT.d.2
  have z5 := hT.z.2
  have w8 := hT.w.2
  refine ⟨hT, by rw [eo D (by omega) (by omega)]; exact a, fun y hy => ?_, fun i hi => ?_, fun i hi => ?_, ⟨L, l.q pk e2 (by rw [eo D (by omega) (by omega)]) (fun a h1 h2 => eo a (by omega) (by omega)) (fun _ _ _ => rfl) rfl⟩, fun i hi => ?_, g⟩
  · rw [eo (D + 6 + y) (by omega) (by omega)]; exact z y hy
  · rw [eo (D + 11 + i) (by omega) (by omega)]; exact c i hi
  · rw [eo (D + 21 + i) (by omega) (by omega)]; exact d' i hi
  · rw [eo (D + 87 + i) (by omega) (by omega)]; exact f i hi
end
