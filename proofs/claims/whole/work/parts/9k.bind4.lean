/-! ===== BIND 4: one more BIND ===== -/
section
variable {C C' : Gm} {D t d w : Nat} {T T' : Nat → Int32} {L : List (Nat × Nat)}
theorem cell_ne {t d s f : Nat} (hd : d < 6) (hf : f < 6) (h : ¬ (s = t ∧ f = d)) : 79 + 6 * s + f ≠ 79 + 6 * t + d := by omega
theorem TOk.bind (hT : TOk T) (ht : t < tt T) (hd : d < td T) (hs : T (25 + t) = 0 ∨ T (25 + t) = 1) (hw : 1 ≤ w ∧ w ≤ 9) (same : ∀ k, k ≠ 79 + 6 * t + d → k ≠ 166 → T' k = T k) (hv : T' (79 + 6 * t + d) = Int32.ofNat w) : TOk T' ∧ tz T' = tz T ∧ tt T' = tt T ∧ td T' = td T ∧ tw T' = tw T := by
  have t10 := hT.t.2
  have d6 := hT.d.2
  have z5 := hT.z.2
  have w8 := hT.w.2
  have e163 : tz T' = tz T := by unfold tz; rw [same 163 (by omega) (by omega)]
  have e164 : tt T' = tt T := by unfold tt; rw [same 164 (by omega) (by omega)]
  have e165 : td T' = td T := by unfold td; rw [same 165 (by omega) (by omega)]
  have e167 : tw T' = tw T := by unfold tw; rw [same 167 (by omega) (by omega)]
  refine ⟨?_, e163, e164, e165, e167⟩
  obtain ⟨a, b, c, d', e, f, g⟩ := hT
  unfold TOk
  rw [e163, e164, e165, e167, same 163 (by omega) (by omega), same 164 (by omega) (by omega), same 165 (by omega) (by omega), same 167 (by omega) (by omega)]
  refine ⟨a, fun y hy => ?_, fun i hi => ?_, fun i hi => ?_, fun i j hi hj => ?_, fun i hi => ?_, fun i u hi hu => ?_⟩
  · rw [same y (by omega) (by omega), same (5 + y) (by omega) (by omega), same (10 + y) (by omega) (by omega)]; exact b y hy
  · rw [same (15 + i) (by omega) (by omega), same (25 + i) (by omega) (by omega), same (35 + i) (by omega) (by omega), same (45 + i) (by omega) (by omega)]; exact c i hi
  · rw [same (55 + i) (by omega) (by omega), same (61 + i) (by omega) (by omega), same (67 + i) (by omega) (by omega), same (73 + i) (by omega) (by omega)]; exact d' i hi
  · rw [same (25 + i) (by omega) (by omega)]
    by_cases q : i = t ∧ j = d
    · obtain ⟨q1, q2⟩ := q
      subst q1 q2
      rw [hv]
      exact ⟨⟨w, rfl, by omega, hw.2⟩, fun _ => ⟨ht, hd, hs⟩⟩
    · rw [same _ (cell_ne (by omega) hj q) (by omega)]
      exact e i j hi hj
  · rw [same (139 + i) (by omega) (by omega), same (147 + i) (by omega) (by omega), same (155 + i) (by omega) (by omega)]; exact f i hi
  · rw [same (25 + i) (by omega) (by omega), same (25 + u) (by omega) (by omega), same (15 + i) (by omega) (by omega), same (15 + u) (by omega) (by omega)]; exact g i u hi hu
theorem bf_trans {p q r : Nat × Nat} (h1 : bf T p q) (h2 : bf T q r) : bf T p r := by
  unfold bf bfr at *
  rcases h1 with h1 | ⟨h1, h1'⟩
  · rcases h2 with h2 | ⟨h2, -⟩ <;> exact Or.inl (by omega)
  · rcases h2 with h2 | ⟨h2, h2'⟩
    · exact Or.inl (by omega)
    · refine Or.inr ⟨by omega, ?_⟩
      rw [← h1] at h2'
      omega
theorem BdV.add (h : BdV C D T L) (hT : TOk T) (hT' : TOk T') (pk : PlK C D) (hD : POk D) (ds : DsK C.2.1) (ht : t < 10) (hd : d < 6) (hw : 1 ≤ w ∧ w ≤ 9) (h0 : wn T t d = 0) (same : ∀ k, k ≠ 79 + 6 * t + d → k ≠ 166 → T' k = T k) (hv : T' (79 + 6 * t + d) = Int32.ofNat w) (h6 : T' 166 = Int32.ofNat (L.length + 1)) :
    ∃ C' L', sh_X5_addBind D (Int32.ofNat t) (Int32.ofNat d) (Int32.ofNat w) C = some C' ∧ BdV C' D T' L' ∧ PlK C' D ∧ DsK C'.2.1 ∧ C'.2.2 = C.2.2 ∧ (∀ a i, a ≠ D + 4 → C'.2.1 a i = C.2.1 a i) ∧ (∀ a, a ≠ D → (a < D + 27 ∨ D + 87 ≤ a) → C'.1 a = C.1 a) ∧ C'.1 D = ud (C.1 D) 8 (Int32.ofNat (L.length + 1)) ∧ L.length + 1 ≤ 60 := by
  have hD' := hD
  unfold POk at hD'
  obtain ⟨⟨a1, a2, a3⟩, b, c, f⟩ := h
  have wT : wn T' t d = w := by unfold wn; rw [hv, nn w (by omega)]
  have wO : ∀ s f, f < 6 → s < 10 → ¬ (s = t ∧ f = d) → wn T' s f = wn T s f := fun s f hf hs q => by unfold wn; rw [same _ (cell_ne hd hf q) (by omega)]
  have nin : (t, d) ∉ L := fun q => ((c _).mp q).2.2 h0
  have ne : ∀ q, q ∈ L → ¬ (q.1 = t ∧ q.2 = d) := fun q hq e => nin (by rw [← e.1, ← e.2]; exact hq)
  have wL : ∀ q, q ∈ L → wn T' q.1 q.2 = wn T q.1 q.2 := fun q hq => wO _ _ ((c q).mp hq).2.1 ((c q).mp hq).1 (ne q hq)
  have ndL := bf_nodup b
  -- how many
  have len : L.length + 1 ≤ 60 := by
    have p : ((t, d) :: L).Perm (bL T') := by
      refine (List.perm_ext_iff_of_nodup (List.nodup_cons.mpr ⟨nin, ndL⟩) (bf_nodup (bL_pw hT'))).mpr fun q => ?_
      rw [bL_mem hT', List.mem_cons]
      constructor
      · rintro (q1 | q1)
        · subst q1; exact ⟨ht, hd, by show wn T' t d ≠ 0; omega⟩
        · have := (c q).mp q1
          exact ⟨this.1, this.2.1, by rw [wL q q1]; exact this.2.2⟩
      · rintro ⟨q1, q2, q3⟩
        by_cases e : q.1 = t ∧ q.2 = d
        · exact Or.inl (Prod.ext e.1 e.2)
        · exact Or.inr ((c q).mpr ⟨q1, q2, by rw [← wO q.1 q.2 q2 q1 e]; exact q3⟩)
    have := p.length_eq
    rw [List.length_cons] at this
    have := (bL_len hT').2
    omega
  have gm : ∀ i, i < L.length → L.getD i (0, 0) ∈ L := fun i hi => by rw [List.getD_eq_getElem?_getD, List.getElem?_eq_getElem hi]; exact List.getElem_mem hi
  have a71 : D + 4 = 71 ∨ D + 4 = 166 := by omega
  obtain ⟨k, C', k0, k1, k2, k3, k4, k5, k6, k7, k8, k9⟩ := c_addBind pk hD (fun i j h1 h2 h3 => ds _ a71 i j h1 h2 h3) (m := L.length) (by omega) a1 (fun i => ((L.getD i (0, 0)).1, (L.getD i (0, 0)).2, wn T (L.getD i (0, 0)).1 (L.getD i (0, 0)).2)) (fun i hi => by
    obtain ⟨f0, f1, f2⟩ := f i hi
    have q := (c _).mp (gm i hi)
    have wq := hT.wN q.1 q.2.1
    exact ⟨f0, f1, f2.trans wq.1, by show (L.getD i (0, 0)).1 < 100; omega, by show (L.getD i (0, 0)).2 < 100; omega, by show wn T _ _ < 100; omega⟩) (t := t) (d := d) (w := w) (by omega) (by omega) (by omega)
  -- which comes before
  have bqf : ∀ i, i < L.length → (bq (t, d, w) ((L.getD i (0, 0)).1, (L.getD i (0, 0)).2, wn T (L.getD i (0, 0)).1 (L.getD i (0, 0)).2) ↔ bf T' (t, d) (L.getD i (0, 0))) := fun i hi => by
    have e := wL _ (gm i hi)
    unfold bq bf bfr
    show (t < (L.getD i (0, 0)).1 ∨ (t = (L.getD i (0, 0)).1 ∧ (wn T (L.getD i (0, 0)).1 (L.getD i (0, 0)).2 < w ∨ (w = wn T (L.getD i (0, 0)).1 (L.getD i (0, 0)).2 ∧ d < (L.getD i (0, 0)).2)))) ↔ (t < (L.getD i (0, 0)).1 ∨ (t = (L.getD i (0, 0)).1 ∧ (wn T' t (L.getD i (0, 0)).2 < wn T' t d ∨ (wn T' t d = wn T' t (L.getD i (0, 0)).2 ∧ d < (L.getD i (0, 0)).2))))
    rw [wT]
    by_cases q : t = (L.getD i (0, 0)).1
    · rw [← q] at e
      rw [← q, e]
    · constructor
      · rintro (u | u)
        · exact Or.inl u
        · exact absurd u.1 q
      · rintro (u | u)
        · exact Or.inl u
        · exact absurd u.1 q
  have tot : ∀ q, q ∈ L → ¬ bf T' (t, d) q → bf T' q (t, d) := fun q hq u => by
    have n := ne q hq
    unfold bf bfr at *
    by_cases e : q.1 = t
    · have : ¬ (wn T' t q.2 < wn T' t d ∨ wn T' t d = wn T' t q.2 ∧ d < q.2) := fun x => u (Or.inr ⟨e.symm, x⟩)
      refine Or.inr ⟨e, ?_⟩
      show wn T' q.1 d < wn T' q.1 q.2 ∨ wn T' q.1 q.2 = wn T' q.1 d ∧ q.2 < d
      rw [e]
      omega
    · exact Or.inl (by show q.1 < t; have : ¬ t < q.1 := fun x => u (Or.inl x); omega)
  have b' : L.Pairwise (bf T') := by
    refine List.Pairwise.imp_of_mem (fun {p q} hp hq h => ?_) b
    have e1 := wL p hp
    unfold bf bfr at *
    rcases h with h | ⟨h0', h⟩
    · exact Or.inl h
    · have e2 := wL q hq
      rw [← h0'] at e2
      exact Or.inr ⟨h0', by rw [e1, e2]; exact h⟩
  sorry
end
