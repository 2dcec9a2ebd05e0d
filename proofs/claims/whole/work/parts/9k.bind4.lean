/-! ===== BIND 4: one more BIND ===== -/
section
variable {C C' : Gm} {D t d w : Nat} {T T' : Nat → Int32} {L : List (Nat × Nat)}
theorem cell_ne {t d s f : Nat} (hd : d < 6) (hf : f < 6) (h : ¬ (s = t ∧ f = d)) : 79 + 6 * s + f ≠ 79 + 6 * t + d := by omega
theorem TOk.bind (hT : TOk T) (ht : t < tt T) (hd : d < td T) (hs : T (25 + t) = 0 ∨ T (25 + t) = 1) (hw : 1 ≤ w ∧ w ≤ 9) (same : ∀ k, k ≠ 79 + 6 * t + d → k ≠ 166 → T' k = T k) (hv : T' (79 + 6 * t + d) = Int32.ofNat w) : TOk T' ∧ tz T' = tz T ∧ tt T' = tt T ∧ td T' = td T ∧ tw T' = tw T := by
  have t10 := hT.t.2
  have d6 := hT.d.2
  have z5 := hT.z.2
  have w8 := hT.w.2
  have e163 : tz T' = tz T := by unfold tz; rw [same 163 (by omega) (by omega)]
  have e164 : tt T' = tt T := by unfold tt; rw [same 164 (by omega) (by omega)]
  have e165 : td T' = td T := by unfold td; rw [same 165 (by omega) (by omega)]
  have e167 : tw T' = tw T := by unfold tw; rw [same 167 (by omega) (by omega)]
  refine ⟨?_, e163, e164, e165, e167⟩
  obtain ⟨a, b, c, d', e, f, g⟩ := hT
  unfold TOk
  rw [e163, e164, e165, e167, same 163 (by omega) (by omega), same 164 (by omega) (by omega), same 165 (by omega) (by omega), same 167 (by omega) (by omega)]
  refine ⟨a, fun y hy => ?_, fun i hi => ?_, fun i hi => ?_, fun i j hi hj => ?_, fun i hi => ?_, fun i u hi hu => ?_⟩
  · rw [same y (by omega) (by omega), same (5 + y) (by omega) (by omega), same (10 + y) (by omega) (by omega)]; exact b y hy
  · rw [same (15 + i) (by omega) (by omega), same (25 + i) (by omega) (by omega), same (35 + i) (by omega) (by omega), same (45 + i) (by omega) (by omega)]; exact c i hi
  · rw [same (55 + i) (by omega) (by omega), same (61 + i) (by omega) (by omega), same (67 + i) (by omega) (by omega), same (73 + i) (by omega) (by omega)]; exact d' i hi
  · rw [same (25 + i) (by omega) (by omega)]
    by_cases q : i = t ∧ j = d
    · obtain ⟨q1, q2⟩ := q
      subst q1 q2
      rw [hv]
      exact ⟨⟨w, rfl, by omega, hw.2⟩, fun _ => ⟨ht, hd, hs⟩⟩
    · rw [same _ (cell_ne (by omega) hj q) (by omega)]
      exact e i j hi hj
  · rw [same (139 + i) (by omega) (by omega), same (147 + i) (by omega) (by omega), same (155 + i) (by omega) (by omega)]; exact f i hi
  · rw [same (25 + i) (by omega) (by omega), same (25 + u) (by omega) (by omega), same (15 + i) (by omega) (by omega), same (15 + u) (by omega) (by omega)]; exact g i u hi hu
theorem bf_trans {p q r : Nat × Nat} (h1 : bf T p q) (h2 : bf T q r) : bf T p r := by
  unfold bf bfr at *
  rcases h1 with h1 | ⟨h1, h1'⟩
  · rcases h2 with h2 | ⟨h2, -⟩ <;> exact Or.inl (by omega)
  · rcases h2 with h2 | ⟨h2, h2'⟩
    · exact Or.inl (by omega)
    · refine Or.inr ⟨by omega, ?_⟩
      rw [← h1] at h2'
      omega
theorem BdV.add (h : BdV C D T L) (hT : TOk T) (hT' : TOk T') (pk : PlK C D) (hD : POk D) (ds : DsK C.2.1) (ht : t < 10) (hd : d < 6) (hw : 1 ≤ w ∧ w ≤ 9) (h0 : wn T t d = 0) (same : ∀ k, k ≠ 79 + 6 * t + d → k ≠ 166 → T' k = T k) (hv : T' (79 + 6 * t + d) = Int32.ofNat w) (h6 : T' 166 = Int32.ofNat (L.length + 1)) :
    ∃ C' L', sh_X5_addBind D (Int32.ofNat t) (Int32.ofNat d) (Int32.ofNat w) C = some C' ∧ BdV C' D T' L' ∧ PlK C' D ∧ DsK C'.2.1 ∧ C'.2.2 = C.2.2 ∧ (∀ a i, a ≠ D + 4 → C'.2.1 a i = C.2.1 a i) ∧ (∀ a, a ≠ D → (a < D + 27 ∨ D + 87 ≤ a) → C'.1 a = C.1 a) ∧ C'.1 D = ud (C.1 D) 8 (Int32.ofNat (L.length + 1)) ∧ L.length + 1 ≤ 60 := by
  have hD' := hD
  unfold POk at hD'
  obtain ⟨⟨a1, a2, a3⟩, b, c, f⟩ := h
  have wT : wn T' t d = w := by unfold wn; rw [hv, nn w (by omega)]
  have wO : ∀ s f, f < 6 → s < 10 → ¬ (s = t ∧ f = d) → wn T' s f = wn T s f := fun s f hf hs q => by unfold wn; rw [same _ (cell_ne hd hf q) (by omega)]
  have nin : (t, d) ∉ L := fun q => ((c _).mp q).2.2 h0
  have ne : ∀ q, q ∈ L → ¬ (q.1 = t ∧ q.2 = d) := fun q hq e => nin (by rw [← e.1, ← e.2]; exact hq)
  have wL : ∀ q, q ∈ L → wn T' q.1 q.2 = wn T q.1 q.2 := fun q hq => wO _ _ ((c q).mp hq).2.1 ((c q).mp hq).1 (ne q hq)
  have ndL := bf_nodup b
  -- how many
  have len : L.length + 1 ≤ 60 := by
    have p : ((t, d) :: L).Perm (bL T') := by
      refine (List.perm_ext_iff_of_nodup (List.nodup_cons.mpr ⟨nin, ndL⟩) (bf_nodup (bL_pw hT'))).mpr fun q => ?_
      rw [bL_mem hT', List.mem_cons]
      constructor
      · rintro (q1 | q1)
        · subst q1; exact ⟨ht, hd, by show wn T' t d ≠ 0; omega⟩
        · have := (c q).mp q1
          exact ⟨this.1, this.2.1, by rw [wL q q1]; exact this.2.2⟩
      · rintro ⟨q1, q2, q3⟩
        by_cases e : q.1 = t ∧ q.2 = d
        · exact Or.inl (Prod.ext e.1 e.2)
        · exact Or.inr ((c q).mpr ⟨q1, q2, by rw [← wO q.1 q.2 q2 q1 e]; exact q3⟩)
    have := p.length_eq
    rw [List.length_cons] at this
    have := (bL_len hT').2
    omega
  have gm : ∀ i, i < L.length → L.getD i (0, 0) ∈ L := fun i hi => by rw [List.getD_eq_getElem?_getD, List.getElem?_eq_getElem hi]; exact List.getElem_mem hi
  have a71 : D + 4 = 71 ∨ D + 4 = 166 := by omega
  obtain ⟨k, C', k0, k1, k2, k3, k4, k5, k6, k7, k8, k9⟩ := c_addBind pk hD (fun i j h1 h2 h3 => ds _ a71 i j h1 h2 h3) (m := L.length) (by omega) a1 (fun i => ((L.getD i (0, 0)).1, (L.getD i (0, 0)).2, wn T (L.getD i (0, 0)).1 (L.getD i (0, 0)).2)) (fun i hi => by
    obtain ⟨f0, f1, f2⟩ := f i hi
    have q := (c _).mp (gm i hi)
    have wq := hT.wN q.1 q.2.1
    exact ⟨f0, f1, f2.trans wq.1, by show (L.getD i (0, 0)).1 < 100; omega, by show (L.getD i (0, 0)).2 < 100; omega, by show wn T _ _ < 100; omega⟩) (t := t) (d := d) (w := w) (by omega) (by omega) (by omega)
  -- which comes before
  have bqf : ∀ i, i < L.length → (bq (t, d, w) ((L.getD i (0, 0)).1, (L.getD i (0, 0)).2, wn T (L.getD i (0, 0)).1 (L.getD i (0, 0)).2) ↔ bf T' (t, d) (L.getD i (0, 0))) := fun i hi => by
    have e := wL _ (gm i hi)
    unfold bq bf bfr
    show (t < (L.getD i (0, 0)).1 ∨ (t = (L.getD i (0, 0)).1 ∧ (wn T (L.getD i (0, 0)).1 (L.getD i (0, 0)).2 < w ∨ (w = wn T (L.getD i (0, 0)).1 (L.getD i (0, 0)).2 ∧ d < (L.getD i (0, 0)).2)))) ↔ (t < (L.getD i (0, 0)).1 ∨ (t = (L.getD i (0, 0)).1 ∧ (wn T' t (L.getD i (0, 0)).2 < wn T' t d ∨ (wn T' t d = wn T' t (L.getD i (0, 0)).2 ∧ d < (L.getD i (0, 0)).2))))
    rw [wT]
    by_cases q : t = (L.getD i (0, 0)).1
    · rw [← q] at e
      rw [← q, e]
    · constructor
      · rintro (u | u)
        · exact Or.inl u
        · exact absurd u.1 q
      · rintro (u | u)
        · exact Or.inl u
        · exact absurd u.1 q
  have tot : ∀ q, q ∈ L → ¬ bf T' (t, d) q → bf T' q (t, d) := fun q hq u => by
    have n := ne q hq
    unfold bf bfr at *
    by_cases e : q.1 = t
    · have : ¬ (wn T' t q.2 < wn T' t d ∨ wn T' t d = wn T' t q.2 ∧ d < q.2) := fun x => u (Or.inr ⟨e.symm, x⟩)
      refine Or.inr ⟨e, ?_⟩
      show wn T' q.1 d < wn T' q.1 q.2 ∨ wn T' q.1 q.2 = wn T' q.1 d ∧ q.2 < d
      rw [e]
      omega
    · exact Or.inl (by show q.1 < t; have : ¬ t < q.1 := fun x => u (Or.inl x); omega)
  have b' : L.Pairwise (bf T') := by
    refine List.Pairwise.imp_of_mem (fun {p q} hp hq h => ?_) b
    have e1 := wL p hp
    unfold bf bfr at *
    rcases h with h | ⟨h0', h⟩
    · exact Or.inl h
    · have e2 := wL q hq
      rw [← h0'] at e2
      exact Or.inr ⟨h0', by rw [e1, e2]; exact h⟩
  obtain ⟨L', eL⟩ : ∃ L', L' = L.take k ++ (t, d) :: L.drop k := ⟨_, rfl⟩
  have lt : (L.take k).length = k := by rw [List.length_take]; omega
  have lL : L'.length = L.length + 1 := by rw [eL, List.length_append, List.length_cons, lt, List.length_drop]; omega
  have q1 : ∀ i, i < k → L'.getD i (0, 0) = L.getD i (0, 0) := fun i hi => by
    rw [eL, List.getD_eq_getElem?_getD, List.getElem?_append_left (by omega), List.getElem?_take, if_pos hi, ← List.getD_eq_getElem?_getD]
  have q2 : L'.getD k (0, 0) = (t, d) := by
    rw [eL, List.getD_eq_getElem?_getD, List.getElem?_append_right (by omega), lt, Nat.sub_self]; rfl
  have q3 : ∀ i, k < i → L'.getD i (0, 0) = L.getD (i - 1) (0, 0) := fun i hi => by
    rw [eL, List.getD_eq_getElem?_getD, List.getElem?_append_right (by omega), lt]
    obtain ⟨u, hu⟩ : ∃ u, i - k = u + 1 := ⟨i - k - 1, by omega⟩
    rw [hu, List.getElem?_cons_succ, List.getElem?_drop, ← List.getD_eq_getElem?_getD, show k + u = i - 1 by omega]
  have mem : ∀ q, q ∈ L' ↔ q = (t, d) ∨ q ∈ L := fun q => by
    have e : q ∈ L ↔ q ∈ L.take k ∨ q ∈ L.drop k := by rw [← List.mem_append, List.take_append_drop]
    rw [eL, List.mem_append, List.mem_cons, e]
    constructor
    · rintro (u | u | u)
      · exact Or.inr (Or.inl u)
      · exact Or.inl u
      · exact Or.inr (Or.inr u)
    · rintro (u | u | u)
      · exact Or.inr (Or.inl u)
      · exact Or.inl u
      · exact Or.inr (Or.inr u)
  have gE : ∀ i (hi : i < L.length), L.getD i (0, 0) = L[i] := fun i hi => by rw [List.getD_eq_getElem?_getD, List.getElem?_eq_getElem hi]; rfl
  have after : ∀ q, q ∈ L.drop k → bf T' (t, d) q := fun q hq => by
    obtain ⟨i, hi, e⟩ := List.getElem_of_mem hq
    rw [List.getElem_drop] at e
    rw [List.length_drop] at hi
    have u := (bqf (k + i) (by omega)).mp (k2 (k + i) (by omega) (by omega))
    rw [gE (k + i) (by omega), e] at u
    exact u
  have before : ∀ q, q ∈ L.take k → bf T' q (t, d) := fun q hq => by
    obtain ⟨i, hi, e⟩ := List.getElem_of_mem hq
    rw [List.getElem_take] at e
    rw [lt] at hi
    have u := tot _ (gm (k - 1) (by omega)) (fun x => k3 (by omega) ((bqf (k - 1) (by omega)).mpr x))
    rw [gE (k - 1) (by omega)] at u
    by_cases ei : i = k - 1
    · subst ei
      rw [e] at u
      exact u
    · have v := List.pairwise_iff_getElem.mp b' i (k - 1) (by omega) (by omega) (by omega)
      rw [e] at v
      exact bf_trans v u
  have rD : ∀ i, i < 60 → C.2.1 (D + 4) i ≠ D := fun i hi e => by
    have := pk.2.2.2.2.2.2.1 i hi
    omega
  have old : ∀ i, i < L.length → C'.1 (C.2.1 (D + 4) i) = C.1 (C.2.1 (D + 4) i) := fun i hi => k7 _ (rD i (by omega)) (ds _ a71 i L.length (by omega) (by omega) (by omega))
  have oldT : ∀ i, i < L.length → T' (79 + 6 * (L.getD i (0, 0)).1 + (L.getD i (0, 0)).2) = T (79 + 6 * (L.getD i (0, 0)).1 + (L.getD i (0, 0)).2) := fun i hi => by
    have q := (c _).mp (gm i hi)
    exact same _ (cell_ne hd q.2.1 (ne _ (gm i hi))) (by omega)
  refine ⟨C', L', k1, ⟨⟨?_, by rw [lL]; exact h6, by omega⟩, ?_, fun q => ?_, fun i hi => ?_⟩, pk.perm k4 k5 (fun i hi => ?_), ?_, k4, k5, fun a h1 h2 => k7 a h1 (fun e => ?_), k8, len⟩
  · rw [k8, ud_at, lL]
  · have sp : (L.take k ++ L.drop k).Pairwise (bf T') := by rw [List.take_append_drop]; exact b'
    obtain ⟨s1, s2, s3⟩ := List.pairwise_append.mp sp
    rw [eL, List.pairwise_append, List.pairwise_cons]
    refine ⟨s1, ⟨after, s2⟩, fun a ha q hq => ?_⟩
    rcases List.mem_cons.mp hq with u | u
    · rw [u]; exact before a ha
    · exact s3 a ha q u
  · rw [mem]
    constructor
    · rintro (u | u)
      · subst u; exact ⟨ht, hd, by show wn T' t d ≠ 0; omega⟩
      · have := (c q).mp u
        exact ⟨this.1, this.2.1, by rw [wL q u]; exact this.2.2⟩
    · rintro ⟨u1, u2, u3⟩
      by_cases e : q.1 = t ∧ q.2 = d
      · exact Or.inl (Prod.ext e.1 e.2)
      · exact Or.inr ((c q).mpr ⟨u1, u2, by rw [← wO q.1 q.2 u2 u1 e]; exact u3⟩)
  · rw [lL] at hi
    rw [k6 i (by omega)]
    unfold ins
    by_cases c1 : i < k
    · rw [if_pos c1, q1 i c1, old i (by omega), oldT i (by omega)]
      exact f i (by omega)
    · rw [if_neg c1]
      by_cases c2 : i = k
      · subst c2
        rw [if_pos rfl, q2, hv]
        exact ⟨k9.1, k9.2.1, k9.2.2.1⟩
      · rw [if_neg c2, if_pos (by omega), q3 i (by omega), old (i - 1) (by omega), oldT (i - 1) (by omega)]
        exact f (i - 1) (by omega)
  · rw [k6 i hi]
    unfold ins
    split
    · exact pk.2.2.2.2.2.2.1 i hi
    · split
      · exact pk.2.2.2.2.2.2.1 L.length (by omega)
      · split
        · exact pk.2.2.2.2.2.2.1 (i - 1) (by omega)
        · exact pk.2.2.2.2.2.2.1 i hi
  · intro a ha i j hi hj hij
    by_cases e : a = D + 4
    · subst e
      rw [k6 i hi, k6 j hj]
      have ii : ∀ u v, u < 60 → v < 60 → u ≠ v → C.2.1 (D + 4) u ≠ C.2.1 (D + 4) v := fun u v h1 h2 h3 => ds _ a71 u v h1 h2 h3
      have pl : ∀ u, u < 60 → ∃ v, v < 60 ∧ ins (C.2.1 (D + 4)) L.length k u = C.2.1 (D + 4) v ∧ v = (if u < k then u else if u = k then L.length else if u ≤ L.length then u - 1 else u) := fun u hu => by
        unfold ins
        by_cases c1 : u < k
        · exact ⟨u, hu, by rw [if_pos c1], by rw [if_pos c1]⟩
        · by_cases c2 : u = k
          · exact ⟨L.length, by omega, by rw [if_neg c1, if_pos c2], by rw [if_neg c1, if_pos c2]⟩
          · by_cases c3 : u ≤ L.length
            · exact ⟨u - 1, by omega, by rw [if_neg c1, if_neg c2, if_pos c3], by rw [if_neg c1, if_neg c2, if_pos c3]⟩
            · exact ⟨u, hu, by rw [if_neg c1, if_neg c2, if_neg c3], by rw [if_neg c1, if_neg c2, if_neg c3]⟩
      obtain ⟨u, u1, u2, u3⟩ := pl i hi
      obtain ⟨v, v1, v2, v3⟩ := pl j hj
      rw [u2, v2]
      refine ii u v u1 v1 ?_
      rw [u3, v3]
      split <;> split <;> (try split) <;> (try split) <;> (try split) <;> (try split) <;> omega
    · rw [k5 a i e, k5 a j e]
      exact ds a ha i j hi hj hij
  · have := pk.2.2.2.2.2.2.1 L.length (by omega)
    omega
end
