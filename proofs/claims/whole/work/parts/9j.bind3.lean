/-! ===== BIND 3: all BINDS of a told row, in their order ===== -/
def bL (T : Nat → Int32) : List (Nat × Nat) := (List.range 10).flatMap fun t => (dl T t).map fun d => (t, d)
section
variable {C : Gm} {D : Nat} {T : Nat → Int32} {L : List (Nat × Nat)}
theorem bL_mem (hT : TOk T) (q : Nat × Nat) : q ∈ bL T ↔ q.1 < 10 ∧ q.2 < 6 ∧ wn T q.1 q.2 ≠ 0 := by
  unfold bL
  rw [List.mem_flatMap]
  constructor
  · rintro ⟨t, ht, hq⟩
    have h10 := List.mem_range.mp ht
    obtain ⟨d, hd, e⟩ := List.mem_map.mp hq
    subst e
    have := ((dl_ok hT h10).2 d).mp hd
    exact ⟨h10, this.1, this.2⟩
  · rintro ⟨h1, h2, h3⟩
    exact ⟨q.1, List.mem_range.mpr h1, List.mem_map.mpr ⟨q.2, ((dl_ok hT h1).2 q.2).mpr ⟨h2, h3⟩, rfl⟩⟩
theorem bL_pw (hT : TOk T) : (bL T).Pairwise (bf T) := by
  unfold bL
  rw [List.pairwise_flatMap]
  constructor
  · intro t ht
    rw [List.pairwise_map]
    exact List.Pairwise.imp (fun {a b} h => Or.inr ⟨rfl, h⟩) (dl_ok hT (List.mem_range.mp ht)).1
  · refine List.Pairwise.imp (fun {s t} h => ?_) List.pairwise_lt_range
    intro a ha b hb
    obtain ⟨d, -, e⟩ := List.mem_map.mp ha
    obtain ⟨d', -, e'⟩ := List.mem_map.mp hb
    subst e e'
    exact Or.inl h
theorem bf_nodup (h : L.Pairwise (bf T)) : L.Nodup := List.Pairwise.imp (fun {a b} hab e => by subst e; unfold bf bfr at hab; omega) h
theorem bL_uniq (hT : TOk T) (h : L.Pairwise (bf T)) (hm : ∀ q, q ∈ L ↔ q.1 < 10 ∧ q.2 < 6 ∧ wn T q.1 q.2 ≠ 0) : L = bL T := by
  refine List.Perm.eq_of_pairwise (le := bf T) ?_ h (bL_pw hT) ((List.perm_ext_iff_of_nodup (bf_nodup h) (bf_nodup (bL_pw hT))).mpr fun q => (hm q).trans (bL_mem hT q).symm)
  intro a b _ _ hab hba
  unfold bf bfr at hab hba
  have e1 : a.1 = b.1 := by omega
  rw [e1] at hab hba
  exact Prod.ext e1 (by omega)
theorem dl_6 (hT : TOk T) {t : Nat} (ht : t < 10) : (dl T t).length ≤ 6 := by
  have p : (dl T t).Perm ((List.range 6).filter fun d => decide (wn T t d ≠ 0)) := by
    refine (List.perm_ext_iff_of_nodup (dl_ok hT ht).nodup (List.Nodup.sublist List.filter_sublist List.nodup_range)).mpr fun d => ?_
    rw [(dl_ok hT ht).2, List.mem_filter, List.mem_range]
    simp
  rw [p.length_eq]
  exact Nat.le_trans (List.length_filter_le _ _) (by rw [List.length_range]; exact Nat.le_refl _)
theorem bL_len (hT : TOk T) : (bL T).length = fb T 10 ∧ (bL T).length ≤ 60 := by
  have e : ∀ n, ((List.range n).flatMap fun t => (dl T t).map fun d => (t, d)).length = fb T n := by
    intro n
    induction n with
    | zero => rfl
    | succ n ih =>
      rw [List.range_succ, List.flatMap_append, List.length_append, ih]
      show fb T n + ((List.flatMap (fun t => (dl T t).map fun d => (t, d)) [n]).length) = fb T n + (dl T n).length
      simp
  have h : ∀ n, n ≤ 10 → fb T n ≤ 6 * n := by
    intro n
    induction n with
    | zero => intro _; exact Nat.le_refl _
    | succ n ih =>
      intro hn
      have := ih (by omega)
      have := dl_6 hT (t := n) (by omega)
      show fb T n + (dl T n).length ≤ _
      omega
  have := h 10 (Nat.le_refl _)
  exact ⟨e 10, by unfold bL; rw [e 10]; omega⟩
end
