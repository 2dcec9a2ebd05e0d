/-! ===== PURE 48: changes within one Memory ===== -/
def Fg (Q : Nat) (M M' : Gm) : Prop :=
  (∃ E, M'.2.2 = M.2.2 ++ E) ∧
  (∀ a k, a < M.2.2.length → a ≠ Q + 1 → a ≠ Q + 6 → (a ≠ 304 ∨ k ≠ 0) → (∀ p, p < 40 → eA M' Q p ≠ 0 → a ≠ eA M' Q p) → M'.2.1 a k = M.2.1 a k) ∧
  (∀ a, a < M.2.2.length → (a < Q ∨ Q + 20 < a) → (a < 299 ∨ 345 < a) → (∀ p, p < 40 → eA M' Q p ≠ 0 → a < eA M' Q p ∨ eA M' Q p + 14 < a) → M'.1 a = M.1 a) ∧
  ∀ p, p < 40 → eA M Q p ≠ 0 → eA M' Q p = eA M Q p
section
variable {M M' M2 : Gm} {Q P D k n c : Nat} {N T pa nz nm nh st : Nat → Int32} {A A' : Nat → Nat → Int32}
theorem Fg.len (f : Fg Q M M') : M.2.2.length ≤ M'.2.2.length := by
  obtain ⟨E, e⟩ := f.1
  rw [e, List.length_append]
  omega
theorem Fg.kdE (f : Fg Q M M') {a : Nat} (ha : a < M.2.2.length) : kd M' a = kd M a := by
  obtain ⟨E, e⟩ := f.1
  unfold kd
  rw [e, List.getD_eq_getElem?_getD, List.getD_eq_getElem?_getD, List.getElem?_append_left ha]
theorem eA_big (ak : AcK M) (hQ : isQ Q) {p : Nat} (hp : p < 40) : eA M Q p = 0 ∨ 346 ≤ eA M Q p := by
  by_cases c : eA M Q p = 0
  · exact Or.inl c
  · exact Or.inr (ak.1 Q p hQ hp c).1
theorem Fg.ref (f : Fg Q M M') (hl : 346 ≤ M.2.2.length) (ak' : AcK M') (hQ : isQ Q) {a : Nat} (h1 : 64 ≤ a) (h2 : a < 346) (h3 : a ≠ Q + 1) (h4 : a ≠ Q + 6) (k : Nat) (h5 : a ≠ 304 ∨ k ≠ 0) : M'.2.1 a k = M.2.1 a k :=
  f.2.1 a k (by omega) h3 h4 h5 (fun p hp _ e => by have := eA_big ak' hQ hp; omega)
theorem Fg.int (f : Fg Q M M') (hl : 346 ≤ M.2.2.length) (ak' : AcK M') (hQ : isQ Q) {a : Nat} (h1 : a < 299) (h2 : a < Q ∨ Q + 20 < a) : M'.1 a = M.1 a :=
  f.2.2.1 a (by omega) h2 (Or.inl h1) (fun p hp e => by have := eA_big ak' hQ hp; omega)
theorem Fg.wd (f : Fg Q M M') (hl : 346 ≤ M.2.2.length) (ak' : AcK M') (hQ : isQ Q) (w : Wd M P T) : Wd M' P T := by
  have hQ' := hQ
  unfold isQ at hQ'
  obtain ⟨a, b, c, d, e, g, i⟩ := w
  have e' := e
  unfold POk at e'
  have R := fun a (h1 : 64 ≤ a) h2 h3 h4 k h5 => f.ref (a := a) hl ak' hQ h1 h2 h3 h4 k h5
  refine ⟨a.ext (fun a ha => f.kdE (by omega)) (fun k => R _ (by omega) (by omega) (by omega) (by omega) _ (by omega)), ?_, ?_, d.ext (fun a h1 h2 => f.kdE (by omega)) (fun a k _ _ => R _ (by omega) (by omega) (by omega) (by omega) _ (by omega)), e, g, i.ext d g (fun k => R _ (by omega) (by omega) (by omega) (by omega) _ (by omega)) (fun a _ _ => f.int hl ak' hQ (by omega) (by omega))⟩
  · unfold CkK at *; rw [R 299 (by omega) (by omega) (by omega) (by omega) _ (by omega), R 299 (by omega) (by omega) (by omega) (by omega) _ (by omega)]; exact b
  · unfold FsK at *; rw [R 302 (by omega) (by omega) (by omega) (by omega) _ (by omega), R 302 (by omega) (by omega) (by omega) (by omega) _ (by omega), R 302 (by omega) (by omega) (by omega) (by omega) _ (by omega)]; exact c
theorem Fg.mmv (f : Fg Q M M') (hl : 346 ≤ M.2.2.length) (ak : AcK M) (ak' : AcK M') (hQ : isQ Q) {Q' : Nat} (hQ' : isQ Q') (hne : Q ≠ Q') (h : MmV M Q' P T k N pa nz nm nh st n c) : MmV M' Q' P T k N pa nz nm nh st n c := by
  have q1 := hQ
  have q2 := hQ'
  unfold isQ at q1 q2
  have R := fun a (h1 : 64 ≤ a) h2 h3 h4 k h5 => f.ref (a := a) hl ak' hQ h1 h2 h3 h4 k h5
  obtain ⟨a, ⟨x, b1, b2, b3, b4, b5⟩, g, d, e⟩ := h
  have I := fun a h1 h2 => f.int (a := a) hl ak' hQ h1 h2
  refine ⟨?_, ⟨x, b1, by rw [I Q' (by omega) (by omega)]; exact b2, by rw [I Q' (by omega) (by omega)]; exact b3, b4, fun i hi => ?_⟩, ?_, d, fun i hi => by rw [I (Q' + 5) (by omega) (by omega)]; exact e i hi⟩
  · obtain ⟨a1, a2, a3, a4⟩ := a
    exact ⟨a1.ext (fun a _ _ => f.kdE (by omega)) (fun k => R _ (by omega) (by omega) (by omega) (by omega) _ (by omega)), a2, a3.ext (fun a _ _ => I a (by omega) (by omega)), a4⟩
  · generalize hpp : (x + (40 - n) + i) % 40 = p
    have hp : p < 40 := by rw [← hpp]; exact Nat.mod_lt _ (by omega)
    have b5' := b5 i hi
    rw [hpp] at b5'
    have ee : eA M' Q' p = eA M Q' p := R (Q' + 1) (by omega) (by omega) (by omega) (by omega) p (by omega)
    obtain ⟨c1, a1, a2, a3, a4⟩ := b5'
    obtain ⟨e1, e2, -⟩ := ak.1 Q' p hQ' hp c1
    rw [ee]
    have dj : ∀ p', p' < 40 → eA M' Q p' ≠ 0 → eA M Q' p + 14 < eA M' Q p' ∨ eA M' Q p' + 14 < eA M Q' p := fun p' hp' hne' => by
      have := ak'.2 Q' p Q p' hQ' hQ hp hp' (Or.inl (Ne.symm hne)) (by rw [ee]; exact c1) hne'
      rw [ee] at this
      exact this
    refine ⟨c1, a1.ext (fun a _ _ => f.kdE (by omega)) (fun k => f.2.1 _ _ (by omega) (by omega) (by omega) (by omega) (fun p' hp' hne' q => ?_)), a2, a3.ext (fun a h1 h2 => f.2.2.1 a (by omega) (by omega) (by omega) (fun p' hp' hne' => ?_)), a4⟩
    · have := dj p' hp' hne'
      omega
    · have := dj p' hp' hne'
      omega
  · unfold NtV at *
    rw [I Q' (by omega) (by omega), I (Q' + 2) (by omega) (by omega), I (Q' + 3) (by omega) (by omega), I (Q' + 4) (by omega) (by omega)]
    exact g
theorem Fg.obk (f : Fg Q M M') (hl : 346 ≤ M.2.2.length) (ak' : AcK M') (hQ : isQ Q) (o : ObK M P D) : ObK M' P D := by
  have q1 := hQ
  unfold isQ at q1
  have R := fun a (h1 : 64 ≤ a) h2 h3 h4 k h5 => f.ref (a := a) hl ak' hQ h1 h2 h3 h4 k h5
  exact o.ext (fun a k h => R a (by omega) (by omega) (by omega) (by omega) k (by omega))
theorem Fg.mk (f : Fg Q M M') (hl : 346 ≤ M.2.2.length) (ak' : AcK M') (hQ : isQ Q) {Q' : Nat} (h : MmK M Q') : MmK M' Q' := by
  have q1 := hQ
  have q2 := h.2
  unfold isQ at q1
  have R := fun a (h1 : 64 ≤ a) h2 h3 h4 k h5 => f.ref (a := a) hl ak' hQ h1 h2 h3 h4 k h5
  unfold MmK at *
  rw [R Q' (by omega) (by omega) (by omega) (by omega) _ (by omega), R Q' (by omega) (by omega) (by omega) (by omega) _ (by omega), R Q' (by omega) (by omega) (by omega) (by omega) _ (by omega), R Q' (by omega) (by omega) (by omega) (by omega) _ (by omega), R Q' (by omega) (by omega) (by omega) (by omega) _ (by omega), R Q' (by omega) (by omega) (by omega) (by omega) _ (by omega)]
  exact h
theorem Fg.plk (f : Fg Q M M') (hl : 346 ≤ M.2.2.length) (ak' : AcK M') (hQ : isQ Q) (hD : D = 67 ∨ D = 162) (h : PlK M D) : PlK M' D := by
  have q1 := hQ
  unfold isQ at q1
  exact h.ext (fun a h1 h2 => f.kdE (by omega)) (fun a k _ _ => f.ref hl ak' hQ (by omega) (by omega) (by omega) (by omega) _ (by omega))
theorem Fg.t304 (f : Fg Q M M') (hl : 346 ≤ M.2.2.length) (ak' : AcK M') (hQ : isQ Q) (h : ∃ P', StK M 304 P') : ∃ P', StK M' 304 P' := by
  have q1 := hQ
  unfold isQ at q1
  obtain ⟨P', s2⟩ := h
  exact ⟨M'.2.1 304 0, by rw [f.kdE (by omega)]; exact s2.1, rfl, fun i hi => ⟨by rw [f.ref hl ak' hQ (by omega) (by omega) (by omega) (by omega) _ (by omega)]; exact (s2.2.2 i hi).1, by rw [f.kdE (by omega)]; exact (s2.2.2 i hi).2⟩⟩
theorem Fg.trans (f : Fg Q M M') (g : Fg Q M' M2) : Fg Q M M2 := by
  have hl := f.len
  obtain ⟨E, e⟩ := f.1
  obtain ⟨F, e'⟩ := g.1
  have up : ∀ p, p < 40 → eA M' Q p ≠ 0 → eA M2 Q p = eA M' Q p := g.2.2.2
  refine ⟨⟨E ++ F, by rw [e', e, List.append_assoc]⟩, fun a k h1 h2 h3 h4 h5 => ?_, fun a h1 h2 h3 h4 => ?_, fun p hp h => ?_⟩
  · rw [g.2.1 a k (by omega) h2 h3 h4 h5]
    refine f.2.1 a k h1 h2 h3 h4 (fun p hp hne q => ?_)
    have := up p hp hne
    exact h5 p hp (by rw [this]; exact hne) (by rw [this]; exact q)
  · rw [g.2.2.1 a (by omega) h2 h3 h4]
    refine f.2.2.1 a h1 h2 h3 (fun p hp hne => ?_)
    have := h4 p hp (by rw [up p hp hne]; exact hne)
    rw [up p hp hne] at this
    exact this
  · have := f.2.2.2 p hp h
    rw [up p hp (by rw [this]; exact h), this]
end
