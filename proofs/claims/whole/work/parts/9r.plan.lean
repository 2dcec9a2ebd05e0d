/-! ===== PLAN: the call ===== -/
/-- what a plan's reading may change of references and kinds -/
def Pf (M M' : Gm) : Prop := M'.2.2 = M.2.2 ∧ ∀ a i, a ≠ 71 → a ≠ 166 → a ≠ 64 → (a ≠ 263 ∨ i ≠ 0) → M'.2.1 a i = M.2.1 a i
section
variable {M M' C : Gm} {P D S P' k n : Nat} {N T : Nat → Int32} {A A' : Nat → Nat → Int32}
theorem Pf.kdE (f : Pf M M') (a : Nat) : kd M' a = kd M a := by unfold kd; rw [f.1]
theorem Pf.ky (f : Pf M M') (h : Ky M) : Ky M' := h.ext (fun a _ => f.kdE a) (fun k => f.2 319 k (by decide) (by decide) (by decide) (by omega))
theorem Pf.ck (f : Pf M M') (h : CkK M) : CkK M' := by
  unfold CkK at *
  rw [f.2 299 _ (by decide) (by decide) (by decide) (by omega), f.2 299 _ (by decide) (by decide) (by decide) (by omega)]
  exact h
theorem Pf.fs (f : Pf M M') (h : FsK M) : FsK M' := by
  unfold FsK at *
  rw [f.2 302 _ (by decide) (by decide) (by decide) (by omega), f.2 302 _ (by decide) (by decide) (by decide) (by omega), f.2 302 _ (by decide) (by decide) (by decide) (by omega)]
  exact h
theorem Pf.mm (f : Pf M M') {Q : Nat} (h : MmK M Q) : MmK M' Q := by
  have hQ := h.2
  unfold MmK at *
  rw [f.2 Q _ (by omega) (by omega) (by omega) (by omega), f.2 Q _ (by omega) (by omega) (by omega) (by omega), f.2 Q _ (by omega) (by omega) (by omega) (by omega), f.2 Q _ (by omega) (by omega) (by omega) (by omega), f.2 Q _ (by omega) (by omega) (by omega) (by omega), f.2 Q _ (by omega) (by omega) (by omega) (by omega)]
  exact h
theorem Pf.stK (f : Pf M M') (h : StK M S P') (hS : 263 < S) : StK M' S P' := h.ext (fun a _ _ => f.kdE a) (fun k => f.2 S k (by omega) (by omega) (by omega) (by omega))
theorem Pf.ac (f : Pf M M') (h : AcK M) : AcK M' := by
  have e : ∀ Q p, isQ Q → eA M' Q p = eA M Q p := fun Q p hQ => by
    unfold isQ at hQ
    exact f.2 _ _ (by omega) (by omega) (by omega) (by omega)
  refine ⟨fun Q p hQ hp hne => ?_, fun Q p Q' p' hQ hQ' hp hp' hd h1 h2 => ?_⟩
  · rw [e Q p hQ] at hne ⊢
    obtain ⟨a, b, P', c⟩ := h.1 Q p hQ hp hne
    exact ⟨a, by rw [f.1]; exact b, P', f.stK c (by omega)⟩
  · rw [e Q p hQ] at h1 ⊢
    rw [e Q' p' hQ'] at h2 ⊢
    exact h.2 Q p Q' p' hQ hQ' hp hp' hd h1 h2
/-- a FAULT: only the draft, the tape's length, the place and the count have changed -/
theorem CV.bad (cv : CV M A P D k) (f : Pf M M') (ob : ObK M' P D) (pd' : PlK M' D) (eP : ∀ i, M'.2.1 (P + 4) i = M.2.1 (P + 4) i) (e3 : M'.2.1 263 0 = M.2.1 263 0) (ei : ∀ a, a ≠ 64 → a ≠ 65 → a ≠ 66 → a ≠ 262 → (a < D ∨ D + 94 < a) → (a < 299 ∨ 345 < a) → M'.1 a = M.1 a) (e64 : M'.1 64 8 = M.1 64 8) (st' : ∀ i, i < 3 → M'.1 262 i = A' 328 i)
    (hA : ∀ a, a ∈ [324, 325, 333, 334, 335, 336, 339, 340, 341, 342, 343, 344] → A' a = A a) (hB : ∀ i, i ∈ [26, 28, 35, 36, 37] → A' 319 i = A 319 i) (tp : TpV M' A') (ft : A' 319 20 = M'.1 64 2) : CV M' A' P D k := by
  obtain ⟨⟨o, w, pd, t6⟩, ⟨m1, m2, ⟨P1, s1⟩, ⟨P2, s2⟩, ak⟩, ⟨n, c, a1, a2, a3⟩, ⟨i1, i2⟩, -, -⟩ := cv
  have eT := hA 325 (by decide)
  have hPD := o.2
  have sdX : ∀ S R, Sd M S P R (A 325) k → (263 ≤ S ∧ S + 14 < 299 ∨ 346 ≤ S) → Sd M' S P R (A 325) k := fun S R q1 q2 => by
    refine ⟨?_, q1.2.1, q1.2.2.1.ext (fun a _ _ => ei a (by omega) (by omega) (by omega) (by omega) (by omega) (by omega)), q1.2.2.2⟩
    by_cases c3 : S = 263
    · subst c3
      refine q1.1.ext (fun a _ _ => f.kdE a) (fun k => ?_)
      by_cases k0 : k = 0
      · rw [k0]; exact e3
      · exact f.2 263 k (by decide) (by decide) (by decide) (by omega)
    · exact f.stK q1.1 (by omega)
  have mvX : ∀ {Q N pa nz nm nh st st2 n c}, isQ Q → MmV M Q P (A 325) k N pa nz nm nh st n c → (∀ i, i < 3 → M'.1 (Q + 5) i = st2 i) → MmV M' Q P (A 325) k N pa nz nm nh st2 n c := fun {Q N pa nz nm nh st st2 n c} h0 q qs => by
    have h0' := h0
    unfold isQ at h0'
    obtain ⟨b1, ⟨x, d1, d2, d3, d4, d5⟩, e1, e2', -⟩ := q
    refine ⟨sdX _ _ b1 (by omega), ⟨x, d1, by rw [ei Q (by omega) (by omega) (by omega) (by omega) (by omega) (by omega)]; exact d2, by rw [ei Q (by omega) (by omega) (by omega) (by omega) (by omega) (by omega)]; exact d3, d4, fun i hi => ?_⟩, ?_, e2', qs⟩
    · have ee : ∀ p, eA M' Q p = eA M Q p := fun p => f.2 _ _ (by omega) (by omega) (by omega) (by omega)
      rw [ee]
      have bg := ak.1 Q _ h0 (Nat.mod_lt _ (by omega)) (d5 i hi).1
      exact ⟨(d5 i hi).1, sdX _ _ (d5 i hi).2 (by omega)⟩
    · unfold NtV at *
      rw [ei Q (by omega) (by omega) (by omega) (by omega) (by omega) (by omega), ei (Q + 2) (by omega) (by omega) (by omega) (by omega) (by omega) (by omega), ei (Q + 3) (by omega) (by omega) (by omega) (by omega) (by omega) (by omega), ei (Q + 4) (by omega) (by omega) (by omega) (by omega) (by omega) (by omega)]
      exact e1
  refine ⟨⟨ob, ?_, pd', by rw [eT]; exact t6⟩, ⟨f.mm m1, f.mm m2, ⟨P1, f.stK s1 (by omega)⟩, ⟨P2, f.stK s2 (by omega)⟩, f.ac ak⟩, ⟨n, c, (hB 26 (by decide)).trans a1, (hB 28 (by decide)).trans a2, ?_⟩, ⟨?_, ?_⟩, tp, ft⟩
  · rw [eT]
    obtain ⟨u1, u2, u3, u4, u5, u6, u7⟩ := w
    refine ⟨f.ky u1, f.ck u2, f.fs u3, u4.ext (fun a _ _ => f.kdE a) (fun a i h1 h2 => ?_), u5, u6, u7.ext u4 u6 eP (fun a h1 h2 => ei a (by omega) (by omega) (by omega) (by omega) (by omega) (by omega))⟩
    by_cases c4 : a = P + 4
    · rw [c4]; exact eP i
    · exact f.2 a i (by omega) (by omega) (by omega) (by omega)
  · rw [eT, hA 324 (by decide), hA 333 (by decide), hA 334 (by decide), hA 335 (by decide), hA 336 (by decide)]
    exact mvX (Or.inl rfl) a3 st'
  · rw [hB 35 (by decide), e64]; exact i1
  · rw [hB 35 (by decide), hB 36 (by decide), hB 37 (by decide), eT, hA 339 (by decide), hA 340 (by decide), hA 341 (by decide), hA 342 (by decide), hA 343 (by decide), hA 344 (by decide)]
    rcases i2 with q | ⟨q, n', c', b1, b2, b3⟩
    · exact Or.inl q
    · refine Or.inr ⟨q, n', c', b1, b2, ?_⟩
      exact mvX (Or.inr rfl) b3 (fun i hi => by rw [ei (278 + 5) (by omega) (by omega) (by omega) (by omega) (by omega) (by omega)]; exact b3.2.2.2.2 i hi)
/-- a plan is in force -/
theorem CV.good (cv : CV M A P D k) (f : Pf M M') (ob : ObK M' D P) (pd' : PlK M' D) (eP : ∀ i, M'.2.1 (P + 4) i = M.2.1 (P + 4) i) (hT : TOk (A' 325)) (pv : PlV M' D (A' 325)) (t6 : A' 325 166 = Int32.ofNat (fb (A' 325) (tt (A' 325)))) (sd : Sd M' 263 D (A' 324) (A' 325) 0) (q2 : M'.1 257 2 = 0) (q3 : M'.1 257 3 = 0) (q7 : M'.1 257 7 = 0) (st' : ∀ i, i < 3 → M'.1 262 i = A' 328 i) (h26 : A' 319 26 = 0) (h28 : A' 319 28 = 0) (h35 : A' 319 35 = 0) (e64 : M'.1 64 8 = 0) (tp : TpV M' A') (ft : A' 319 20 = M'.1 64 2) : CV M' A' D P k := by
  obtain ⟨⟨o, w, pd, -⟩, ⟨m1, m2, ⟨P1, s1⟩, ⟨P2, s2⟩, ak⟩, -, -, -, -⟩ := cv
  have hPD := o.2
  obtain ⟨u1, u2, u3, u4, u5, u6, u7⟩ := w
  refine ⟨⟨ob, ⟨f.ky u1, f.ck u2, f.fs u3, pd', by unfold POk; omega, hT, pv⟩, u4.ext (fun a _ _ => f.kdE a) (fun a i h1 h2 => ?_), t6⟩, ⟨f.mm m1, f.mm m2, ⟨P1, f.stK s1 (by omega)⟩, ⟨P2, f.stK s2 (by omega)⟩, f.ac ak⟩, ⟨0, 0, h26, h28, sd.le (Nat.zero_le _), ⟨0, by omega, q2, q3, by omega, fun i h => absurd h (Nat.not_lt_zero _)⟩, ⟨q7, by omega, fun i h => absurd h (Nat.not_lt_zero _)⟩, fun i h => absurd h (Nat.not_lt_zero _), st'⟩, ⟨by rw [h35, e64], Or.inl h35⟩, tp, ft⟩
  by_cases c4 : a = P + 4
  · rw [c4]; exact eP i
  · exact f.2 a i (by omega) (by omega) (by omega) (by omega)
/-- the State at a new plan -/
theorem DrV.sd (h : DrV C D N T) (sk : StK M' 263 D) (b1 : M'.1 263 1 = 0 ∧ M'.1 263 2 = C.1 D 10 ∧ M'.1 263 17 = 0 ∧ M'.1 263 18 = 0 ∧ M'.1 263 19 = 0)
    (b2 : ∀ i, i < tz T → M'.1 (263 + 1) i = 200 ∧ M'.1 (263 + 2) i = C.1 (D + 6 + i) 0 ∧ M'.1 (263 + 3) i = C.1 (D + 6 + i) 1 ∧ M'.1 (263 + 4) i = 200 ∧ M'.1 (263 + 5) i = 0 ∧ M'.1 (263 + 6) i = 0)
    (b3 : ∀ i, i < 20 → M'.1 (263 + 7) i = 200) (b4 : ∀ i, i < 10 → M'.1 (263 + 8) i = 0 ∧ M'.1 (263 + 9) i = 0)
    (b5 : ∀ i, i < td T → M'.1 (263 + 10) i = 0 ∧ M'.1 (263 + 11) i = -1 ∧ M'.1 (263 + 12) i = C.1 (D + 21 + i) 3) (b6 : ∀ i, i < 60 → M'.1 (263 + 13) i = 0) : Sd M' 263 D N T 0 := by
  obtain ⟨hT, ⟨a5, a6, a7, a9, a10, a11⟩, z, c, d', -, f, g⟩ := h
  have t10 := hT.t.2
  have d6 := hT.d.2
  have z5 := hT.z.2
  have g' : ∀ k, k < 305 → (k < 5 ∨ 10 ≤ k) → k ≠ 143 → N k = eN k := g
  have e0 : ∀ k, k < 305 → 10 ≤ k → ¬ ((20 ≤ k ∧ k < 25) ∨ (30 ≤ k ∧ k < 50)) → ¬ (76 ≤ k ∧ k < 82) → k ≠ 143 → N k = 0 := fun k h1 h2 h3 h4 h5 => by
    rw [g k h1 (by omega) h5]
    unfold eN
    rw [if_neg (by omega), if_neg h4]
  have e2 : ∀ k, (k < 5 ∨ (20 ≤ k ∧ k < 25) ∨ (30 ≤ k ∧ k < 50)) → N k = 200 := fun k h1 => by
    rw [g k (by omega) (by omega) (by omega)]
    unfold eN
    rw [if_pos h1]
  have em : ∀ k, 76 ≤ k → k < 82 → N k = -1 := fun k h1 h2 => by
    rw [g k (by omega) (by omega) (by omega)]
    unfold eN
    rw [if_neg (by omega), if_pos ⟨h1, h2⟩]
  have n144 : N 144 = 0 := e0 144 (by omega) (by omega) (by omega) (by omega) (by omega)
  have lg0 : lg N = 0 := by unfold lg; rw [n144]; rfl
  have i0 : ∀ m, isN 0 0 m := fun m => ⟨0, rfl, Nat.le_refl _, Nat.zero_le _⟩
  have i2 : isN 200 0 1500 := ⟨200, rfl, by omega, by omega⟩
  have z0 : (0 : Int32).toInt = 0 := rfl
  have zm : (-1 : Int32).toInt = -1 := rfl
  refine ⟨sk, Or.inl rfl, ⟨⟨?_, ?_, ?_, ?_, ?_⟩, fun y hy => ?_, fun y i hy hi => ?_, fun t ht => ?_, fun d hd => ?_, fun t i ht hi => ?_, fun j hj => ?_⟩, ⟨fun y hy => ?_, fun y i hy hi => ?_, fun t ht => ?_, fun d hd => ?_, fun t d ht hd => ?_, a11⟩, ⟨by rw [n144, lg0]; rfl, by rw [lg0]; exact Nat.le_refl _⟩⟩
  · rw [b1.1, e0 142 (by omega) (by omega) (by omega) (by omega) (by omega)]
  · rw [b1.2.1]; exact a10
  · rw [b1.2.2.1, lg0]; rfl
  · rw [b1.2.2.2.1, lg0]; rfl
  · rw [b1.2.2.2.2, n144]
  · obtain ⟨h1, h2, h3, h4, h5, h6⟩ := b2 y hy
    obtain ⟨u1, u2, u3, u4⟩ := z y hy
    refine ⟨?_, ?_, ?_, ?_, ?_, ?_⟩
    · rw [h1, e2 y (by omega)]
    · rw [h2]; exact u1
    · rw [h3]; exact u3
    · rw [h4, e2 (20 + y) (by omega)]
    · rw [h5, e0 (25 + y) (by omega) (by omega) (by omega) (by omega) (by omega)]
    · rw [h6, e0 (15 + y) (by omega) (by omega) (by omega) (by omega) (by omega)]
  · rw [b3 (4 * y + i) (by omega), e2 (30 + 4 * y + i) (by omega)]
  · rw [(b4 t (by omega)).1, (b4 t (by omega)).2, e0 (50 + t) (by omega) (by omega) (by omega) (by omega) (by omega), e0 (60 + t) (by omega) (by omega) (by omega) (by omega) (by omega)]
    exact ⟨rfl, rfl⟩
  · obtain ⟨h1, h2, h3⟩ := b5 d hd
    rw [h1, h2, h3, e0 (70 + d) (by omega) (by omega) (by omega) (by omega) (by omega), em (76 + d) (by omega) (by omega)]
    exact ⟨rfl, rfl, (d' d hd).2.2.2⟩
  · have s1 : fb T (t + 1) = fb T t + (dl T t).length := rfl
    have s2 := fb_up T (show t + 1 ≤ 10 by omega)
    have s3 := (bL_len hT)
    have dm : di T t i ∈ dl T t := by unfold di; rw [List.getD_eq_getElem?_getD, List.getElem?_eq_getElem hi]; exact List.getElem_mem hi
    have := ((dl_ok hT (show t < 10 by omega)).2 _).mp dm
    rw [b6 (fb T t + i) (by omega), e0 (82 + 6 * t + di T t i) (by omega) (by omega) (by omega) (by omega) (by omega)]
  · rw [lg0] at hj
    exact absurd hj (by omega)
  · rw [e2 y (by omega), e2 (20 + y) (by omega), e0 (25 + y) (by omega) (by omega) (by omega) (by omega) (by omega), e0 (15 + y) (by omega) (by omega) (by omega) (by omega) (by omega), e0 (10 + y) (by omega) (by omega) (by omega) (by omega) (by omega)]
    exact ⟨i2, (z y hy).2.1, i2, ⟨by omega, by omega⟩, i0 _, rfl⟩
  · rw [e2 (30 + 4 * y + i) (by omega)]; exact i2
  · rw [e0 (50 + t) (by omega) (by omega) (by omega) (by omega) (by omega)]; exact i0 _
  · rw [e0 (70 + d) (by omega) (by omega) (by omega) (by omega) (by omega), em (76 + d) (by omega) (by omega)]
    exact ⟨i0 _, by omega, by omega⟩
  · rw [e0 (82 + 6 * t + d) (by omega) (by omega) (by omega) (by omega) (by omega)]
    exact ⟨i0 _, fun _ => rfl, fun _ => i0 _⟩
end
