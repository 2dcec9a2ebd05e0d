/-! ===== PURE 28: what a State and a plan stand for, up to what they hold ===== -/
theorem upA {α : Type} (f : Nat → Nat → α) (a k : Nat) (x : α) : up2 f a k x a k = x := if_pos ⟨rfl, rfl⟩
theorem upN {α : Type} (f : Nat → Nat → α) {a k b j : Nat} {x : α} (h : b ≠ a ∨ j ≠ k) : up2 f a k x b j = f b j := if_neg (by omega)
/-- told rows that are alike but for LEAKS and COOLS -/
def Tq (T T' : Nat → Int32) : Prop := ∀ k, 5 ≤ k → (k < 73 ∨ 79 ≤ k) → k < 168 → T' k = T k
section
variable {M : Gm} {S P : Nat} {N N' T T' : Nat → Int32}
theorem tq_tz (h : Tq T T') : tz T' = tz T := by unfold tz; rw [h 163 (by omega) (by omega) (by omega)]
theorem tq_tt (h : Tq T T') : tt T' = tt T := by unfold tt; rw [h 164 (by omega) (by omega) (by omega)]
theorem tq_td (h : Tq T T') : td T' = td T := by unfold td; rw [h 165 (by omega) (by omega) (by omega)]
theorem tq_tw (h : Tq T T') : tw T' = tw T := by unfold tw; rw [h 167 (by omega) (by omega) (by omega)]
theorem tq_wn (h : Tq T T') {t d : Nat} (ht : t < 10) (hd : d < 6) : wn T' t d = wn T t d := by unfold wn; rw [h _ (by omega) (by omega) (by omega)]
theorem tq_mn (h : Tq T T') {d : Nat} (hd : d < 6) : mn T' d = mn T d := by unfold mn; rw [h _ (by omega) (by omega) (by omega)]
theorem tq_dl (h : Tq T T') {t : Nat} (ht : t < 10) : dl T' t = dl T t := by
  unfold dl
  congr 1
  funext i
  apply List.filter_congr
  intro d hd
  rw [tq_wn h ht (List.mem_range.mp hd)]
theorem tq_fb (h : Tq T T') : ∀ t, t ≤ 10 → fb T' t = fb T t := by
  intro t
  induction t with
  | zero => intro _; rfl
  | succ t ih => intro ht; show fb T' t + _ = fb T t + _; rw [ih (by omega), tq_dl h (by omega)]
theorem tq_di (h : Tq T T') {t : Nat} (ht : t < 10) (i : Nat) : di T' t i = di T t i := by unfold di; rw [tq_dl h ht]
theorem Tq.rfl' (T : Nat → Int32) : Tq T T := fun _ _ _ _ => rfl
theorem Tq.symm (h : Tq T T') : Tq T' T := fun k a b c => (h k a b c).symm
theorem TOk.q (hT : TOk T) (h : Tq T T') (hl : ∀ z, z < tz T → isN (T' z) 1 50) (hc : ∀ d, d < td T → isN (T' (73 + d)) 0 30) : TOk T' := by
  have h10 := hT.t.2
  have h5 := hT.z.2
  have h6 := hT.d.2
  have h8 := hT.w.2
  obtain ⟨⟨a1, a2, a3, a4⟩, b, c, d, e, f, g⟩ := hT
  have w : ∀ k, 5 ≤ k → (k < 73 ∨ 79 ≤ k) → k < 168 → T' k = T k := h
  unfold TOk
  rw [(tq_tz h), (tq_tt h), (tq_td h), (tq_tw h), w 163 (by omega) (by omega) (by omega), w 164 (by omega) (by omega) (by omega), w 165 (by omega) (by omega) (by omega), w 167 (by omega) (by omega) (by omega)]
  refine ⟨⟨a1, a2, a3, a4⟩, fun z hz => ?_, fun t ht => ?_, fun d' hd => ?_, fun t d' ht hd => ?_, fun k hk => ?_, fun t u ht hu => ?_⟩
  · rw [w (5 + z) (by omega) (by omega) (by omega), w (10 + z) (by omega) (by omega) (by omega)]
    exact ⟨hl z hz, (b z hz).2⟩
  · rw [w (15 + t) (by omega) (by omega) (by omega), w (25 + t) (by omega) (by omega) (by omega), w (35 + t) (by omega) (by omega) (by omega), w (45 + t) (by omega) (by omega) (by omega)]
    exact c t ht
  · rw [w (55 + d') (by omega) (by omega) (by omega), w (61 + d') (by omega) (by omega) (by omega), w (67 + d') (by omega) (by omega) (by omega)]
    exact ⟨(d d' hd).1, (d d' hd).2.1, (d d' hd).2.2.1, hc d' hd⟩
  · rw [w _ (by omega) (by omega) (by omega), w (25 + t) (by omega) (by omega) (by omega)]
    exact e t d' ht hd
  · rw [w (139 + k) (by omega) (by omega) (by omega), w (147 + k) (by omega) (by omega) (by omega), w (155 + k) (by omega) (by omega) (by omega)]
    exact f k hk
  · rw [w (25 + t) (by omega) (by omega) (by omega), w (25 + u) (by omega) (by omega) (by omega), w (15 + t) (by omega) (by omega) (by omega), w (15 + u) (by omega) (by omega) (by omega)]
    exact g t u ht hu
theorem PlV.q (pv : PlV M P T) (hT : TOk T) (h : Tq T T') : PlV M P T' := by
  have h10 := hT.t.2
  have h5 := hT.z.2
  have h6 := hT.d.2
  have h8 := hT.w.2
  have w : ∀ k, 5 ≤ k → (k < 73 ∨ 79 ≤ k) → k < 168 → T' k = T k := h
  obtain ⟨a, b, c, d, e, f⟩ := pv
  unfold PlV
  rw [(tq_tz h), (tq_tt h), (tq_td h), (tq_tw h), w 163 (by omega) (by omega) (by omega), w 164 (by omega) (by omega) (by omega), w 165 (by omega) (by omega) (by omega), w 167 (by omega) (by omega) (by omega), tq_fb h _ h10]
  refine ⟨a, fun z hz => ?_, fun t ht => ?_, fun d' hd => ?_, fun t i ht hi => ?_, fun k hk => ?_⟩
  · rw [w (5 + z) (by omega) (by omega) (by omega), w (10 + z) (by omega) (by omega) (by omega)]
    exact b z hz
  · rw [w (15 + t) (by omega) (by omega) (by omega), w (25 + t) (by omega) (by omega) (by omega), w (35 + t) (by omega) (by omega) (by omega), w (45 + t) (by omega) (by omega) (by omega), tq_fb h t (by omega), tq_fb h (t + 1) (by omega)]
    exact c t ht
  · rw [w (55 + d') (by omega) (by omega) (by omega), w (61 + d') (by omega) (by omega) (by omega), w (67 + d') (by omega) (by omega) (by omega)]
    exact d d' hd
  · rw [tq_dl h (by omega)] at hi
    have hi' := (di_ok hT (t := t) (by omega) hi).2.2
    rw [tq_fb h t (by omega), tq_di h (by omega), w (79 + 6 * t + di T t i) (by omega) (by omega) (by omega)]
    exact e t i ht hi
  · rw [w (139 + k) (by omega) (by omega) (by omega), w (147 + k) (by omega) (by omega) (by omega), w (155 + k) (by omega) (by omega) (by omega)]
    exact f k hk
theorem StV.q (sv : StV M S N T) (hT : TOk T) (h : Tq T T') (hN : ∀ k, k < 305 → N' k = N k) (hl : ∀ z, z < tz T → M.1 (S + 3) z = T' z) (hc : ∀ d, d < td T → M.1 (S + 12) d = T' (73 + d)) : StV M S N' T' := by
  have h10 := hT.t.2
  have h5 := hT.z.2
  have h6 := hT.d.2
  have eL : lg N' = lg N := by unfold lg; rw [hN 144 (by omega)]
  obtain ⟨a, b, c, d, e, f, g⟩ := sv
  unfold StV
  rw [(tq_tz h), (tq_tt h), (tq_td h), eL, hN 142 (by omega), hN 143 (by omega), hN 144 (by omega)]
  refine ⟨a, fun z hz => ?_, fun z i hz hi => ?_, fun t ht => ?_, fun d' hd => ?_, fun t i ht hi => ?_, fun j hj => ?_⟩
  · rw [hN z (by omega), hN (5 + z) (by omega), hN (20 + z) (by omega), hN (25 + z) (by omega), hN (15 + z) (by omega)]
    exact ⟨(b z hz).1, (b z hz).2.1, hl z hz, (b z hz).2.2.2⟩
  · rw [hN _ (by omega)]; exact c z i hz hi
  · rw [hN _ (by omega), hN _ (by omega)]; exact d t ht
  · rw [hN _ (by omega), hN _ (by omega)]; exact ⟨(e d' hd).1, (e d' hd).2.1, hc d' hd⟩
  · rw [tq_dl h (by omega)] at hi
    have hi' := (di_ok hT (t := t) (by omega) hi).2.2
    rw [tq_fb h t (by omega), tq_di h (by omega), hN _ (by omega)]
    exact f t i ht hi
  · have : min 40 (lg N) ≤ 40 := Nat.min_le_left _ _
    rw [hN _ (by omega)]; exact g j hj
theorem StV.cg (sv : StV M S N T) (hT : TOk T) (hN : ∀ k, k < 305 → N' k = N k) : StV M S N' T :=
  sv.q hT (Tq.rfl' T) hN (fun z hz => (sv.2.1 z hz).2.2.1) (fun d hd => (sv.2.2.2.2.1 d hd).2.2)
theorem NOk.q (hN : NOk N T) (hT : TOk T) (h : Tq T T') (e : ∀ k, k < 305 → N' k = N k) : NOk N' T' := by
  have h10 := hT.t.2
  have h5 := hT.z.2
  have h6 := hT.d.2
  obtain ⟨a, b, c, d, f, g⟩ := hN
  unfold NOk
  rw [(tq_tz h), (tq_tt h), (tq_td h), e 143 (by omega)]
  refine ⟨fun z hz => ?_, fun z i hz hi => ?_, fun t ht => ?_, fun d' hd => ?_, fun t d' ht hd => ?_, g⟩
  · rw [e z (by omega), e (5 + z) (by omega), e (20 + z) (by omega), e (25 + z) (by omega), e (15 + z) (by omega), e (10 + z) (by omega)]
    exact a z hz
  · rw [e _ (by omega)]; exact b z i hz hi
  · rw [e _ (by omega)]; exact c t ht
  · rw [e _ (by omega), e _ (by omega), tq_mn h (by omega)]; exact d d' hd
  · rw [e _ (by omega), tq_wn h ht hd, tq_mn h hd]; exact f t d' ht hd
theorem NOk.cg (hN : NOk N T) (hT : TOk T) (e : ∀ k, k < 305 → N' k = N k) : NOk N' T := hN.q hT (Tq.rfl' T) e
theorem LgOk.cg {k : Nat} (h : LgOk N k) (e : ∀ k, k < 305 → N' k = N k) : LgOk N' k := h.same (e 144 (by omega))
end
