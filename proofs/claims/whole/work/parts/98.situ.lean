/-! ===== SITU: how a CLAUSE goes on, from C0 and R0 on; a the row of the plan that is filled ===== -/
/-- the class's memory C: the row a is Z, all else as in C0 (the reader aside) -/
def Cw (C0 C : Gm) (a : Nat) (Z : Nat → Int32) : Prop := C.2 = C0.2 ∧ C.1 66 1 = C0.1 66 1 ∧ C.1 a = Z ∧ ∀ i, i ≠ 66 → i ≠ a → C.1 i = C0.1 i
/-- the reference's memory R: the rows that it reads into are N and T, FORESEEN is told by g, all else as in R0 (the reader aside) -/
def Rw (R0 R : Gm) (N T : Nat → Int32) (g : Int32) : Prop := R.2 = R0.2 ∧ R.1 326 = N ∧ R.1 327 = T ∧ R.1 319 21 = g ∧ (∀ i, i ∉ [319, 326, 327] → R.1 i = R0.1 i) ∧ ∀ k, (k < 12 ∨ k = 13 ∨ k = 20 ∨ 21 < k) → R.1 319 k = R0.1 319 k
section
variable {C0 R0 C R C' R' : Gm} {b : Nat → Int32} {n e a D : Nat} {Z N T : Nat → Int32} {g : Int32}
theorem Cw.f (h : Cw C0 C a Z) (f : Fk C C') (ha : a ≠ 66) : Cw C0 C' a Z := by
  obtain ⟨h1, h2, h3, h4⟩ := h
  have o : ∀ i, i ≠ 66 → C'.1 i = C.1 i := fun i hi => f.1.2 i (by simp only [List.mem_singleton]; exact hi)
  exact ⟨f.1.1.trans h1, f.2.trans h2, (o a ha).trans h3, fun i q1 q2 => (o i q1).trans (h4 i q1 q2)⟩
theorem Cw.s (h : Cw C0 C a Z) (ha : a ≠ 66) (k : Nat) (x : Int32) : Cw C0 (sI C a k x) a (ud Z k x) := by
  obtain ⟨h1, h2, h3, h4⟩ := h
  exact ⟨h1, by rw [sI_ne _ _ _ (by omega)]; exact h2, by rw [sI_own, h3], fun i q1 q2 => by rw [sI_ne _ _ _ q2]; exact h4 i q1 q2⟩
theorem Rw.f (h : Rw R0 R N T g) (f : Fq R R') : Rw R0 R' N T g := by
  obtain ⟨h1, h2, h3, h4, h5, h6⟩ := h
  refine ⟨f.1.1.trans h1, (f.1.2 326 (by decide)).trans h2, (f.1.2 327 (by decide)).trans h3, (f.2 21 (by omega)).trans h4, fun i hi => (f.1.2 i (fun q => hi ?_)).trans (h5 i hi), fun k hk => (f.2 k (by omega)).trans (h6 k hk)⟩
  simp only [List.mem_singleton] at q
  rw [q]; decide
theorem Rw.s6 (h : Rw R0 R N T g) (k : Nat) (x : Int32) : Rw R0 (sI R 326 k x) (ud N k x) T g := by
  obtain ⟨h1, h2, h3, h4, h5, h6⟩ := h
  refine ⟨h1, by rw [sI_own, h2], by rw [sI_ne _ _ _ (by decide)]; exact h3, by rw [sI_ne _ _ _ (by decide)]; exact h4, fun i hi => ?_, fun k hk => by rw [sI_ne _ _ _ (by decide)]; exact h6 k hk⟩
  rw [sI_ne _ _ _ (fun q => hi (by rw [q]; decide))]; exact h5 i hi
theorem Rw.s7 (h : Rw R0 R N T g) (k : Nat) (x : Int32) : Rw R0 (sI R 327 k x) N (ud T k x) g := by
  obtain ⟨h1, h2, h3, h4, h5, h6⟩ := h
  refine ⟨h1, by rw [sI_ne _ _ _ (by decide)]; exact h2, by rw [sI_own, h3], by rw [sI_ne _ _ _ (by decide)]; exact h4, fun i hi => ?_, fun k hk => by rw [sI_ne _ _ _ (by decide)]; exact h6 k hk⟩
  rw [sI_ne _ _ _ (fun q => hi (by rw [q]; decide))]; exact h5 i hi
theorem Rw.s21 (h : Rw R0 R N T g) (x : Int32) : Rw R0 (sI R 319 21 x) N T x := by
  obtain ⟨h1, h2, h3, h4, h5, h6⟩ := h
  refine ⟨h1, by rw [sI_ne _ _ _ (by decide)]; exact h2, by rw [sI_ne _ _ _ (by decide)]; exact h3, by rw [sI_own, ud_at], fun i hi => ?_, fun k hk => by rw [sI_own, ud_ne _ _ (by omega)]; exact h6 k hk⟩
  rw [sI_ne _ _ _ (fun q => hi (by rw [q]; decide))]; exact h5 i hi
/-- readers that are alike -/
theorem Cz.w (h : Cz C b n e) (q : C'.1 66 = C.1 66) : Cz C' b n e := by unfold Cz at *; rw [q]; exact h
theorem RT.w (h : RT R b n e) (q : ∀ k, (12 ≤ k ∧ k < 18) → R'.1 319 k = R.1 319 k) : RT R' b n e := by
  unfold RT at *
  rw [q 12 (by omega), q 13 (by omega), q 14 (by omega), q 15 (by omega), q 16 (by omega), q 17 (by omega)]
  exact h
theorem jA.w (h : jA C R b n e) (q : C'.1 66 = C.1 66) (r : ∀ k, (12 ≤ k ∧ k < 20) → R'.1 319 k = R.1 319 k) : jA C' R' b n e := by
  obtain ⟨h1, h2, h3, h4⟩ := h
  refine ⟨h1.w q, h2.w (fun k hk => r k (by omega)), ?_, ?_⟩
  · rw [q, r 18 (by omega)]; exact h3
  · rw [q, r 19 (by omega)]; exact h4
theorem jB.w (h : jB C R b n e) (q : C'.1 66 = C.1 66) (r : ∀ k, (12 ≤ k ∧ k < 20) → R'.1 319 k = R.1 319 k) : jB C' R' b n e := by
  rcases h with ⟨h1, h2, e', h3, h4, h5⟩ | ⟨h1, e', h2⟩
  · exact Or.inl ⟨by rw [q]; exact h1, by rw [r 18 (by omega)]; exact h2, e', h3, by rw [q]; exact h4, h5.w (fun k hk => r k (by omega))⟩
  · exact Or.inr ⟨by rw [q]; exact h1, e', h2.w q r⟩
theorem Jc.w (j : Jc C R b n) (e2 : C'.2 = C.2) (e5 : C'.1 65 = C.1 65) (e6 : C'.1 66 1 = C.1 66 1) (r2 : R'.2 = R.2) (r9 : R'.1 329 = R.1 329) (r3 : R'.1 319 13 = R.1 319 13) : Jc C' R' b n := by
  obtain ⟨⟨a1, a2, a3, a4⟩, b1, b2, b3, b4⟩ := j
  refine ⟨⟨a1.eq e2, ?_, ⟨a3.1, fun i hi => ?_⟩, e6.trans a4⟩, b1.eq r2, ?_, r9.trans b3, r3.trans b4⟩
  · unfold RdK at *; rw [e2]; exact a2
  · rw [e5]; exact a3.2 i hi
  · rw [r2]; exact b2
/-- the situation -/
def Si (C0 R0 C R : Gm) (b : Nat → Int32) (n a : Nat) (Z N T : Nat → Int32) (g : Int32) : Prop := Jc C R b n ∧ Cw C0 C a Z ∧ Rw R0 R N T g ∧ a ≠ 66 ∧ a ≠ 65
theorem Si.f (h : Si C0 R0 C R b n a Z N T g) (f : Fk C C') (r : Fq R R') : Si C0 R0 C' R' b n a Z N T g := ⟨h.1.f f r, h.2.1.f f h.2.2.2.1, h.2.2.1.f r, h.2.2.2⟩
theorem Si.c (h : Si C0 R0 C R b n a Z N T g) (k : Nat) (x : Int32) : Si C0 R0 (sI C a k x) R b n a (ud Z k x) N T g := by
  have ha := h.2.2.2
  exact ⟨h.1.w rfl (by rw [sI_ne _ _ _ (by omega)]) (by rw [sI_ne _ _ _ (by omega)]) rfl rfl rfl, h.2.1.s ha.1 k x, h.2.2.1, ha⟩
theorem Si.jc (h : Si C0 R0 C R b n a Z N T g) (k : Nat) (x : Int32) (j : jB C R b n e) : jB (sI C a k x) R b n e := j.w (sI_ne _ _ _ (fun q => h.2.2.2.1 q.symm)) (fun _ _ => rfl)
theorem Si.ja (h : Si C0 R0 C R b n a Z N T g) (k : Nat) (x : Int32) (j : jA C R b n e) : jA (sI C a k x) R b n e := j.w (sI_ne _ _ _ (fun q => h.2.2.2.1 q.symm)) (fun _ _ => rfl)
theorem Si.r6 (h : Si C0 R0 C R b n a Z N T g) (k : Nat) (x : Int32) : Si C0 R0 C (sI R 326 k x) b n a Z (ud N k x) T g := ⟨h.1.w rfl rfl rfl rfl (by rw [sI_ne _ _ _ (by decide)]) (by rw [sI_ne _ _ _ (by decide)]), h.2.1, h.2.2.1.s6 k x, h.2.2.2⟩
theorem Si.r7 (h : Si C0 R0 C R b n a Z N T g) (k : Nat) (x : Int32) : Si C0 R0 C (sI R 327 k x) b n a Z N (ud T k x) g := ⟨h.1.w rfl rfl rfl rfl (by rw [sI_ne _ _ _ (by decide)]) (by rw [sI_ne _ _ _ (by decide)]), h.2.1, h.2.2.1.s7 k x, h.2.2.2⟩
theorem Si.r21 (h : Si C0 R0 C R b n a Z N T g) (x : Int32) : Si C0 R0 C (sI R 319 21 x) b n a Z N T x := ⟨h.1.w rfl rfl rfl rfl (by rw [sI_ne _ _ _ (by decide)]) (by rw [sI_own, ud_ne _ _ (by decide)]), h.2.1, h.2.2.1.s21 x, h.2.2.2⟩
theorem jB.r (j : jB C R b n e) {i : Nat} (hi : i ≠ 319) (k : Nat) (x : Int32) : jB C (sI R i k x) b n e := j.w rfl (fun _ _ => by rw [sI_ne _ _ _ (fun q => hi q.symm)])
theorem jA.r (j : jA C R b n e) {i : Nat} (hi : i ≠ 319) (k : Nat) (x : Int32) : jA C (sI R i k x) b n e := j.w rfl (fun _ _ => by rw [sI_ne _ _ _ (fun q => hi q.symm)])
theorem jB.r21 (j : jB C R b n e) (x : Int32) : jB C (sI R 319 21 x) b n e := j.w rfl (fun k hk => by rw [sI_own, ud_ne _ _ (by omega)])
theorem jA.r21 (j : jA C R b n e) (x : Int32) : jA C (sI R 319 21 x) b n e := j.w rfl (fun k hk => by rw [sI_own, ud_ne _ _ (by omega)])
theorem Si.read (h : Si C0 R0 C R b n a Z N T g) (j : jB C R b n e) {lo hi : Nat} (hl : lo ≤ hi) (hh : hi ≤ 999) : ∃ v C' R', sh_X6_readNumber 66 (Int32.ofNat lo) (Int32.ofNat hi) C = some (v, C') ∧ sh_X12_readNumber 319 (Int32.ofNat lo) (Int32.ofNat hi) R = some (v, R') ∧ isN v lo hi ∧ Si C0 R0 C' R' b n a Z N T g ∧ jB C' R' b n e ∧ (C'.1 66 5 = 0 → C.1 66 5 = 0) := by
  obtain ⟨v, C', R', q1, q2, q3, q4, q5, q6, q7⟩ := j_read h.1 j hl hh
  exact ⟨v, C', R', q1, q2, q3, h.f q4 q5, q6, q7⟩
theorem Si.told (h : Si C0 R0 C R b n a Z N T g) (j : jB C R b n e) {lim m k : Nat} (hl : 1 ≤ lim) (hl2 : lim ≤ 10) (hm : m ≤ 10) (hk : k < 5) (e7 : T (163 + k) = Int32.ofNat m) :
    ∃ v v' C' R' e', sh_X6_readTold 66 (Int32.ofNat lim) (Int32.ofNat m) C = some (v, C') ∧ sh_X12_oneNow 319 (Int32.ofNat lim) (Int32.ofNat k) R = some (v', R') ∧ isN v 0 (lim - 1) ∧ Si C0 R0 C' R' b n a Z N T g ∧ jA C' R' b n e' ∧ (C'.1 66 5 = 0 → C.1 66 5 = 0 ∧ e ≤ e' ∧ v' = v ∧ ∃ i, i < m ∧ v = Int32.ofNat i) := by
  obtain ⟨v, v', C', R', e', q1, q2, q3, q4, q5, q6, q7⟩ := j_told h.1 j hl hl2 hm hk (by rw [h.2.2.1.2.2.1]; exact e7)
  exact ⟨v, v', C', R', e', q1, q2, q3, h.f q4 q5, q6, q7⟩
theorem Si.next (h : Si C0 R0 C R b n a Z N T g) (j : jB C R b n e) : ∃ C' e', sh_X6_nextToken 66 C = some C' ∧ Si C0 R0 C' R b n a Z N T g ∧ jA C' R b n e' ∧ C'.1 66 5 = C.1 66 5 ∧ (C'.1 66 5 = 0 → e ≤ e') := by
  obtain ⟨C', q1, q2, q3, e', q4, q5⟩ := j_next h.1 j
  exact ⟨C', e', q1, h.f q2 (Fq.rfl' _), q5, q3, q4⟩
theorem tE_ge (h : e ≤ n) : e ≤ tE b n e := by have := tB_ok (b := b) h; have := (tE_ok (b := b) h).1; omega
theorem Si.pass (h : Si C0 R0 C R b n a Z N T g) (j : jA C R b n e) : ∃ R', sh_X12_pass 319 R = some R' ∧ Si C0 R0 C R' b n a Z N T g ∧ jB C R' b n (tE b n e) := by
  obtain ⟨R', q1, q2, q3⟩ := j_pass h.1 j
  exact ⟨R', q1, h.f (Fk.rfl' _) q2, q3⟩
theorem Si.fail (h : Si C0 R0 C R b n a Z N T g) (j : jA C R b n e) {k : Int32} (hk : k ≠ 0) : ∃ C' R', sh_X6_fail 66 k C = some C' ∧ sh_X12_wrong 319 k R = some R' ∧ Si C0 R0 C' R' b n a Z N T g ∧ jA C' R' b n e ∧ C'.1 66 5 ≠ 0 := by
  obtain ⟨C', R', q1, q2, q3, q4, q5, q6⟩ := j_fail h.1 j hk
  exact ⟨C', R', q1, q2, h.f q3 q4, q5, q6⟩
/-- the plan stands -/
theorem Si.pk (h : Si C0 R0 C R b n a Z N T g) (p : PlK C0 D) : PlK C D := p.eq h.2.1.1
theorem Si.own (h : Si C0 R0 C R b n a Z N T g) {i : Nat} (h1 : i ≠ 66) (h2 : i ≠ a) : C.1 i = C0.1 i := h.2.1.2.2.2 i h1 h2
/-- stores of the reference's rows -/
theorem st326_c (h : Ky R) {k m : Nat} (x : Int32) (hk : m + k < 305) : stA R 0 326 (Int32.ofNat m + Int32.ofNat k) x = some (sI R 326 (m + k) x) := by rw [ad_n, st326 h x hk]
theorem st327_c (h : Ky R) {k m : Nat} (x : Int32) (hk : m + k < 168) : stA R 0 327 (Int32.ofNat m + Int32.ofNat k) x = some (sI R 327 (m + k) x) := by rw [ad_n, st327 h x hk]
theorem cnt1_lt (h : Ky R) {k : Nat} (hk : k < 5) : cnt1 (Int32.ofNat k) R = some (sI R 327 (163 + k) (R.1 327 (163 + k) + 1)) := by
  unfold cnt1
  rw [if_neg (fun q => by have := (le_n (a := 5) (by omega) (by omega)).mp q; omega), ld327_c h hk, bs]
  show (stA R 0 327 (Int32.ofNat 163 + Int32.ofNat k) _).bind _ = _
  rw [st327_c h _ (by omega), bs]
end
