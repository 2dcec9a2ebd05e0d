/-! ===== PURE 42: class and reference side by side ===== -/
/-- the words that the reference knows -/
def wdN : List (List Nat) := [[3, 7, 12, 16, 17, 18], [25, 4, 5, 6], [8, 9, 10, 11], [13, 14, 15]]
def WkK (R : Nat → Nat → Nat) : Prop := ∀ a k, a < 4 → k < (wdN.getD a []).length → R (320 + a) k = (wdN.getD a []).getD k 0
theorem wdN_6 : ∀ a, a < 4 → (wdN.getD a []).length ≤ 6 := by decide
theorem WkK.ext {R R' : Nat → Nat → Nat} (h : WkK R) (e : ∀ a k, 320 ≤ a → a < 324 → k < 6 → R' a k = R a k) : WkK R' := fun a k h1 h2 => (e (320 + a) k (by omega) (by omega) (by have := wdN_6 a h1; omega)).trans (h a k h1 h2)
/-- no BIND of a plan stands at two places -/
def DsK (R : Nat → Nat → Nat) : Prop := ∀ a, (a = 71 ∨ a = 166) → ∀ i j, i < 60 → j < 60 → i ≠ j → R a i ≠ R a j
theorem DsK.ext {R R' : Nat → Nat → Nat} (h : DsK R) (e : ∀ a k, (a = 71 ∨ a = 166) → R' a k = R a k) : DsK R' := fun a ha i j h1 h2 h3 => by rw [e a i ha, e a j ha]; exact h a ha i j h1 h2 h3
/-- the class's object; P the plan in force, D the other one -/
def ObK (M : Gm) (P D : Nat) : Prop := (M.2.1 64 0 = 65 ∧ M.2.1 64 3 = 66 ∧ M.2.1 64 4 = P ∧ M.2.1 64 5 = D ∧ M.2.1 64 6 = 257 ∧ M.2.1 64 7 = 278 ∧ M.2.1 64 9 = 299 ∧ M.2.1 64 10 = 302 ∧ M.2.1 66 0 = 65 ∧ WkK M.2.1 ∧ DsK M.2.1) ∧ ((P = 67 ∧ D = 162) ∨ (P = 162 ∧ D = 67))
theorem ObK.rd {M : Gm} {P D : Nat} (o : ObK M P D) : M.2.1 66 0 = 65 := o.1.2.2.2.2.2.2.2.2.1
theorem ObK.wk {M : Gm} {P D : Nat} (o : ObK M P D) : WkK M.2.1 := o.1.2.2.2.2.2.2.2.2.2.1
theorem ObK.ds {M : Gm} {P D : Nat} (o : ObK M P D) : DsK M.2.1 := o.1.2.2.2.2.2.2.2.2.2.2
/-- the class's object with references alike -/
theorem ObK.ext {M M' : Gm} {P D : Nat} (o : ObK M P D) (e : ∀ a k, (a = 64 ∨ a = 66 ∨ a = 71 ∨ a = 166 ∨ (320 ≤ a ∧ a < 324)) → M'.2.1 a k = M.2.1 a k) : ObK M' P D := by
  have w := o.wk.ext (R' := M'.2.1) (fun a k h1 h2 _ => e a k (by omega))
  have w2 := o.ds.ext (R' := M'.2.1) (fun a k h1 => e a k (by omega))
  unfold ObK at *
  rw [e 64 0 (by omega), e 64 3 (by omega), e 64 4 (by omega), e 64 5 (by omega), e 64 6 (by omega), e 64 7 (by omega), e 64 9 (by omega), e 64 10 (by omega), e 66 0 (by omega)]
  obtain ⟨⟨q0, q1, q2, q3, q4, q5, q6, q7, q8, -, -⟩, q⟩ := o
  exact ⟨⟨q0, q1, q2, q3, q4, q5, q6, q7, q8, w, w2⟩, q⟩
def rowA (pa : Nat → Int32) (i : Nat) : Nat → Int32 := fun k => pa (305 * i + k)
/-- the entry of an act's place -/
def eA (M : Gm) (Q p : Nat) : Nat := M.2.1 (Q + 1) p
def isQ (Q : Nat) : Prop := Q = 257 ∨ Q = 278
/-- the States that acts have made -/
def AcK (M : Gm) : Prop := (∀ Q p, isQ Q → p < 40 → eA M Q p ≠ 0 → 346 ≤ eA M Q p ∧ eA M Q p + 14 < M.2.2.length ∧ ∃ P', StK M (eA M Q p) P') ∧
  ∀ Q p Q' p', isQ Q → isQ Q' → p < 40 → p' < 40 → (Q ≠ Q' ∨ p ≠ p') → eA M Q p ≠ 0 → eA M Q' p' ≠ 0 → eA M Q p + 14 < eA M Q' p' ∨ eA M Q' p' + 14 < eA M Q p
/-- the acts that are kept -/
def ActV (M : Gm) (Q P : Nat) (T : Nat → Int32) (k : Nat) (pa : Nat → Int32) (n : Nat) : Prop := ∃ x, x < 40 ∧ M.1 Q 2 = Int32.ofNat x ∧ M.1 Q 3 = Int32.ofNat n ∧ n ≤ 40 ∧ ∀ i, i < n → eA M Q ((x + (40 - n) + i) % 40) ≠ 0 ∧ Sd M (eA M Q ((x + (40 - n) + i) % 40)) P (rowA pa i) T k
def MmV (M : Gm) (Q P : Nat) (T : Nat → Int32) (k : Nat) (N pa nz nm nh st : Nat → Int32) (n c : Nat) : Prop := Sd M (Q + 6) P N T k ∧ ActV M Q P T k pa n ∧ NtV M Q c nz nm nh ∧ NtOk T c nz nm ∧ ∀ i, i < 3 → M.1 (Q + 5) i = st i
/-- a byte of the class's tape, and of the reference's -/
def BtV (a b : Int32) : Prop := isN b 0 255 ∧ a = b.toInt8.toInt32
def TpV (M : Gm) (A : Nat → Nat → Int32) : Prop := ∃ tl, M.1 64 1 = Int32.ofNat tl ∧ A 319 11 = Int32.ofNat tl ∧ tl ≤ 700 ∧ ∀ i, i < tl → BtV (M.1 65 i) (A 329 i)
/-- all of the class stands for the reference's rows A -/
def CV (M : Gm) (A : Nat → Nat → Int32) (P D k : Nat) : Prop :=
  (ObK M P D ∧ Wd M P (A 325) ∧ PlK M D ∧ A 325 166 = Int32.ofNat (fb (A 325) (tt (A 325)))) ∧
  (MmK M 257 ∧ MmK M 278 ∧ (∃ P', StK M 284 P') ∧ (∃ P', StK M 304 P') ∧ AcK M) ∧
  (∃ n c, A 319 26 = Int32.ofNat n ∧ A 319 28 = Int32.ofNat c ∧ MmV M 257 P (A 325) k (A 324) (A 333) (A 334) (A 335) (A 336) (A 328) n c) ∧
  (A 319 35 = M.1 64 8 ∧ (A 319 35 = 0 ∨ (A 319 35 = 1 ∧ ∃ n c, A 319 36 = Int32.ofNat n ∧ A 319 37 = Int32.ofNat c ∧ MmV M 278 P (A 325) k (A 339) (A 340) (A 341) (A 342) (A 343) (A 344) n c))) ∧
  TpV M A ∧ A 319 20 = M.1 64 2
/-- the cells and slots so far -/
def Rm (M : Gm) (j : Nat) : Prop := 346 ≤ M.2.2.length ∧ M.2.2.length ≤ 346 + 601 * j ∧ slK M.2.2 ≤ slK kz + 13206 * j
/-- nothing that the class keeps has changed -/
def Sc (M M' : Gm) : Prop := (∃ E, M'.2.2 = M.2.2 ++ E) ∧ (∀ a k, a < M.2.2.length → (a ≠ 304 ∨ k ≠ 0) → M'.2.1 a k = M.2.1 a k) ∧ ∀ a, a < M.2.2.length → (a < 299 ∨ 345 < a) → M'.1 a = M.1 a
theorem Sc.rfl' (M : Gm) : Sc M M := ⟨⟨[], (List.append_nil _).symm⟩, fun _ _ _ _ => rfl, fun _ _ _ => rfl⟩
theorem Sc.len {M M' : Gm} (h : Sc M M') : M.2.2.length ≤ M'.2.2.length := by
  obtain ⟨E, e⟩ := h.1
  rw [e, List.length_append]
  omega
theorem Sc.trans {M M' M2 : Gm} (h : Sc M M') (g : Sc M' M2) : Sc M M2 := by
  have hl := h.len
  obtain ⟨E, e⟩ := h.1
  obtain ⟨F, f⟩ := g.1
  exact ⟨⟨E ++ F, by rw [f, e, List.append_assoc]⟩, fun a k ha hk => (g.2.1 a k (by omega) hk).trans (h.2.1 a k ha hk), fun a ha hk => (g.2.2 a (by omega) hk).trans (h.2.2 a ha hk)⟩
theorem Sc.ft {M M' : Gm} (h : Ft M M') : Sc M M' := ⟨⟨[], by rw [h.1, List.append_nil]⟩, fun a k _ e => h.2.1 a k e, fun a _ e => h.2.2 a (by omega)⟩
theorem Sc.same {M M' : Gm} (h : M'.2 = M.2) (g : ∀ a, (a < 299 ∨ 345 < a) → M'.1 a = M.1 a) : Sc M M' := ⟨⟨[], by rw [h, List.append_nil]⟩, fun a k _ _ => by rw [h], fun a _ e => g a e⟩
theorem Sc.set {M : Gm} {a : Nat} (h : 299 ≤ a ∧ a ≤ 345) (k : Nat) (x : Int32) : Sc M (sI M a k x) := Sc.same rfl (fun b hb => sI_ne _ _ _ (by omega))
theorem Sc.new (M : Gm) (q : Nat × Nat) : Sc M (nwM M q) := by
  refine ⟨⟨[q], rfl⟩, fun a k ha _ => ?_, fun a ha _ => ?_⟩
  · show (if a = M.2.2.length then 0 else M.2.1 a k) = _
    rw [if_neg (by omega)]
  · funext k
    show (if a = M.2.2.length then 0 else M.1 a k) = _
    rw [if_neg (by omega)]
theorem Sc.kdE {M M' : Gm} (h : Sc M M') {a : Nat} (ha : a < M.2.2.length) : kd M' a = kd M a := by
  obtain ⟨E, e⟩ := h.1
  unfold kd
  rw [e, List.getD_eq_getElem?_getD, List.getD_eq_getElem?_getD, List.getElem?_append_left ha]
section
variable {M M' : Gm} {P D k n c : Nat} {N T pa nz nm nh st : Nat → Int32} {A A' : Nat → Nat → Int32}
theorem Sc.wd (f : Sc M M') (hl : 346 ≤ M.2.2.length) (w : Wd M P T) : Wd M' P T := by
  obtain ⟨a, b, c, d, e, g, i⟩ := w
  have e' := e
  unfold POk at e'
  refine ⟨a.ext (fun a ha => f.kdE (by omega)) (fun k => f.2.1 _ _ (by omega) (by omega)), ?_, ?_, d.ext (fun a h1 h2 => f.kdE (by omega)) (fun a k _ _ => f.2.1 _ _ (by omega) (by omega)), e, g, i.ext d g (fun k => f.2.1 _ _ (by omega) (by omega)) (fun a _ _ => f.2.2 a (by omega) (by omega))⟩
  · unfold CkK at *; rw [f.2.1 _ _ (by omega) (by omega), f.2.1 _ _ (by omega) (by omega)]; exact b
  · unfold FsK at *; rw [f.2.1 _ _ (by omega) (by omega), f.2.1 _ _ (by omega) (by omega), f.2.1 _ _ (by omega) (by omega)]; exact c
theorem Sc.stK (f : Sc M M') {S P' : Nat} (h : StK M S P') (h1 : S + 14 < M.2.2.length) (h2 : S ≠ 304) : StK M' S P' :=
  h.ext (fun a _ _ => f.kdE (by omega)) (fun k => f.2.1 _ _ (by omega) (by omega))
theorem Sc.sd (f : Sc M M') {S : Nat} (h : Sd M S P N T k) (h1 : S + 14 < M.2.2.length) (h2 : S + 14 < 299 ∨ 345 < S) : Sd M' S P N T k := by
  obtain ⟨a, b, c, d⟩ := h
  exact ⟨f.stK a h1 (by omega), b, c.ext (fun a _ _ => f.2.2 a (by omega) (by omega)), d⟩
theorem Sc.acK (f : Sc M M') (hl : 346 ≤ M.2.2.length) (h : AcK M) : AcK M' := by
  have e : ∀ Q p, isQ Q → p < 40 → eA M' Q p = eA M Q p := fun Q p hQ hp => by
    unfold isQ at hQ
    exact f.2.1 _ _ (by omega) (by omega)
  have hlen := f.len
  refine ⟨fun Q p hQ hp hne => ?_, fun Q p Q' p' hQ hQ' hp hp' hd h1 h2 => ?_⟩
  · rw [e Q p hQ hp] at hne ⊢
    obtain ⟨a, b, P', c⟩ := h.1 Q p hQ hp hne
    exact ⟨a, by omega, P', f.stK c b (by omega)⟩
  · rw [e Q p hQ hp] at h1 ⊢
    rw [e Q' p' hQ' hp'] at h2 ⊢
    exact h.2 Q p Q' p' hQ hQ' hp hp' hd h1 h2
theorem Sc.mm (f : Sc M M') (hl : 346 ≤ M.2.2.length) {Q : Nat} (h : MmK M Q) : MmK M' Q := by
  have hQ := h.2
  unfold MmK at *
  rw [f.2.1 Q _ (by omega) (by omega), f.2.1 Q _ (by omega) (by omega), f.2.1 Q _ (by omega) (by omega), f.2.1 Q _ (by omega) (by omega), f.2.1 Q _ (by omega) (by omega), f.2.1 Q _ (by omega) (by omega)]
  exact h
theorem Sc.mmv (f : Sc M M') (hl : 346 ≤ M.2.2.length) (ak : AcK M) {Q : Nat} (hQ : isQ Q) (h : MmV M Q P T k N pa nz nm nh st n c) : MmV M' Q P T k N pa nz nm nh st n c := by
  have hQ' := hQ
  unfold isQ at hQ'
  obtain ⟨a, ⟨x, b1, b2, b3, b4, b5⟩, g, d, e⟩ := h
  have r : M'.1 Q = M.1 Q := f.2.2 Q (by omega) (by omega)
  refine ⟨f.sd a (by omega) (by omega), ⟨x, b1, by rw [r]; exact b2, by rw [r]; exact b3, b4, fun i hi => ?_⟩, ?_, d, fun i hi => by rw [f.2.2 (Q + 5) (by omega) (by omega)]; exact e i hi⟩
  · have ee : eA M' Q ((x + (40 - n) + i) % 40) = eA M Q ((x + (40 - n) + i) % 40) := f.2.1 _ _ (by omega) (by omega)
    obtain ⟨c1, c2⟩ := b5 i hi
    have := ak.1 Q _ hQ (Nat.mod_lt _ (by omega)) c1
    rw [ee]
    exact ⟨c1, f.sd c2 this.2.1 (by omega)⟩
  · unfold NtV at *
    rw [r, f.2.2 (Q + 2) (by omega) (by omega), f.2.2 (Q + 3) (by omega) (by omega), f.2.2 (Q + 4) (by omega) (by omega)]
    exact g
theorem Sc.cv (f : Sc M M') (hl : 346 ≤ M.2.2.length) (h : CV M A P D k) : CV M' A P D k := by
  obtain ⟨⟨o, w, pd, t6⟩, ⟨m1, m2, ⟨P1, s1⟩, ⟨P2, s2⟩, ak⟩, ⟨n, c, a1, a2, a3⟩, ⟨i1, i2⟩, tp, ft⟩ := h
  have hD : D = 67 ∨ D = 162 := by rcases o.2 with q | q <;> omega
  refine ⟨⟨?_, f.wd hl w, pd.ext (fun a _ _ => f.kdE (by omega)) (fun a k _ _ => f.2.1 _ _ (by omega) (by omega)), t6⟩, ⟨f.mm hl m1, f.mm hl m2, ⟨P1, f.stK s1 (by omega) (by omega)⟩, ⟨M'.2.1 304 0, ?_⟩, f.acK hl ak⟩, ⟨n, c, a1, a2, f.mmv hl ak (Or.inl rfl) a3⟩, ⟨?_, ?_⟩, ?_, ?_⟩
  · exact o.ext (fun a k h => f.2.1 a k (by omega) (by omega))
  · exact ⟨by rw [f.kdE (by omega)]; exact s2.1, rfl, fun i hi => ⟨by rw [f.2.1 _ _ (by omega) (by omega)]; exact (s2.2.2 i hi).1, by rw [f.kdE (by omega)]; exact (s2.2.2 i hi).2⟩⟩
  · rw [f.2.2 64 (by omega) (by omega)]; exact i1
  · rcases i2 with q | ⟨q, n', c', b1, b2, b3⟩
    · exact Or.inl q
    · exact Or.inr ⟨q, n', c', b1, b2, f.mmv hl ak (Or.inr rfl) b3⟩
  · obtain ⟨tl, t1, t2, t3, t4⟩ := tp
    exact ⟨tl, by rw [f.2.2 64 (by omega) (by omega)]; exact t1, t2, t3, fun i hi => by rw [f.2.2 65 (by omega) (by omega)]; exact t4 i hi⟩
  · rw [f.2.2 64 (by omega) (by omega)]; exact ft
/-- rows of the reference that stand for the same -/
def Rs (A A' : Nat → Nat → Int32) : Prop := (∀ a, a ∈ [324, 325, 328, 329, 333, 334, 335, 336, 339, 340, 341, 342, 343, 344] → A' a = A a) ∧ ∀ k, k ∈ [11, 20, 26, 28, 35, 36, 37] → A' 319 k = A 319 k
theorem Rs.cv (r : Rs A A') (h : CV M A P D k) : CV M A' P D k := by
  unfold CV TpV at *
  rw [r.1 324 (by decide), r.1 325 (by decide), r.1 328 (by decide), r.1 329 (by decide), r.1 333 (by decide), r.1 334 (by decide), r.1 335 (by decide), r.1 336 (by decide), r.1 339 (by decide), r.1 340 (by decide), r.1 341 (by decide), r.1 342 (by decide), r.1 343 (by decide), r.1 344 (by decide), r.2 11 (by decide), r.2 20 (by decide), r.2 26 (by decide), r.2 28 (by decide), r.2 35 (by decide), r.2 36 (by decide), r.2 37 (by decide)]
  exact h
theorem Rq.rs (h : Rq M M') : Rs M.1 M'.1 := by
  refine ⟨fun a ha => h.2.1 a (fun q => ?_), fun k hk => h.2.2 k ?_ ?_ ?_⟩
  · simp only [List.mem_cons, List.not_mem_nil, or_false] at ha q; omega
  · simp only [List.mem_cons, List.not_mem_nil, or_false] at hk; omega
  · simp only [List.mem_cons, List.not_mem_nil, or_false] at hk; omega
  · simp only [List.mem_cons, List.not_mem_nil, or_false] at hk; omega
theorem Rq.sc (h : Rq M M') : Sc M M' := Sc.same h.1 (fun a ha => h.2.1 a (fun q => by simp only [List.mem_cons, List.not_mem_nil, or_false] at q; omega))
theorem Sd.le {S k' : Nat} (h : Sd M S P N T k) (hk : k ≤ k') : Sd M S P N T k' := h.sd hk
theorem MmV.le {Q k' : Nat} (h : MmV M Q P T k N pa nz nm nh st n c) (hk : k ≤ k') : MmV M Q P T k' N pa nz nm nh st n c := by
  obtain ⟨a, ⟨x, b1, b2, b3, b4, b5⟩, g⟩ := h
  exact ⟨a.sd hk, ⟨x, b1, b2, b3, b4, fun i hi => ⟨(b5 i hi).1, (b5 i hi).2.sd hk⟩⟩, g⟩
theorem CV.le {k' : Nat} (h : CV M A P D k) (hk : k ≤ k') : CV M A P D k' := by
  obtain ⟨a, b, ⟨n, c, c1, c2, c3⟩, ⟨d1, d2⟩, e⟩ := h
  refine ⟨a, b, ⟨n, c, c1, c2, c3.le hk⟩, ⟨d1, ?_⟩, e⟩
  rcases d2 with q | ⟨q, n', c', b1, b2, b3⟩
  · exact Or.inl q
  · exact Or.inr ⟨q, n', c', b1, b2, b3.le hk⟩
end
/-- class and reference stand alike after j calls -/
def Inv (M : Gm) (j : Nat) : Prop := (∃ P D, CV M M.1 P D (1300 * j)) ∧ Rm M j
theorem Rm.ft {M M' : Gm} {j j' : Nat} (h : Rm M j) (e : M'.2.2 = M.2.2) (hj : j ≤ j') : Rm M' j' := by
  unfold Rm at *
  rw [e]
  omega
theorem slK_snoc (K : List (Nat × Nat)) (q : Nat × Nat) : slK (K ++ [q]) = slK K + slE q := by
  unfold slK
  rw [List.map_append, List.sum_append]
  simp
theorem Rm.new {M : Gm} {j : Nat} (h : Rm M j) {q : Nat × Nat} (hq : slE q ≤ 13206) : Rm (nwM M q) (j + 1) := by
  obtain ⟨a, b, c⟩ := h
  have e : (nwM M q).2.2 = M.2.2 ++ [q] := rfl
  unfold Rm
  rw [e, List.length_append, slK_snoc]
  simp
  omega
/-- a call whose answer is compared, by the law's wrapper f of the class and the reference's g -/
def Ans (f g : Gm → Option (Int32 × Gm)) (M : Gm) (j : Nat) : Prop := ∃ k M1 b M2, f M = some (k, M1) ∧ g M1 = some (b, M2) ∧ M2.1 319 4 = k ∧ (k = 0 → M2.1 345 0 = b) ∧ Inv M2 (j + 1) ∧ Ky M2
/-- a question that is answered -/
theorem q_ok {f g : Gm → Option (Int32 × Gm)} {M M1 M2 : Gm} {v : Int32} {j : Nat} (h : Inv M j) (hf : f M = some (0, sI M1 345 0 v)) (hft : Ft M M1) (hg : g (sI M1 345 0 v) = some (v, M2)) (hr : Rq (sI M1 345 0 v) M2) (h4 : M2.1 319 4 = 0) : Ans f g M j := by
  obtain ⟨⟨P, D, cv⟩, rm⟩ := h
  have s1 : Sc M (sI M1 345 0 v) := (Sc.ft hft).trans (Sc.set (by omega) _ _)
  have s2 := s1.trans hr.sc
  have c2 := s2.cv rm.1 cv
  refine ⟨0, _, v, M2, hf, hg, h4, fun _ => ?_, ⟨⟨P, D, ?_⟩, rm.ft ?_ (by omega)⟩, c2.1.2.1.1⟩
  · rw [hr.2.1 345 (by decide), sI_own, ud_at]
  · have r0 : Rs M.1 (sI M1 345 0 v).1 := by
      refine ⟨fun a ha => ?_, fun k hk => ?_⟩
      · simp only [List.mem_cons, List.not_mem_nil, or_false] at ha
        rw [sI_ne _ _ _ (by omega), hft.2.2 a (by omega)]
      · rw [sI_ne _ _ _ (by decide), hft.2.2 319 (by omega)]
    exact (hr.rs.cv (r0.cv c2)).le (by omega)
  · rw [hr.1]; exact hft.1
/-- a question that is refused -/
theorem q_no {f g : Gm → Option (Int32 × Gm)} {M M2 : Gm} {e : Int32} {q : Nat × Nat} {b : Int32} {j : Nat} (h : Inv M j) (hf : f M = some (e, nwM M q)) (he : e ≠ 0) (hq : slE q ≤ 13206) (hg : g (nwM M q) = some (b, M2)) (hr : Rq (nwM M q) M2) (h4 : M2.1 319 4 = e) : Ans f g M j := by
  obtain ⟨⟨P, D, cv⟩, rm⟩ := h
  have s1 : Sc M (nwM M q) := Sc.new M q
  have s2 := s1.trans hr.sc
  have c2 := s2.cv rm.1 cv
  refine ⟨e, _, b, M2, hf, hg, h4, fun q => absurd q he, ⟨⟨P, D, ?_⟩, (rm.new hq).ft (by rw [hr.1]) (Nat.le_refl _)⟩, c2.1.2.1.1⟩
  have r0 : Rs M.1 (nwM M q).1 := by
    have rr : ∀ a, a < 346 → (nwM M q).1 a = M.1 a := fun a ha => by
      have := rm.1
      funext k
      show (if a = M.2.2.length then 0 else M.1 a k) = _
      rw [if_neg (by omega)]
    refine ⟨fun a ha => ?_, fun k hk => ?_⟩
    · simp only [List.mem_cons, List.not_mem_nil, or_false] at ha
      exact rr a (by omega)
    · rw [rr 319 (by omega)]
  exact (hr.rs.cv (r0.cv c2)).le (by omega)
