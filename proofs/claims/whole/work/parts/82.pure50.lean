/-! ===== PURE 50: the reference keeps an act; what an act leaves ===== -/
def An2 (f g : Gm → Option (Int32 × Gm)) (M : Gm) (j : Nat) : Prop := ∃ b M1 M2, f M = some (b, M1) ∧ g M1 = some (b, M2) ∧ Inv M2 (j + 1) ∧ Ky M2
def An3 (f g : Gm → Option Gm) (M : Gm) (j : Nat) : Prop := ∃ M1 M2, f M = some M1 ∧ g M1 = some M2 ∧ Inv M2 (j + 1) ∧ Ky M2
theorem fill_ud (f g : Nat → Int32) (a i : Nat) : ud (fun j => if a ≤ j ∧ j < a + i then f (j - a) else g j) (a + i) (f i) = fun j => if a ≤ j ∧ j < a + (i + 1) then f (j - a) else g j := by
  funext q
  show (if q = a + i then f i else if a ≤ q ∧ q < a + i then f (q - a) else g q) = if a ≤ q ∧ q < a + (i + 1) then f (q - a) else g q
  by_cases cq : q = a + i
  · have e : q - a = i := by omega
    rw [if_pos cq, if_pos (by omega), e]
  · rw [if_neg cq]
    by_cases cr : a ≤ q ∧ q < a + i
    · rw [if_pos cr, if_pos (by omega)]
    · rw [if_neg cr, if_neg (by omega)]
theorem shift_ud (g : Nat → Int32) (i : Nat) : ud (fun j => if j < i then g (j + 305) else g j) i (g (305 + i)) = fun j => if j < i + 1 then g (j + 305) else g j := by
  funext q
  show (if q = i then g (305 + i) else if q < i then g (q + 305) else g q) = if q < i + 1 then g (q + 305) else g q
  by_cases cq : q = i
  · have e : q + 305 = 305 + i := by omega
    rw [if_pos cq, if_pos (by omega), e]
  · rw [if_neg cq]
    by_cases cr : q < i
    · rw [if_pos cr, if_pos (by omega)]
    · rw [if_neg cr, if_neg (by omega)]
section
variable {M M1 M2 : Gm} {P D k k' n c j : Nat} {N N' T pa nz nm nh st : Nat → Int32} {A A' : Nat → Nat → Int32}
theorem m_keep (hM : Ky M) (h26 : M.1 319 26 = Int32.ofNat n) (hn : n ≤ 40) : ∃ M', sh_X12_keep 319 M = some M' ∧ Fm [319, 333] M M' ∧ M'.1 319 = ud (M.1 319) 26 (Int32.ofNat (min (n + 1) 40)) ∧ M'.1 333 = keepR (M.1 333) (M.1 324) n := by
  have fill : ∀ (X : Gm) (m : Nat), Ky X → X.1 319 26 = Int32.ofNat m → m ≤ 39 → sh_X12_keep 319 X = sh_X12_keep 319 X ∧ X12_keep_J54 319 X = some (sI (wR X 333 (fun j => if 305 * m ≤ j ∧ j < 305 * m + 305 then X.1 324 (j - 305 * m) else X.1 333 j)) 319 26 (Int32.ofNat (m + 1))) := fun X m hX h hm => by
    refine ⟨rfl, ?_⟩
    have key : lp (X12_keep_B56 319) FU (0, X) = some (wR X 333 (fun j => if 305 * m ≤ j ∧ j < 305 * m + 305 then X.1 324 (j - 305 * m) else X.1 333 j)) := by
      have h0 : (0, X) = (fun i => (Int32.ofNat i, wR X 333 (fun j => if 305 * m ≤ j ∧ j < 305 * m + i then X.1 324 (j - 305 * m) else X.1 333 j))) 0 := by
        show _ = (Int32.ofNat 0, wR X 333 _)
        rw [show (fun j => if 305 * m ≤ j ∧ j < 305 * m + 0 then X.1 324 (j - 305 * m) else X.1 333 j) = X.1 333 from funext fun j => if_neg (by omega), wR_self]
        rfl
      rw [h0]
      refine lp_for (fun i => (Int32.ofNat i, wR X 333 (fun j => if 305 * m ≤ j ∧ j < 305 * m + i then X.1 324 (j - 305 * m) else X.1 333 j))) _ 305 (fun i hi => ?_) ?_ (by omega)
      · have hW := hX.wR 333 (fun j => if 305 * m ≤ j ∧ j < 305 * m + i then X.1 324 (j - 305 * m) else X.1 333 j)
        unfold X12_keep_B56
        have c305 : ¬ (305 : Int32) ≤ Int32.ofNat i := by rw [show (305 : Int32) = Int32.ofNat 305 from rfl, le_n (by omega) (by omega)]; omega
        rw [if_neg c305, m_past hW, bs, m_I hW, bs, wR_ne _ _ (by decide), h, m_now hW, bs, ld324 hW hi, bs, wR_ne _ _ (by decide), mu305, ad_n, st333 hW _ (by omega), bs, suc_n, sI_wR, wR_own, wR_wR, fill_ud]
      · rfl
    have hW := hX.wR 333 (fun j => if 305 * m ≤ j ∧ j < 305 * m + 305 then X.1 324 (j - 305 * m) else X.1 333 j)
    unfold X12_keep_J54
    rw [key, bs, m_I hW, bs, wR_ne _ _ (by decide), h, pl1, m_P hW, bs]
  by_cases c : n = 40
  · subst c
    have key : lp (X12_keep_B13 319) FU (305, M) = some (wR M 333 (fun j => if j < 11895 then M.1 333 (j + 305) else M.1 333 j)) := by
      have h0 : (305, M) = (fun i => (Int32.ofNat (305 + i), wR M 333 (fun j => if j < i then M.1 333 (j + 305) else M.1 333 j))) 0 := by
        show _ = (Int32.ofNat 305, wR M 333 _)
        rw [show (fun j => if j < 0 then M.1 333 (j + 305) else M.1 333 j) = M.1 333 from funext fun j => if_neg (by omega), wR_self]
        rfl
      rw [h0]
      refine lp_for (fun i => (Int32.ofNat (305 + i), wR M 333 (fun j => if j < i then M.1 333 (j + 305) else M.1 333 j))) _ 11895 (fun i hi => ?_) ?_ (by omega)
      · have hW := hM.wR 333 (fun j => if j < i then M.1 333 (j + 305) else M.1 333 j)
        unfold X12_keep_B13
        have c12 : ¬ Int32.ofNat 12200 ≤ Int32.ofNat (305 + i) := by rw [le_n (by omega) (by omega)]; omega
        have es : Int32.ofNat (305 + i) - 305 = Int32.ofNat i := by
          rw [show (305 : Int32) = Int32.ofNat 305 from rfl, sub_n (by omega) (by omega), Nat.add_sub_cancel_left]
        rw [m_past hW, bs, al333 hW, bs, if_neg c12, bs, bs, ld333 hW (by omega), bs, wR_own, es, st333 hW _ (by omega), bs, suc_n, sI_wR, wR_own, wR_wR, if_neg (show ¬ 305 + i < i by omega), shift_ud]
        rfl
      · have hW := hM.wR 333 (fun j => if j < 11895 then M.1 333 (j + 305) else M.1 333 j)
        unfold X12_keep_B13
        rw [m_past hW, bs, al333 hW, bs, if_pos (Int32.le_refl _)]
    have hW := hM.wR 333 (fun j => if j < 11895 then M.1 333 (j + 305) else M.1 333 j)
    have e26 : (wR M 333 (fun j => if j < 11895 then M.1 333 (j + 305) else M.1 333 j)).1 319 26 = Int32.ofNat 40 := by rw [wR_ne _ _ (by decide)]; exact h26
    have r3 : (wR M 333 (fun j => if j < 11895 then M.1 333 (j + 305) else M.1 333 j)).1 333 = fun j => if j < 11895 then M.1 333 (j + 305) else M.1 333 j := wR_own _ _ _
    have r9 : ∀ b, b ≠ 333 → (wR M 333 (fun j => if j < 11895 then M.1 333 (j + 305) else M.1 333 j)).1 b = M.1 b := fun b hb => wR_ne _ _ hb
    have r2 : (wR M 333 (fun j => if j < 11895 then M.1 333 (j + 305) else M.1 333 j)).2 = M.2 := rfl
    generalize wR M 333 (fun j => if j < 11895 then M.1 333 (j + 305) else M.1 333 j) = X at key hW e26 r3 r9 r2
    have fl := (fill (sI X 319 26 (Int32.ofNat 39)) 39 (hW.sI _ _ _) (by rw [sI_own, ud_at]) (by omega)).2
    have eX4 : (sI X 319 26 (Int32.ofNat 39)).1 324 = M.1 324 := by rw [sI_ne _ _ _ (by decide), r9 324 (by decide)]
    have eX3 : (sI X 319 26 (Int32.ofNat 39)).1 333 = fun j => if j < 11895 then M.1 333 (j + 305) else M.1 333 j := by rw [sI_ne _ _ _ (by decide), r3]
    rw [eX4, eX3] at fl
    have run : sh_X12_keep 319 M = some (sI (wR (sI X 319 26 (Int32.ofNat 39)) 333 (fun j => if 305 * 39 ≤ j ∧ j < 305 * 39 + 305 then M.1 324 (j - 305 * 39) else if j < 11895 then M.1 333 (j + 305) else M.1 333 j)) 319 26 (Int32.ofNat (39 + 1))) := by
      unfold sh_X12_keep X12_keep_F
      rw [m_O hM, bs, m_I hM, bs, h26, if_pos (show Int32.ofNat 40 = 40 from rfl), key, bs, m_I hW, bs, e26, show Int32.ofNat 40 - 1 = Int32.ofNat 39 from rfl, m_P hW, bs, fl]
    refine ⟨_, run, ⟨?_, fun b hb => ?_⟩, ?_, ?_⟩
    · exact r2
    · simp only [List.mem_cons, List.not_mem_nil, or_false, not_or] at hb
      rw [sI_ne _ _ _ hb.1, wR_ne _ _ hb.2, sI_ne _ _ _ hb.1, r9 b hb.2]
    · rw [sI_own, wR_ne _ _ (by decide), sI_own, r9 319 (by decide)]
      funext q
      unfold ud
      by_cases cq : q = 26
      · rw [if_pos cq, if_pos cq]; rfl
      · rw [if_neg cq, if_neg cq, if_neg cq]
    · rw [sI_ne _ _ _ (by decide), wR_own]
      funext q
      unfold keepR
      show (if 305 * 39 ≤ q ∧ q < 305 * 39 + 305 then M.1 324 (q - 305 * 39) else if q < 11895 then M.1 333 (q + 305) else M.1 333 q) = if 40 = 40 then (if q < 11895 then M.1 333 (q + 305) else if q < 12200 then M.1 324 (q - 11895) else M.1 333 q) else _
      rw [if_pos (show 40 = 40 from rfl)]
      by_cases c1 : q < 11895
      · have c0 : ¬ (305 * 39 ≤ q ∧ q < 305 * 39 + 305) := by omega
        rw [if_neg c0]
        simp only [if_pos c1]
      · by_cases c2 : q < 12200
        · have c0 : 305 * 39 ≤ q ∧ q < 305 * 39 + 305 := by omega
          rw [if_pos c0]
          simp only [if_neg c1, if_pos c2]
        · have c0 : ¬ (305 * 39 ≤ q ∧ q < 305 * 39 + 305) := by omega
          rw [if_neg c0]
          simp only [if_neg c1, if_neg c2]
  · have fl := (fill M n hM h26 (by omega)).2
    have run : sh_X12_keep 319 M = some (sI (wR M 333 (fun j => if 305 * n ≤ j ∧ j < 305 * n + 305 then M.1 324 (j - 305 * n) else M.1 333 j)) 319 26 (Int32.ofNat (n + 1))) := by
      have c40 : ¬ Int32.ofNat n = 40 := by rw [show (40 : Int32) = Int32.ofNat 40 from rfl, eq_n (by omega) (by omega)]; exact c
      unfold sh_X12_keep X12_keep_F
      rw [m_O hM, bs, m_I hM, bs, h26, if_neg c40, fl]
    refine ⟨_, run, ⟨?_, fun b hb => ?_⟩, ?_, ?_⟩
    · rfl
    · simp only [List.mem_cons, List.not_mem_nil, or_false, not_or] at hb
      rw [sI_ne _ _ _ hb.1, wR_ne _ _ hb.2]
    · rw [sI_own, wR_ne _ _ (by decide), show min (n + 1) 40 = n + 1 by omega]
    · rw [sI_ne _ _ _ (by decide), wR_own]
      funext q
      unfold keepR
      rw [if_neg c]
/-- the class after an act, and the reference's rows as they will be -/
theorem CV.fg (cv : CV M A P D k) (hl : 346 ≤ M.2.2.length) (f : Fg 257 M M1) (ak' : AcK M1) (hk : k ≤ k') (hA : ∀ a, a ∈ [325, 329, 339, 340, 341, 342, 343, 344] → A' a = A a) (hB : ∀ i, i ∈ [11, 20, 35, 36, 37] → A' 319 i = A 319 i)
    (mm : ∃ n c, A' 319 26 = Int32.ofNat n ∧ A' 319 28 = Int32.ofNat c ∧ MmV M1 257 P (A 325) k' (A' 324) (A' 333) (A' 334) (A' 335) (A' 336) (A' 328) n c) : CV M1 A' P D k' := by
  have hQ : isQ 257 := Or.inl rfl
  obtain ⟨⟨o, w, pd, t6⟩, ⟨m1, m2, ⟨P1, s1⟩, s2, ak⟩, -, ⟨i1, i2⟩, tp, ft⟩ := cv
  have hD : D = 67 ∨ D = 162 := by rcases o.2 with q | q <;> omega
  have I := fun a h1 h2 => f.int (a := a) hl ak' hQ h1 h2
  obtain ⟨n, c, e1, e2, mv⟩ := mm
  refine ⟨⟨f.obk hl ak' hQ o, by rw [hA 325 (by decide)]; exact f.wd hl ak' hQ w, f.plk hl ak' hQ hD pd, by rw [hA 325 (by decide)]; exact t6⟩, ⟨f.mk hl ak' hQ m1, f.mk hl ak' hQ m2, ⟨P1, s1.ext (fun a _ _ => f.kdE (by omega)) (fun k => f.ref hl ak' hQ (by omega) (by omega) (by omega) (by omega) _ (by omega))⟩, f.t304 hl ak' hQ s2, ak'⟩, ⟨n, c, e1, e2, by rw [hA 325 (by decide)]; exact mv⟩, ⟨?_, ?_⟩, ?_, ?_⟩
  · rw [hB 35 (by decide), I 64 (by omega) (by omega)]; exact i1
  · rw [hB 35 (by decide), hB 36 (by decide), hB 37 (by decide), hA 325 (by decide), hA 339 (by decide), hA 340 (by decide), hA 341 (by decide), hA 342 (by decide), hA 343 (by decide), hA 344 (by decide)]
    rcases i2 with q | ⟨q, n', c', b1, b2, b3⟩
    · exact Or.inl q
    · exact Or.inr ⟨q, n', c', b1, b2, (f.mmv hl ak ak' hQ (Or.inr rfl) (by decide) b3).le hk⟩
  · obtain ⟨tl, t1, t2, t3, t4⟩ := tp
    unfold TpV
    rw [hB 11 (by decide), hA 329 (by decide), I 64 (by omega) (by omega), I 65 (by omega) (by omega)]
    exact ⟨tl, t1, t2, t3, t4⟩
  · rw [hB 20 (by decide), I 64 (by omega) (by omega)]; exact ft
/-- an act is through on both sides -/
theorem act_inv (rm : Rm M j) (cv : CV M M.1 P D (1300 * j)) (f : Fg 257 M M1) (ak' : AcK M1) (nr : Nr M M1 40) (e2 : M2.2 = M1.2) (ei : ∀ a, a < 319 ∨ 345 < a → M2.1 a = M1.1 a) (hA : ∀ a, a ∈ [325, 329, 339, 340, 341, 342, 343, 344] → M2.1 a = M.1 a) (hB : ∀ i, i ∈ [11, 20, 35, 36, 37] → M2.1 319 i = M.1 319 i)
    (mm : ∃ n c, M2.1 319 26 = Int32.ofNat n ∧ M2.1 319 28 = Int32.ofNat c ∧ MmV M1 257 P (M.1 325) (1300 * (j + 1)) (M2.1 324) (M2.1 333) (M2.1 334) (M2.1 335) (M2.1 336) (M2.1 328) n c) : Inv M2 (j + 1) ∧ Ky M2 := by
  have hl := rm.1
  have c1 := cv.fg hl f ak' (show 1300 * j ≤ 1300 * (j + 1) by omega) hA hB mm
  have sc : Sc M1 M2 := Sc.same e2 (fun a ha => ei a (by omega))
  have hl1 : 346 ≤ M1.2.2.length := Nat.le_trans hl f.len
  have c2 := sc.cv hl1 c1
  refine ⟨⟨⟨P, D, c2⟩, ?_⟩, c2.1.2.1.1⟩
  obtain ⟨r1, r2, r3⟩ := rm
  obtain ⟨n1, n2, n3⟩ := nr
  unfold Rm
  rw [e2]
  omega
theorem ActV.ext {Q : Nat} {X Y : Gm} (h : ActV X Q P T k pa n) (ak : AcK X) (hQ : isQ Q) (e2 : Y.2 = X.2) (eq : Y.1 Q 2 = X.1 Q 2 ∧ Y.1 Q 3 = X.1 Q 3) (er : ∀ a, 346 ≤ a → Y.1 a = X.1 a) : ActV Y Q P T k pa n := by
  obtain ⟨x, b1, b2, b3, b4, b5⟩ := h
  refine ⟨x, b1, by rw [eq.1]; exact b2, by rw [eq.2]; exact b3, b4, fun i hi => ?_⟩
  have ee : eA Y Q ((x + (40 - n) + i) % 40) = eA X Q ((x + (40 - n) + i) % 40) := by unfold eA; rw [e2]
  obtain ⟨c1, c2⟩ := b5 i hi
  have := ak.1 Q _ hQ (Nat.mod_lt _ (by omega)) c1
  rw [ee]
  exact ⟨c1, c2.1.eq e2, c2.2.1, c2.2.2.1.ext (fun a h1 _ => er a (by omega)), c2.2.2.2⟩
theorem AcK.ext {X Y : Gm} (h : AcK X) (e2 : Y.2 = X.2) : AcK Y := by
  have ee : ∀ Q p, eA Y Q p = eA X Q p := fun Q p => by unfold eA; rw [e2]
  refine ⟨fun Q p hQ hp hne => ?_, fun Q p Q' p' hQ hQ' hp hp' hd n1 n2 => ?_⟩
  · rw [ee] at hne ⊢
    obtain ⟨a, b, P', c⟩ := h.1 Q p hQ hp hne
    exact ⟨a, by rw [e2]; exact b, P', c.eq e2⟩
  · rw [ee] at n1 n2 ⊢
    rw [ee]
    exact h.2 Q p Q' p' hQ hQ' hp hp' hd n1 n2
theorem Fg.same {X Y : Gm} (e2 : Y.2 = X.2) (ei : ∀ a, (a < 257 ∨ 277 < a) → (a < 299 ∨ 345 < a) → Y.1 a = X.1 a) : Fg 257 X Y :=
  ⟨⟨[], by rw [e2, List.append_nil]⟩, fun a k _ _ _ _ _ => by rw [e2], fun a _ h2 h3 _ => ei a (by omega) h3, fun p _ _ => by unfold eA; rw [e2]⟩
end
