/-! ===== PURE 54: undo, note, forget ===== -/
section
variable {M M1 M2 : Gm} {S P D k k' n c j : Nat} {N N' T pa nz nm nh st : Nat → Int32}
theorem sR_same {a k x : Nat} (h : M.2.1 a k = x) : (sR M a k x).2 = M.2 := by
  show (up2 M.2.1 a k x, M.2.2) = M.2
  have : up2 M.2.1 a k x = M.2.1 := by
    funext b i
    by_cases c : b = a ∧ i = k
    · rw [c.1, c.2, upA, h]
    · rw [upN _ (by omega)]
  rw [this]
theorem a_undo (h : Inv M j) : An2 (sh_X11_undo 64) (sh_X12_undo 319) M j := by
  obtain ⟨⟨P, D, cv⟩, rm⟩ := id h
  obtain ⟨⟨o, w, -, t6⟩, ⟨mk, -, -, -, ak⟩, ⟨n, c, c1, c2, c3⟩, -⟩ := id cv
  obtain ⟨s, ⟨x, x1, x2, x3, x4, x5⟩, nv, no, st⟩ := id c3
  have hM := w.1
  have hT := w.2.2.2.2.2.1
  have hl := rm.1
  by_cases v1 : n = 0
  · subst v1
    have z0 : Int32.ofNat 0 = 0 := rfl
    refine ⟨-1, M, sI M 319 4 0, ?_, ?_, ?_⟩
    · unfold sh_X11_undo X11_undo_F X11_undo_J21 sh_X4_undoAct X4_undoAct_F
      rw [o_O hM, bs, o_mem hM o, bs, mm_O hM mk, bs, mm_I hM mk, bs, x3, if_pos z0]
      rfl
    · unfold sh_X12_undo X12_undo_F
      rw [m_O hM, bs, m_P hM, bs, m_I (hM.sI _ _ _), bs, sI_own, ud_ne _ _ (by decide), c1, if_pos z0]
    · have q := Rq.z M 0
      exact ⟨⟨⟨P, D, (q.rs.cv (q.sc.cv rm.1 cv)).le (by omega)⟩, rm.ft rfl (by omega)⟩, hM.sI _ _ _⟩
  · have nz0 : ¬ Int32.ofNat n = 0 := by rw [show (0 : Int32) = Int32.ofNat 0 from rfl, eq_n (by omega) (by omega)]; exact v1
    obtain ⟨p, hp⟩ : ∃ p, p = (x + (40 - n) + (n - 1)) % 40 := ⟨_, rfl⟩
    have hp40 : p < 40 := by rw [hp]; exact Nat.mod_lt _ (by omega)
    obtain ⟨y1, y2⟩ := x5 (n - 1) (by omega)
    rw [← hp] at y1 y2
    have ev : (Int32.ofNat x - 1).toInt = (x : Int) - 1 := by
      have h1 : (1 : Int32).toInt = 1 := rfl
      rw [tI_sub (by rw [tn _ (by omega), h1]; omega) (by rw [tn _ (by omega), h1]; omega), tn _ (by omega), h1]
    obtain ⟨r, q1, q2⟩ := c_fm40 (M := M) _ (by omega) (by omega) ev
    have er : r = p := by omega
    subst er
    have e1n : Int32.ofNat n - 1 = Int32.ofNat (n - 1) := by rw [show (1 : Int32) = Int32.ofNat 1 from rfl, sub_n (by omega) (by omega)]
    -- the two fields
    have hA : Ky (sI (sI M 257 2 (Int32.ofNat r)) 257 3 (Int32.ofNat (n - 1))) := (hM.sI _ _ _).sI _ _ _
    have rA : ∀ b, b ≠ 257 → (sI (sI M 257 2 (Int32.ofNat r)) 257 3 (Int32.ofNat (n - 1))).1 b = M.1 b := fun b hb => by rw [sI_ne _ _ _ hb, sI_ne _ _ _ hb]
    have fA2 : (sI (sI M 257 2 (Int32.ofNat r)) 257 3 (Int32.ofNat (n - 1))).1 257 2 = Int32.ofNat r := by rw [sI_own, ud_ne _ _ (by decide), sI_own, ud_at]
    have fA3 : (sI (sI M 257 2 (Int32.ofNat r)) 257 3 (Int32.ofNat (n - 1))).1 257 3 = Int32.ofNat (n - 1) := by rw [sI_own, ud_at]
    have fA7 : (sI (sI M 257 2 (Int32.ofNat r)) 257 3 (Int32.ofNat (n - 1))).1 257 7 = M.1 257 7 := by rw [sI_own, ud_ne _ _ (by decide), sI_own, ud_ne _ _ (by decide)]
    have kA : (sI (sI M 257 2 (Int32.ofNat r)) 257 3 (Int32.ofNat (n - 1))).2 = M.2 := rfl
    have i3 : (sI M 257 2 (Int32.ofNat r)).1 257 3 = Int32.ofNat n := by rw [sI_own, ud_ne _ _ (by decide)]; exact x3
    have pA := mm_P (hM.sI 257 2 (Int32.ofNat r)) (Q := 257) mk 3 (Int32.ofNat (n - 1))
    generalize sI (sI M 257 2 (Int32.ofNat r)) 257 3 (Int32.ofNat (n - 1)) = B at hA rA fA2 fA3 fA7 kA pA
    have mkB : MmK B 257 := by unfold MmK at *; rw [kA]; exact mk
    have akB : AcK B := ak.ext kA
    have oB : ObK B P D := by unfold ObK at *; rw [kA]; exact o
    have eB : eA B 257 r = eA M 257 r := by unfold eA; rw [kA]
    have skB : StK B 263 P := s.1.eq kA
    obtain ⟨B1, b1, b2⟩ := c_rowOfAct hA (by rw [kA]; exact hl) mkB skB akB hp40
    have bE : B1 = B := by
      rcases b2 with ⟨_, q⟩ | ⟨q, _⟩
      · exact q
      · rw [eB] at q; exact absurd q y1
    subst bE
    have big := ak.1 257 r (Or.inl rfl) hp40 y1
    have sdE : Sd B1 (eA B1 257 r) P (rowA (M.1 333) (n - 1)) (M.1 325) (1300 * j) := by
      rw [eB]
      exact ⟨y2.1.eq kA, y2.2.1, y2.2.2.1.ext (fun a _ _ => rA a (by omega)), y2.2.2.2⟩
    obtain ⟨M1, g1, g2, g3, g4, g5⟩ := c_copyFrom sdE.1 skB (by rw [eB]; omega)
    have kM1 : M1.2 = M.2 := by rw [g2, sR_same skB.2.1, kA]
    have sM1 : Sd M1 263 P (rowA (M.1 333) (n - 1)) (M.1 325) (1300 * j) := ⟨s.1.eq kM1, s.2.1, sdE.2.2.1.cp hT g4 g5, sdE.2.2.2⟩
    have hM1 : Ky M1 := hM.eq kM1
    have rM1 : ∀ b, (b < 263 ∨ 277 < b) → b ≠ 257 → M1.1 b = M.1 b := fun b hb hb' => by rw [g3 b (by omega), rA b hb']
    have r257 : M1.1 257 = B1.1 257 := g3 257 (by omega)
    have oM1 : ObK M1 P D := by unfold ObK at *; rw [kM1]; exact o
    have mkM1 : MmK M1 257 := by unfold MmK at *; rw [kM1]; exact mk
    -- the reference
    have hX : Ky (sI (sI M1 319 4 0) 319 26 (Int32.ofNat (n - 1))) := (hM1.sI _ _ _).sI _ _ _
    have eX : ∀ b, b ≠ 319 → (sI (sI M1 319 4 0) 319 26 (Int32.ofNat (n - 1))).1 b = M1.1 b := fun b hb => by rw [sI_ne _ _ _ hb, sI_ne _ _ _ hb]
    have e26 : (sI (sI M1 319 4 0) 319 26 (Int32.ofNat (n - 1))).1 319 26 = Int32.ofNat (n - 1) := by rw [sI_own, ud_at]
    have e9 : ∀ q, q ≠ 4 → q ≠ 26 → (sI (sI M1 319 4 0) 319 26 (Int32.ofNat (n - 1))).1 319 q = M.1 319 q := fun q h1 h2 => by rw [sI_own, ud_ne _ _ h2, sI_own, ud_ne _ _ h1, rM1 319 (by omega) (by omega)]
    have i26 : (sI M1 319 4 0).1 319 26 = Int32.ofNat n := by rw [sI_own, ud_ne _ _ (by decide), rM1 319 (by omega) (by omega)]; exact c1
    have pX := m_P (hM1.sI 319 4 0) 26 (Int32.ofNat (n - 1))
    have kX : (sI (sI M1 319 4 0) 319 26 (Int32.ofNat (n - 1))).2 = M1.2 := rfl
    generalize sI (sI M1 319 4 0) 319 26 (Int32.ofNat (n - 1)) = X at hX eX e26 e9 pX kX
    have x33 : X.1 333 = M.1 333 := (eX 333 (by decide)).trans (rM1 333 (by omega) (by omega))
    have x24 : X.1 324 = M.1 324 := (eX 324 (by decide)).trans (rM1 324 (by omega) (by omega))
    have loop : lp (X12_undo_B26 319) FU (0, X) = some (wR X 324 (mixR 305 (rowA (M.1 333) (n - 1)) (M.1 324))) := by
      have h0 : (0, X) = (fun i => (Int32.ofNat i, wR X 324 (mixR i (rowA (M.1 333) (n - 1)) (M.1 324)))) 0 := by
        show _ = (Int32.ofNat 0, wR X 324 _)
        rw [show mixR 0 (rowA (M.1 333) (n - 1)) (M.1 324) = X.1 324 by rw [x24]; exact funext fun q => mixR_ge (Nat.zero_le q), wR_self]
        rfl
      rw [h0]
      refine lp_for (fun i => (Int32.ofNat i, wR X 324 (mixR i (rowA (M.1 333) (n - 1)) (M.1 324)))) _ 305 (fun i hi => ?_) rfl (by omega)
      have hW := hX.wR 324 (mixR i (rowA (M.1 333) (n - 1)) (M.1 324))
      have c305 : ¬ (305 : Int32) ≤ Int32.ofNat i := by rw [show (305 : Int32) = Int32.ofNat 305 from rfl, le_n (by omega) (by omega)]; omega
      have eu : ud (mixR i (rowA (M.1 333) (n - 1)) (M.1 324)) i (M.1 333 (305 * (n - 1) + i)) = mixR (i + 1) (rowA (M.1 333) (n - 1)) (M.1 324) := by
        funext q
        unfold ud mixR
        by_cases cq : q = i
        · rw [if_pos cq, if_pos (by omega), cq]; rfl
        · rw [if_neg cq]
          by_cases cr : q < i
          · rw [if_pos cr, if_pos (by omega)]
          · rw [if_neg cr, if_neg (by omega)]
      unfold X12_undo_B26
      rw [if_neg c305, m_now hW, bs, m_past hW, bs, m_I hW, bs, wR_ne _ _ (by decide), e26, mu305, ad_n, ld333 hW (by omega), bs, wR_ne _ _ (by decide), x33, st324 hW _ hi, bs, suc_n, sI_wR, wR_own, wR_wR, eu]
    have hW := hX.wR 324 (mixR 305 (rowA (M.1 333) (n - 1)) (M.1 324))
    refine ⟨Int32.ofNat (n - 1), M1, wR X 324 (mixR 305 (rowA (M.1 333) (n - 1)) (M.1 324)), ?_, ?_, ?_⟩
    · unfold sh_X11_undo X11_undo_F X11_undo_J21 sh_X4_undoAct X4_undoAct_F
      rw [o_O hM, bs, o_mem hM o, bs, mm_O hM mk, bs, mm_I hM mk, bs, x3, if_neg nz0, mm_I hM mk, bs, x2, q1, bs, mm_P hM mk, bs, mm_I (hM.sI _ _ _) mk, bs, i3, e1n, pA, bs, mm_now hA mkB, bs, mm_I hA mkB, bs, fA2, b1, bs, g1, bs]
      have z1 : zck 1 = some 1 := rfl
      simp only [z1, bs]
      rw [if_neg (by decide), o_mem hM1 oM1, bs, mm_I hM1 mkM1, bs, r257, fA3]
    · unfold sh_X12_undo X12_undo_F
      rw [m_O hM1, bs, m_P hM1, bs, m_I (hM1.sI _ _ _), bs, i26, if_neg nz0, bs, e1n, pX, bs, loop, bs, m_I hW, bs, wR_ne _ _ (by decide), e26]
    · have e0 : ∀ a, a ≠ 319 → a ≠ 324 → (wR X 324 (mixR 305 (rowA (M.1 333) (n - 1)) (M.1 324))).1 a = M1.1 a := fun a h1 h2 => by rw [wR_ne _ _ h2, eX a h1]
      have e9' : ∀ q, q ≠ 4 → q ≠ 26 → (wR X 324 (mixR 305 (rowA (M.1 333) (n - 1)) (M.1 324))).1 319 q = M.1 319 q := fun q h1 h2 => by rw [wR_ne _ _ (by decide)]; exact e9 q h1 h2
      refine act_inv rm cv (Fg.same kM1 (fun a h1 h2 => rM1 a (by omega) (by omega))) (ak.ext kM1) (Nr.same (by rw [kM1]) 40) kX (fun a ha => e0 a (by omega) (by omega)) (fun a ha => ?_) (fun q hq => ?_) ⟨n - 1, c, by rw [wR_ne _ _ (by decide)]; exact e26, (e9' 28 (by decide) (by decide)).trans c2, ?_, ?_, ?_, ?_, fun i hi => ?_⟩
      · simp only [List.mem_cons, List.not_mem_nil, or_false] at ha
        rw [e0 a (by omega) (by omega), rM1 a (by omega) (by omega)]
      · simp only [List.mem_cons, List.not_mem_nil, or_false] at hq
        exact e9' q (by omega) (by omega)
      · refine (sM1.cg hT (fun q hq => ?_)).sd (by omega)
        rw [wR_own, mixR_lt hq]
      · rw [e0 333 (by decide) (by decide), rM1 333 (by omega) (by omega)]
        have av := c3.2.1
        refine ⟨r, hp40, by rw [r257]; exact fA2, by rw [r257]; exact fA3, by omega, fun i hi => ?_⟩
        obtain ⟨u1, u2⟩ := x5 i (by omega)
        have ep : (r + (40 - (n - 1)) + i) % 40 = (x + (40 - n) + i) % 40 := by omega
        have ee : eA M1 257 ((x + (40 - n) + i) % 40) = eA M 257 ((x + (40 - n) + i) % 40) := by unfold eA; rw [kM1]
        have bg := ak.1 257 _ (Or.inl rfl) (Nat.mod_lt _ (by omega)) u1
        rw [ep, ee]
        exact ⟨u1, u2.1.eq kM1, u2.2.1, u2.2.2.1.ext (fun a h1 _ => rM1 a (by omega) (by omega)), u2.2.2.2.1, u2.2.2.2.2.w (by omega)⟩
      · unfold NtV at *
        rw [e0 334 (by decide) (by decide), e0 335 (by decide) (by decide), e0 336 (by decide) (by decide), rM1 334 (by omega) (by omega), rM1 335 (by omega) (by omega), rM1 336 (by omega) (by omega), r257, fA7, rM1 (257 + 2) (by omega) (by omega), rM1 (257 + 3) (by omega) (by omega), rM1 (257 + 4) (by omega) (by omega)]
        exact nv
      · rw [e0 334 (by decide) (by decide), e0 335 (by decide) (by decide), rM1 334 (by omega) (by omega), rM1 335 (by omega) (by omega)]
        exact no
      · rw [e0 328 (by decide) (by decide), rM1 328 (by omega) (by omega), rM1 (257 + 5) (by omega) (by omega)]
        exact st i hi
theorem a_forget (h : Inv M j) : An3 (sh_X11_forget 64) (sh_X12_forget 319) M j := by
  obtain ⟨⟨P, D, cv⟩, rm⟩ := id h
  obtain ⟨⟨o, w, -, t6⟩, ⟨mk, -, -, -, ak⟩, ⟨n, c, c1, c2, c3⟩, -⟩ := id cv
  obtain ⟨s, av, nv, no, st⟩ := id c3
  have hM := w.1
  have e0 : ∀ a, a ≠ 257 → a ≠ 319 → (sI (sI (sI M 257 7 0) 319 4 0) 319 28 0).1 a = M.1 a := fun a h1 h2 => by rw [sI_ne _ _ _ h2, sI_ne _ _ _ h2, sI_ne _ _ _ h1]
  have e9 : ∀ q, q ≠ 4 → q ≠ 28 → (sI (sI (sI M 257 7 0) 319 4 0) 319 28 0).1 319 q = M.1 319 q := fun q h1 h2 => by rw [sI_own, ud_ne _ _ h2, sI_own, ud_ne _ _ h1, sI_ne _ _ _ (by decide)]
  refine ⟨sI M 257 7 0, sI (sI (sI M 257 7 0) 319 4 0) 319 28 0, ?_, ?_, ?_⟩
  · unfold sh_X11_forget X11_forget_F
    rw [o_O hM, bs, o_mem hM o, bs, mm_P hM mk, bs]
  · unfold sh_X12_forget X12_forget_F
    rw [m_O (hM.sI _ _ _), bs, m_P (hM.sI _ _ _), bs, m_P ((hM.sI _ _ _).sI _ _ _), bs]
  · refine act_inv (M1 := sI M 257 7 0) rm cv (Fg.same rfl (fun a h1 h2 => sI_ne _ _ _ (by omega))) (ak.ext rfl) (Nr.same rfl 40) rfl (fun a ha => by rw [sI_ne _ _ _ (by omega), sI_ne _ _ _ (by omega)]) (fun a ha => ?_) (fun q hq => ?_) ⟨n, 0, (e9 26 (by decide) (by decide)).trans c1, by rw [sI_own, ud_at]; rfl, ?_, ?_, ⟨by rw [sI_own, ud_at]; rfl, by omega, fun i hi => absurd hi (Nat.not_lt_zero _)⟩, fun i hi => absurd hi (Nat.not_lt_zero _), fun i hi => ?_⟩
    · simp only [List.mem_cons, List.not_mem_nil, or_false] at ha
      exact e0 a (by omega) (by omega)
    · simp only [List.mem_cons, List.not_mem_nil, or_false] at hq
      exact e9 q (by omega) (by omega)
    · rw [e0 324 (by decide) (by decide)]
      exact ⟨s.1.sI _ _ _, s.2.1, s.2.2.1.ext (fun a _ _ => sI_ne _ _ _ (by omega)), s.2.2.2.1, s.2.2.2.2.w (by omega)⟩
    · rw [e0 333 (by decide) (by decide)]
      obtain ⟨x, b1, b2, b3, b4, b5⟩ := av.ext (Y := sI M 257 7 0) ak (Or.inl rfl) rfl ⟨by rw [sI_own, ud_ne _ _ (by decide)], by rw [sI_own, ud_ne _ _ (by decide)]⟩ (fun a ha => sI_ne _ _ _ (by omega))
      exact ⟨x, b1, b2, b3, b4, fun i hi => ⟨(b5 i hi).1, (b5 i hi).2.sd (by omega)⟩⟩
    · rw [e0 328 (by decide) (by decide), sI_ne _ _ _ (by decide)]
      exact st i hi
end
