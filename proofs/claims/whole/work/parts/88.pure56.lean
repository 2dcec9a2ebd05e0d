/-! ===== PURE 56: a Memory is copied ===== -/
section
variable {M M1 M2 : Gm} {Q R P P' D k k' n c j : Nat} {N N' T pa nz nm nh st : Nat → Int32}
theorem cp_I {a b m : Nat} {q : Int32} (ha : kd M a = (32, m)) (hb : kd M b = (32, m)) (hm : m < 1000) (hq : q = Int32.ofNat m) : cpI M a 0 b 0 q = some (cpM M a b 0 0 m) := by
  unfold cpI
  rw [hq, if_pos ⟨⟨by rw [ha], by rw [hb]⟩, ⟨by decide, by decide, nneg (by omega)⟩, by rw [ha, nn m (by omega)]; show 0 + m ≤ m; omega, by rw [hb, nn m (by omega)]; show 0 + m ≤ m; omega⟩, nn m (by omega)]
  rfl
/-- the last a acts of R stand in Q too -/
def CpA (M : Gm) (Q R P : Nat) (T : Nat → Int32) (k : Nat) (pa : Nat → Int32) (x n a : Nat) : Prop := ∀ i, n - a ≤ i → i < n → eA M Q ((x + (40 - n) + i) % 40) ≠ 0 ∧ Sd M (eA M Q ((x + (40 - n) + i) % 40)) P (rowA pa i) T k
theorem c_cpLoop {x : Nat} (hne : Q ≠ R) (hQ : isQ Q) (hR : isQ R) (w : Wd M P T) (hl : 346 ≤ M.2.2.length) (mkQ : MmK M Q) (mkR : MmK M R) (ak : AcK M) (sk : StK M (Q + 6) P) (hx : x < 40) (hn : n ≤ 40) (q2 : M.1 Q 2 = Int32.ofNat x) (q3 : M.1 Q 3 = Int32.ofNat n) (mv : MmV M R P T k N pa nz nm nh st n c) (r2 : M.1 R 2 = Int32.ofNat x) :
    ∃ M', lp (X4_copyFrom_B29 Q R) FU (1, M) = some M' ∧ (Fg Q M M' ∧ AcK M' ∧ StK M' (Q + 6) P ∧ CpA M' Q R P T k pa x n n ∧ (∀ b, b < 346 → M'.1 b = M.1 b) ∧ (∀ k, M'.2.1 (Q + 6) k = M.2.1 (Q + 6) k) ∧ Nr M M' n) := by
  have hQ' := hQ
  have hR' := hR
  unfold isQ at hQ' hR'
  have hT := w.2.2.2.2.2.1
  refine lp_inv (fun a q => q.1 = Int32.ofNat (a + 1) ∧ Fg Q M q.2 ∧ AcK q.2 ∧ StK q.2 (Q + 6) P ∧ CpA q.2 Q R P T k pa x n a ∧ (∀ b, b < 346 → q.2.1 b = M.1 b) ∧ (∀ k, q.2.2.1 (Q + 6) k = M.2.1 (Q + 6) k) ∧ Nr M q.2 a) _ n ?_ ?_ ⟨rfl, ⟨⟨[], (List.append_nil _).symm⟩, fun _ _ _ _ _ _ _ => rfl, fun _ _ _ _ _ => rfl, fun _ _ _ => rfl⟩, ak, sk, fun i h1 h2 => by omega, fun _ _ => rfl, fun _ => rfl, Nr.same rfl 0⟩ (by omega)
  · rintro a ⟨q, Y⟩ ha ⟨g1, g2, g3, g4, g5, g6, g6', g7⟩
    replace g1 : q = Int32.ofNat (a + 1) := g1
    subst g1
    replace g2 : Fg Q M Y := g2
    replace g3 : AcK Y := g3
    replace g4 : StK Y (Q + 6) P := g4
    replace g5 : CpA Y Q R P T k pa x n a := g5
    replace g6 : ∀ b, b < 346 → Y.1 b = M.1 b := g6
    replace g6' : ∀ k, Y.2.1 (Q + 6) k = M.2.1 (Q + 6) k := g6'
    replace g7 : Nr M Y a := g7
    have hlY : 346 ≤ Y.2.2.length := Nat.le_trans hl g2.len
    have wY := g2.wd hl g3 hQ w
    have mkQY : MmK Y Q := g2.mk hl g3 hQ mkQ
    have mkRY : MmK Y R := g2.mk hl g3 hQ mkR
    have mvY := g2.mmv hl ak g3 hQ hR hne mv
    obtain ⟨p, hp⟩ : ∃ p, p = (x + (40 - n) + (n - 1 - a)) % 40 := ⟨_, rfl⟩
    have hp40 : p < 40 := by rw [hp]; exact Nat.mod_lt _ (by omega)
    -- the place
    have ev : (Int32.ofNat x - Int32.ofNat (a + 1)).toInt = (x : Int) - ((a + 1 : Nat) : Int) := by rw [tI_sub (by rw [tn _ (by omega), tn _ (by omega)]; omega) (by rw [tn _ (by omega), tn _ (by omega)]; omega), tn _ (by omega), tn _ (by omega)]
    obtain ⟨pp, f1, f2⟩ := c_fm40 (M := Y) _ (by omega) (by omega) ev
    have epp : pp = p := by omega
    subst epp
    -- the row of Q
    obtain ⟨Y1, a1, a2, a3, a4, a5, a6, a7, a8, a9, -⟩ := c_row2 (p := pp) wY.1 hlY mkQY g4 g3 hp40
    have hl1 : 346 ≤ Y1.2.2.length := Nat.le_trans hlY a4.len
    have w1 := a4.wd hlY a3 hQ wY
    have mkR1 : MmK Y1 R := a4.mk hlY a3 hQ mkRY
    have mv1 := a4.mmv hlY g3 a3 hQ hR hne mvY
    -- the row of R
    obtain ⟨xR, v1, v2, v3, v4, v5⟩ := id mv1.2.1
    have exR : xR = x := by
      have e1 : Y1.1 R = M.1 R := by rw [a6 R (by omega), g6 R (by omega)]
      rw [e1, r2, eq_n (by omega) (by omega)] at v2
      exact v2.symm
    subst exR
    obtain ⟨u1, u2⟩ := v5 (n - 1 - a) (by omega)
    rw [← hp] at u1 u2
    have skR : StK Y1 (R + 6) P := mv1.1.1
    obtain ⟨Y2, b1, -, -, -, -, -, -, -, -, b10⟩ := c_row2 (p := pp) w1.1 hl1 mkR1 skR a3 hp40
    have eY2 := b10 u1
    subst eY2
    have bigR := a3.1 R pp hR hp40 u1
    have dj := a3.2 R pp Q pp hR hQ hp40 hp40 (Or.inl (Ne.symm hne)) u1 a2
    obtain ⟨Y3, d1, d2, d3, d4, d5, d6, d7, d8⟩ := c_cpAct hl1 hQ a3 hp40 a2 hT u2 bigR.2.1 dj
    have bigQ := a3.1 Q pp hQ hp40 a2
    have fQ2 : Y.1 Q 2 = Int32.ofNat xR := by rw [g6 Q (by omega)]; exact q2
    have fQ3 : Y.1 Q 3 = Int32.ofNat n := by rw [g6 Q (by omega)]; exact q3
    have nlt : ¬ Int32.ofNat n < Int32.ofNat (a + 1) := by rw [lt_n (by omega) (by omega)]; omega
    refine Or.inl ⟨(Int32.ofNat (a + 2), Y3), ?_, rfl, (g2.trans a4).trans d3, d2, ?_, fun i h1 h2 => ?_, fun b hb => ?_, fun k => ?_, ?_⟩
    · unfold X4_copyFrom_B29
      rw [mm_I wY.1 mkQY, bs, fQ3, if_neg nlt, mm_I wY.1 mkQY, bs, fQ2, f1, bs, a1, bs, b1, bs, d1, bs, suc_n]
    · exact ⟨by rw [show kd Y3 (Q + 6) = kd Y2 (Q + 6) by unfold kd; rw [d6], a8 _ (by omega)]; exact g4.1, by rw [d8 _ _ (by omega), a7 _ _ (by omega) (by omega)]; exact g4.2.1, fun i hi => ⟨by rw [d8 _ _ (by omega), a7 _ _ (by omega) (by omega)]; exact (g4.2.2 i hi).1, by rw [show kd Y3 (Q + 6 + (1 + i)) = kd Y2 (Q + 6 + (1 + i)) by unfold kd; rw [d6], a8 _ (by omega)]; exact (g4.2.2 i hi).2⟩⟩
    · by_cases ei : i = n - 1 - a
      · rw [ei, ← hp, d4 Q pp hQ hp40]
        exact ⟨a2, d5⟩
      · obtain ⟨o1, o2⟩ := g5 i (by omega) h2
        generalize hpi : (xR + (40 - n) + i) % 40 = pi at o1 o2
        have hpi40 : pi < 40 := by rw [← hpi]; exact Nat.mod_lt _ (by omega)
        have npi : pi ≠ pp := by omega
        have ee : eA Y3 Q pi = eA Y Q pi := (d4 Q pi hQ hpi40).trans (a5 pi hpi40 npi)
        have o3 := g3.1 Q pi hQ hpi40 o1
        have dj2 := a3.2 Q pi Q pp hQ hQ hpi40 hp40 (Or.inr npi) (by rw [a5 pi hpi40 npi]; exact o1) a2
        rw [a5 pi hpi40 npi] at dj2
        rw [ee]
        refine ⟨o1, o2.1.ext (fun a _ _ => ?_) (fun k => ?_), o2.2.1, o2.2.2.1.ext (fun a _ _ => ?_), o2.2.2.2⟩
        · rw [show kd Y3 a = kd Y2 a by unfold kd; rw [d6]]; exact a8 a (by omega)
        · rw [d8 _ _ (by omega)]; exact a7 _ _ (by omega) (by omega)
        · rw [d7 a (by omega)]; exact a6 a (by omega)
    · rw [d7 b (by omega), a6 b (by omega)]; exact g6 b hb
    · rw [d8 _ _ (by omega), a7 _ _ (by omega) (by omega)]; exact g6' k
    · have e22 : Y3.2.2 = Y2.2.2 := d6
      have := g7.trans a9
      unfold Nr at this ⊢
      rw [e22]
      exact this
  · rintro ⟨q, Y⟩ ⟨g1, g2, g3, g4, g5, g6, g6', g7⟩
    replace g1 : q = Int32.ofNat (n + 1) := g1
    subst g1
    replace g6 : ∀ b, b < 346 → Y.1 b = M.1 b := g6
    replace g2 : Fg Q M Y := g2
    replace g3 : AcK Y := g3
    have wY := g2.wd hl g3 hQ w
    have mkQY : MmK Y Q := g2.mk hl g3 hQ mkQ
    have fQ3 : Y.1 Q 3 = Int32.ofNat n := by rw [g6 Q (by omega)]; exact q3
    refine ⟨Y, ?_, g2, g3, g4, g5, g6, g6', g7⟩
    unfold X4_copyFrom_B29
    rw [mm_I wY.1 mkQY, bs, fQ3, if_pos (by rw [lt_n (by omega) (by omega)]; omega)]
theorem c_memCopy (hne : Q ≠ R) (hQ : isQ Q) (hR : isQ R) (w : Wd M P T) (hl : 346 ≤ M.2.2.length) (mkQ : MmK M Q) (mkR : MmK M R) (ak : AcK M) (sk : StK M (Q + 6) P') (mv : MmV M R P T k N pa nz nm nh st n c) :
    ∃ M', sh_X4_copyFrom Q R M = some M' ∧ Fg Q M M' ∧ AcK M' ∧ MmV M' Q P T k N pa nz nm nh st n c ∧ (∀ a, 299 ≤ a → a < 346 → M'.1 a = M.1 a) ∧ Nr M M' 40 := by
  have hQ' := hQ
  have hR' := hR
  unfold isQ at hQ' hR'
  have hM := w.1
  have hT := w.2.2.2.2.2.1
  have kQ := mm_kd hM mkQ
  have kR := mm_kd hM mkR
  obtain ⟨s, ⟨x, x1, x2, x3, x4, x5⟩, nv, no, stt⟩ := id mv
  -- now
  obtain ⟨A, a1, a2, a3, a4, a5⟩ := c_copyFrom s.1 sk (by omega)
  have aK : A.2.2 = M.2.2 := by rw [a2]; rfl
  have akd : ∀ b, kd A b = kd M b := fun b => by unfold kd; rw [aK]
  have aR : ∀ b k, A.2.1 b k = up2 M.2.1 (Q + 6) 0 P b k := fun b k => by rw [a2]; rfl
  have aR' : ∀ b k, (b ≠ Q + 6 ∨ k ≠ 0) → A.2.1 b k = M.2.1 b k := fun b k h => (aR b k).trans (upN _ h)
  have skA : StK A (Q + 6) P := ⟨by rw [akd]; exact sk.1, (aR _ _).trans (upA _ _ _ _), fun i hi => ⟨(aR' _ _ (by omega)).trans (sk.2.2 i hi).1, by rw [akd]; exact (sk.2.2 i hi).2⟩⟩
  have eAA : ∀ Q0 p, isQ Q0 → eA A Q0 p = eA M Q0 p := fun Q0 p h0 => by unfold isQ at h0; exact aR' _ _ (by omega)
  have akA : AcK A := by
    refine ⟨fun Q0 p h0 hp hne' => ?_, fun Q0 p0 Q1 p1 h0 h1 hp0 hp1 hd n0 n1 => ?_⟩
    · rw [eAA Q0 p h0] at hne' ⊢
      obtain ⟨e1, e2, P2, e3⟩ := ak.1 Q0 p h0 hp hne'
      exact ⟨e1, by rw [aK]; exact e2, P2, e3.ext (fun a _ _ => akd a) (fun k => aR' _ _ (by omega))⟩
    · rw [eAA Q0 p0 h0] at n0 ⊢
      rw [eAA Q1 p1 h1] at n1 ⊢
      exact ak.2 Q0 p0 Q1 p1 h0 h1 hp0 hp1 hd n0 n1
  have fA : Fg Q M A := ⟨⟨[], by rw [aK, List.append_nil]⟩, fun a k _ _ h3 _ _ => aR' a k (Or.inl h3), fun a _ h2 _ _ => a3 a (by omega), fun p _ _ => eAA Q p hQ⟩
  have wA := fA.wd hl akA hQ w
  have mkQA : MmK A Q := fA.mk hl akA hQ mkQ
  have mkRA : MmK A R := fA.mk hl akA hQ mkR
  have hlA : 346 ≤ A.2.2.length := by rw [aK]; exact hl
  have rQ : A.1 Q = M.1 Q := a3 Q (by omega)
  have rR : A.1 R = M.1 R := a3 R (by omega)
  have svA : Sd A (Q + 6) P N T k := ⟨skA, by unfold SOk; omega, s.2.2.1.cp hT a4 a5, s.2.2.2⟩
  have mvA := fA.mmv hl ak akA hQ hR hne mv
  -- the two fields
  have bK : (sI (sI A Q 2 (Int32.ofNat x)) Q 3 (Int32.ofNat n)).2 = A.2 := rfl
  have bI' : ∀ b, b ≠ Q → (sI (sI A Q 2 (Int32.ofNat x)) Q 3 (Int32.ofNat n)).1 b = A.1 b := fun b hb => by rw [sI_ne _ _ _ hb, sI_ne _ _ _ hb]
  have b2 : (sI (sI A Q 2 (Int32.ofNat x)) Q 3 (Int32.ofNat n)).1 Q 2 = Int32.ofNat x := by rw [sI_own, ud_ne _ _ (by decide), sI_own, ud_at]
  have b3 : (sI (sI A Q 2 (Int32.ofNat x)) Q 3 (Int32.ofNat n)).1 Q 3 = Int32.ofNat n := by rw [sI_own, ud_at]
  have i3 : (sI A Q 2 (Int32.ofNat x)).1 R 3 = Int32.ofNat n := by rw [sI_ne _ _ _ (Ne.symm hne), rR]; exact x3
  have pB := mm_P (wA.1.sI Q 2 (Int32.ofNat x)) mkQA 3 (Int32.ofNat n)
  generalize sI (sI A Q 2 (Int32.ofNat x)) Q 3 (Int32.ofNat n) = B at bK bI' b2 b3 pB
  have fB : Fg Q A B := ⟨⟨[], by rw [bK, List.append_nil]⟩, fun a k _ _ _ _ _ => by rw [bK], fun a _ h2 _ _ => bI' a (by omega), fun p _ _ => by unfold eA; rw [bK]⟩
  have akB : AcK B := akA.ext bK
  have wB := fB.wd hlA akB hQ wA
  have mkQB : MmK B Q := fB.mk hlA akB hQ mkQA
  have mkRB : MmK B R := fB.mk hlA akB hQ mkRA
  have mvB := fB.mmv hlA akA akB hQ hR hne mvA
  have hlB : 346 ≤ B.2.2.length := by rw [bK]; exact hlA
  have skB : StK B (Q + 6) P := skA.eq bK
  obtain ⟨C, l1, l2, l3, l4, l5, l6, l6', l7⟩ := c_cpLoop hne hQ hR wB hlB mkQB mkRB akB skB x1 x4 b2 b3 mvB (by rw [bI' R (by omega), rR]; exact x2)
  have wC := l2.wd hlB l3 hQ wB
  have mkQC : MmK C Q := l2.mk hlB l3 hQ mkQB
  have mkRC : MmK C R := l2.mk hlB l3 hQ mkRB
  have mvC := l2.mmv hlB akB l3 hQ hR hne mvB
  have hlC : 346 ≤ C.2.2.length := Nat.le_trans hlB l2.len
  have fC : Fg Q M C := (fA.trans fB).trans l2
  have rC : ∀ b, b < 346 → b ≠ Q → (b < Q + 6 ∨ Q + 20 < b) → C.1 b = M.1 b := fun b hb hb1 hb2 => by rw [l6 b hb, bI' b hb1, a3 b (by omega)]
  -- the notes and the status
  have kC := mm_kd wC.1 mkQC
  have kCR := mm_kd wC.1 mkRC
  have n7R : C.1 R 7 = Int32.ofNat c := mvC.2.2.1.1
  have hD1 := wC.1.sI Q 7 (Int32.ofNat c)
  have c1 : cpI (sI C Q 7 (Int32.ofNat c)) (R + 2) 0 (Q + 2) 0 8 = some (cpM (sI C Q 7 (Int32.ofNat c)) (R + 2) (Q + 2) 0 0 8) := cp_I (m := 8) kCR.2.2.1 kC.2.2.1 (by decide) rfl
  have hD2 : Ky (cpM (sI C Q 7 (Int32.ofNat c)) (R + 2) (Q + 2) 0 0 8) := hD1.eq rfl
  have c2 : cpI (cpM (sI C Q 7 (Int32.ofNat c)) (R + 2) (Q + 2) 0 0 8) (R + 3) 0 (Q + 3) 0 8 = some (cpM (cpM (sI C Q 7 (Int32.ofNat c)) (R + 2) (Q + 2) 0 0 8) (R + 3) (Q + 3) 0 0 8) := cp_I (m := 8) kCR.2.2.2.1 kC.2.2.2.1 (by decide) rfl
  have hD3 : Ky (cpM (cpM (sI C Q 7 (Int32.ofNat c)) (R + 2) (Q + 2) 0 0 8) (R + 3) (Q + 3) 0 0 8) := hD1.eq rfl
  have c3 : cpI (cpM (cpM (sI C Q 7 (Int32.ofNat c)) (R + 2) (Q + 2) 0 0 8) (R + 3) (Q + 3) 0 0 8) (R + 4) 0 (Q + 4) 0 8 = some (cpM (cpM (cpM (sI C Q 7 (Int32.ofNat c)) (R + 2) (Q + 2) 0 0 8) (R + 3) (Q + 3) 0 0 8) (R + 4) (Q + 4) 0 0 8) := cp_I (m := 8) kCR.2.2.2.2.1 kC.2.2.2.2.1 (by decide) rfl
  have hD4 : Ky (cpM (cpM (cpM (sI C Q 7 (Int32.ofNat c)) (R + 2) (Q + 2) 0 0 8) (R + 3) (Q + 3) 0 0 8) (R + 4) (Q + 4) 0 0 8) := hD1.eq rfl
  have c4 : cpI (cpM (cpM (cpM (sI C Q 7 (Int32.ofNat c)) (R + 2) (Q + 2) 0 0 8) (R + 3) (Q + 3) 0 0 8) (R + 4) (Q + 4) 0 0 8) (R + 5) 0 (Q + 5) 0 3 = some (cpM (cpM (cpM (cpM (sI C Q 7 (Int32.ofNat c)) (R + 2) (Q + 2) 0 0 8) (R + 3) (Q + 3) 0 0 8) (R + 4) (Q + 4) 0 0 8) (R + 5) (Q + 5) 0 0 3) := cp_I (m := 3) kCR.2.2.2.2.2 kC.2.2.2.2.2 (by decide) rfl
  have run : sh_X4_copyFrom Q R M = some (cpM (cpM (cpM (cpM (sI C Q 7 (Int32.ofNat c)) (R + 2) (Q + 2) 0 0 8) (R + 3) (Q + 3) 0 0 8) (R + 4) (Q + 4) 0 0 8) (R + 5) (Q + 5) 0 0 3) := by
    unfold sh_X4_copyFrom X4_copyFrom_F
    rw [mm_O hM mkQ, bs, mm_now hM mkQ, bs, mm_now hM mkR, bs, a1, bs, mm_I wA.1 mkRA, bs, rR, x2, mm_P wA.1 mkQA, bs, mm_I (wA.1.sI _ _ _) mkRA, bs, i3, pB, bs, l1, bs, mm_I wC.1 mkRC, bs, n7R, mm_P wC.1 mkQC, bs, mm_nz hD1 mkRC, bs, mm_nz hD1 mkQC, bs, c1, bs, mm_nm hD2 mkRC, bs, mm_nm hD2 mkQC, bs, c2, bs, mm_nh hD3 mkRC, bs, mm_nh hD3 mkQC, bs, c3, bs, mm_st hD4 mkRC, bs, mm_st hD4 mkQC, bs, c4, bs]
  have dK : (cpM (cpM (cpM (cpM (sI C Q 7 (Int32.ofNat c)) (R + 2) (Q + 2) 0 0 8) (R + 3) (Q + 3) 0 0 8) (R + 4) (Q + 4) 0 0 8) (R + 5) (Q + 5) 0 0 3).2 = C.2 := rfl
  have dI : ∀ b, b ≠ Q → b ≠ Q + 2 → b ≠ Q + 3 → b ≠ Q + 4 → b ≠ Q + 5 → (cpM (cpM (cpM (cpM (sI C Q 7 (Int32.ofNat c)) (R + 2) (Q + 2) 0 0 8) (R + 3) (Q + 3) 0 0 8) (R + 4) (Q + 4) 0 0 8) (R + 5) (Q + 5) 0 0 3).1 b = C.1 b := fun b h1 h2 h3 h4 h5 => by rw [cpM_ne _ _ _ _ h5, cpM_ne _ _ _ _ h4, cpM_ne _ _ _ _ h3, cpM_ne _ _ _ _ h2, sI_ne _ _ _ h1]
  have dQ : ∀ q, q ≠ 7 → (cpM (cpM (cpM (cpM (sI C Q 7 (Int32.ofNat c)) (R + 2) (Q + 2) 0 0 8) (R + 3) (Q + 3) 0 0 8) (R + 4) (Q + 4) 0 0 8) (R + 5) (Q + 5) 0 0 3).1 Q q = C.1 Q q := fun q hq => by rw [cpM_ne _ _ _ _ (by omega), cpM_ne _ _ _ _ (by omega), cpM_ne _ _ _ _ (by omega), cpM_ne _ _ _ _ (by omega), sI_own, ud_ne _ _ hq]
  have d7 : (cpM (cpM (cpM (cpM (sI C Q 7 (Int32.ofNat c)) (R + 2) (Q + 2) 0 0 8) (R + 3) (Q + 3) 0 0 8) (R + 4) (Q + 4) 0 0 8) (R + 5) (Q + 5) 0 0 3).1 Q 7 = Int32.ofNat c := by rw [cpM_ne _ _ _ _ (by omega), cpM_ne _ _ _ _ (by omega), cpM_ne _ _ _ _ (by omega), cpM_ne _ _ _ _ (by omega), sI_own, ud_at]
  have dz : ∀ i, i < 8 → (cpM (cpM (cpM (cpM (sI C Q 7 (Int32.ofNat c)) (R + 2) (Q + 2) 0 0 8) (R + 3) (Q + 3) 0 0 8) (R + 4) (Q + 4) 0 0 8) (R + 5) (Q + 5) 0 0 3).1 (Q + 2) i = C.1 (R + 2) i := fun i hi => by rw [cpM_ne _ _ _ _ (by omega), cpM_ne _ _ _ _ (by omega), cpM_ne _ _ _ _ (by omega), cpM_own _ _ _ _ hi, sI_ne _ _ _ (by omega)]
  have dm : ∀ i, i < 8 → (cpM (cpM (cpM (cpM (sI C Q 7 (Int32.ofNat c)) (R + 2) (Q + 2) 0 0 8) (R + 3) (Q + 3) 0 0 8) (R + 4) (Q + 4) 0 0 8) (R + 5) (Q + 5) 0 0 3).1 (Q + 3) i = C.1 (R + 3) i := fun i hi => by rw [cpM_ne _ _ _ _ (by omega), cpM_ne _ _ _ _ (by omega), cpM_own _ _ _ _ hi, cpM_ne _ _ _ _ (by omega), sI_ne _ _ _ (by omega)]
  have dh : ∀ i, i < 8 → (cpM (cpM (cpM (cpM (sI C Q 7 (Int32.ofNat c)) (R + 2) (Q + 2) 0 0 8) (R + 3) (Q + 3) 0 0 8) (R + 4) (Q + 4) 0 0 8) (R + 5) (Q + 5) 0 0 3).1 (Q + 4) i = C.1 (R + 4) i := fun i hi => by rw [cpM_ne _ _ _ _ (by omega), cpM_own _ _ _ _ hi, cpM_ne _ _ _ _ (by omega), cpM_ne _ _ _ _ (by omega), sI_ne _ _ _ (by omega)]
  have ds : ∀ i, i < 3 → (cpM (cpM (cpM (cpM (sI C Q 7 (Int32.ofNat c)) (R + 2) (Q + 2) 0 0 8) (R + 3) (Q + 3) 0 0 8) (R + 4) (Q + 4) 0 0 8) (R + 5) (Q + 5) 0 0 3).1 (Q + 5) i = C.1 (R + 5) i := fun i hi => by rw [cpM_own _ _ _ _ hi, cpM_ne _ _ _ _ (by omega), cpM_ne _ _ _ _ (by omega), cpM_ne _ _ _ _ (by omega), sI_ne _ _ _ (by omega)]
  generalize cpM (cpM (cpM (cpM (sI C Q 7 (Int32.ofNat c)) (R + 2) (Q + 2) 0 0 8) (R + 3) (Q + 3) 0 0 8) (R + 4) (Q + 4) 0 0 8) (R + 5) (Q + 5) 0 0 3 = E at run dK dI dQ d7 dz dm dh ds
  have fE : Fg Q C E := ⟨⟨[], by rw [dK, List.append_nil]⟩, fun a k _ _ _ _ _ => by rw [dK], fun a _ h2 _ _ => dI a (by omega) (by omega) (by omega) (by omega) (by omega), fun p _ _ => by unfold eA; rw [dK]⟩
  have eE : ∀ p, eA E Q p = eA C Q p := fun p => by unfold eA; rw [dK]
  have svC : Sd C (Q + 6) P N T k := ⟨l4, svA.2.1, svA.2.2.1.ext (fun a h1 h2 => by rw [l6 a (by omega), bI' a (by omega)]), svA.2.2.2⟩
  refine ⟨E, run, fC.trans fE, l3.ext dK, ⟨⟨svC.1.eq dK, svC.2.1, svC.2.2.1.ext (fun a h1 h2 => dI a (by omega) (by omega) (by omega) (by omega) (by omega)), svC.2.2.2⟩, ⟨x, x1, by rw [dQ 2 (by decide), l6 Q (by omega)]; exact b2, by rw [dQ 3 (by decide), l6 Q (by omega)]; exact b3, x4, fun i hi => ?_⟩, ⟨d7, nv.2.1, fun i hi => ?_⟩, no, fun i hi => ?_⟩, fun a h1 h2 => ?_, ?_⟩
  · obtain ⟨u1, u2⟩ := l5 i (by omega) hi
    have bg := l3.1 Q _ hQ (Nat.mod_lt _ (by omega)) u1
    rw [eE]
    exact ⟨u1, u2.1.eq dK, u2.2.1, u2.2.2.1.ext (fun a h1 _ => dI a (by omega) (by omega) (by omega) (by omega) (by omega)), u2.2.2.2⟩
  · have := nv.2.1
    rw [dz i (by omega), dm i (by omega), dh i (by omega)]
    exact mvC.2.2.1.2.2 i hi
  · rw [ds i hi]; exact mvC.2.2.2.2 i hi
  · rw [dI a (by omega) (by omega) (by omega) (by omega) (by omega)]
    exact rC a h2 (by omega) (by omega)
  · have e1 : E.2.2 = C.2.2 := by rw [dK]
    have e2 : B.2.2 = M.2.2 := by rw [bK, aK]
    unfold Nr at l7 ⊢
    rw [e1]
    rw [e2] at l7
    omega
end
