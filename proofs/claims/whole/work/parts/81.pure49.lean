/-! ===== PURE 49: an act is kept ===== -/
def Nr (M M' : Gm) (r : Nat) : Prop := M.2.2.length ≤ M'.2.2.length ∧ M'.2.2.length ≤ M.2.2.length + 15 * r ∧ slK M'.2.2 ≤ slK M.2.2 + 328 * r
theorem Nr.trans {M M' M2 : Gm} {r s : Nat} (h : Nr M M' r) (g : Nr M' M2 s) : Nr M M2 (r + s) := by
  unfold Nr at *
  omega
theorem Nr.same {M M' : Gm} (h : M'.2.2 = M.2.2) (r : Nat) : Nr M M' r := by
  unfold Nr
  rw [h]
  omega
theorem slK_app (K L : List (Nat × Nat)) : slK (K ++ L) = slK K + slK L := by
  unfold slK
  rw [List.map_append, List.sum_append]
section
variable {M : Gm} {Q P P' k n : Nat} {N N' T pa : Nat → Int32}
theorem Sd.cg {S : Nat} (h : Sd M S P N T k) (hT : TOk T) (e : ∀ k, k < 305 → N' k = N k) : Sd M S P N' T k :=
  ⟨h.1, h.2.1, h.2.2.1.cg hT e, h.2.2.2.1.cg hT e, h.2.2.2.2.cg e⟩
theorem c_row2 {p : Nat} (hM : Ky M) (hl : 346 ≤ M.2.2.length) (mk : MmK M Q) (sk : StK M (Q + 6) P') (ak : AcK M) (hp : p < 40) : ∃ M1, sh_X4_rowOfAct Q (Int32.ofNat p) M = some (eA M1 Q p, M1) ∧ eA M1 Q p ≠ 0 ∧ AcK M1 ∧ Fg Q M M1 ∧ (∀ p', p' < 40 → p' ≠ p → eA M1 Q p' = eA M Q p') ∧ (∀ b, b < M.2.2.length → M1.1 b = M.1 b) ∧ (∀ b k, b < M.2.2.length → b ≠ Q + 1 → M1.2.1 b k = M.2.1 b k) ∧ (∀ b, b < M.2.2.length → kd M1 b = kd M b) ∧ Nr M M1 1 ∧ (eA M Q p ≠ 0 → M1 = M) := by
  have hQ : isQ Q := mk.2
  have hQ' := mk.2
  obtain ⟨M1, a1, a2⟩ := c_rowOfAct hM hl mk sk ak hp
  rcases a2 with ⟨b1, b2⟩ | ⟨b1, b2, b3, b4, b5, b6⟩
  · subst b2
    exact ⟨M1, a1, b1, ak, ⟨⟨[], (List.append_nil _).symm⟩, fun _ _ _ _ _ _ _ => rfl, fun _ _ _ _ _ => rfl, fun _ _ _ => rfl⟩, fun _ _ _ => rfl, fun _ _ => rfl, fun _ _ _ _ => rfl, fun _ _ => rfl, Nr.same rfl 1, fun _ => rfl⟩
  · have kdE : ∀ b, b < M.2.2.length → kd M1 b = kd M b := fun b hb => by
      unfold kd
      rw [b3, List.getD_eq_getElem?_getD, List.getD_eq_getElem?_getD, List.getElem?_append_left hb]
    have len : M1.2.2.length = M.2.2.length + 15 := by rw [b3, List.length_append]; rfl
    have eo : ∀ Q0 p', isQ Q0 → p' < 40 → (Q0 ≠ Q ∨ p' ≠ p) → eA M1 Q0 p' = eA M Q0 p' := fun Q0 p' h0 hp' hne => by
      unfold isQ at h0
      exact b5 _ _ (by omega) (by omega)
    have ne0 : eA M1 Q p ≠ 0 := by rw [b2]; omega
    have ak1 : AcK M1 := by
      refine ⟨fun Q0 p' h0 hp' hne => ?_, fun Q0 p0 Q1 p1 h0 h1 hp0 hp1 hd n0 n1 => ?_⟩
      · by_cases c : Q0 = Q ∧ p' = p
        · rw [c.1, c.2, b2]
          exact ⟨hl, by omega, P', b6⟩
        · rw [eo Q0 p' h0 hp' (by omega)] at hne ⊢
          obtain ⟨c1, c2, P2, c3⟩ := ak.1 Q0 p' h0 hp' hne
          unfold isQ at h0
          exact ⟨c1, by omega, P2, c3.ext (fun a _ _ => kdE a (by omega)) (fun k => b5 _ _ (by omega) (by omega))⟩
      · by_cases c : Q0 = Q ∧ p0 = p
        · have c' : ¬ (Q1 = Q ∧ p1 = p) := by omega
          rw [eo Q1 p1 h1 hp1 (by omega)] at n1 ⊢
          have := (ak.1 Q1 p1 h1 hp1 n1).2.1
          rw [c.1, c.2, b2]
          omega
        · rw [eo Q0 p0 h0 hp0 (by omega)] at n0 ⊢
          have q0 := (ak.1 Q0 p0 h0 hp0 n0).2.1
          by_cases c' : Q1 = Q ∧ p1 = p
          · rw [c'.1, c'.2, b2]
            omega
          · rw [eo Q1 p1 h1 hp1 (by omega)] at n1 ⊢
            exact ak.2 Q0 p0 Q1 p1 h0 h1 hp0 hp1 hd n0 n1
    refine ⟨M1, a1, ne0, ak1, ⟨⟨stKs, b3⟩, fun a k h1 h2 h3 h4 h5 => b5 a k h1 (by omega), fun a h1 _ _ _ => b4 a h1, fun p' hp' hne => ?_⟩, fun p' hp' hne => eo Q p' hQ hp' (Or.inr hne), b4, fun b k hb hne => b5 b k hb (Or.inl hne), kdE, ?_, fun q => absurd b1 q⟩
    · by_cases c : p' = p
      · rw [c] at hne; exact absurd b1 hne
      · exact eo Q p' hQ hp' (Or.inr c)
    · unfold Nr
      rw [b3, List.length_append, slK_app]
      have : stKs.length = 15 ∧ slK stKs = 328 := by decide
      omega
/-- a State is copied into an act's row -/
theorem c_cpAct {S p : Nat} (hl : 346 ≤ M.2.2.length) (hQ : isQ Q) (ak : AcK M) (hp : p < 40) (ne : eA M Q p ≠ 0) (hT : TOk T) (s : Sd M S P N T k) (hS : S + 14 < M.2.2.length) (hd : S + 14 < eA M Q p ∨ eA M Q p + 14 < S) : ∃ M2, sh_X7_copyFrom (eA M Q p) S M = some M2 ∧ AcK M2 ∧ Fg Q M M2 ∧ (∀ Q0 p', isQ Q0 → p' < 40 → eA M2 Q0 p' = eA M Q0 p') ∧ Sd M2 (eA M Q p) P N T k ∧ M2.2.2 = M.2.2 ∧ (∀ b, (b < eA M Q p ∨ eA M Q p + 14 < b) → M2.1 b = M.1 b) ∧ ∀ b k, b ≠ eA M Q p → M2.2.1 b k = M.2.1 b k := by
  obtain ⟨e1, e2, P2, e3⟩ := ak.1 Q p hQ hp ne
  obtain ⟨M2, h1, h2, h3, h4, h5⟩ := c_copyFrom s.1 e3 hd
  have hk : M2.2.2 = M.2.2 := by rw [h2]; rfl
  have kdE : ∀ a, kd M2 a = kd M a := fun a => by unfold kd; rw [hk]
  have hr : ∀ a k, M2.2.1 a k = up2 M.2.1 (eA M Q p) 0 P a k := fun a k => by rw [h2]; rfl
  have r1 : ∀ b k, b ≠ eA M Q p → M2.2.1 b k = M.2.1 b k := fun b k hb => (hr b k).trans (upN _ (by omega))
  have eo : ∀ Q0 p', isQ Q0 → p' < 40 → eA M2 Q0 p' = eA M Q0 p' := fun Q0 p' h0 hp' => by
    unfold isQ at h0
    exact r1 _ _ (by omega)
  have skE : StK M2 (eA M Q p) P := ⟨by rw [kdE]; exact e3.1, (hr _ _).trans (upA _ _ _ _), fun i hi => ⟨(hr _ _).trans ((upN _ (by omega)).trans (e3.2.2 i hi).1), by rw [kdE]; exact (e3.2.2 i hi).2⟩⟩
  refine ⟨M2, h1, ⟨fun Q0 p' h0 hp' hne => ?_, fun Q0 p0 Q1 p1 h0 h1' hp0 hp1 hdd n0 n1 => ?_⟩, ⟨⟨[], by rw [hk, List.append_nil]⟩, fun a k _ _ _ _ h5 => r1 a k (fun q => h5 p hp (by rw [eo Q p hQ hp]; exact ne) (by rw [eo Q p hQ hp]; exact q)), fun a _ _ _ h5 => h3 a (by have := h5 p hp (by rw [eo Q p hQ hp]; exact ne); rw [eo Q p hQ hp] at this; exact this), fun p' hp' _ => eo Q p' hQ hp'⟩, eo, ⟨skE, Or.inr (Or.inr (Or.inr e1)), s.2.2.1.cp hT h4 h5, s.2.2.2⟩, hk, h3, r1⟩
  · rw [eo Q0 p' h0 hp'] at hne ⊢
    rw [hk]
    obtain ⟨c1, c2, P3, c3⟩ := ak.1 Q0 p' h0 hp' hne
    by_cases c : Q0 = Q ∧ p' = p
    · rw [c.1, c.2]
      exact ⟨e1, e2, P, skE⟩
    · have dj := ak.2 Q0 p' Q p h0 hQ hp' hp (by omega) hne ne
      exact ⟨c1, c2, P3, c3.ext (fun a _ _ => kdE a) (fun k => r1 _ _ (by omega))⟩
  · rw [eo Q0 p0 h0 hp0] at n0 ⊢
    rw [eo Q1 p1 h1' hp1] at n1 ⊢
    exact ak.2 Q0 p0 Q1 p1 h0 h1' hp0 hp1 hdd n0 n1
/-- the past with one act more -/
def keepR (pa N : Nat → Int32) (n : Nat) : Nat → Int32 := fun j => if n = 40 then (if j < 11895 then pa (j + 305) else if j < 12200 then N (j - 11895) else pa j) else if 305 * n ≤ j ∧ j < 305 * n + 305 then N (j - 305 * n) else pa j
theorem keepR_new {n : Nat} (hn : n ≤ 40) {i : Nat} (hi : i < 305) : rowA (keepR pa N n) (min (n + 1) 40 - 1) i = N i := by
  unfold rowA keepR
  by_cases c : n = 40
  · have e : 305 * (min (n + 1) 40 - 1) + i - 11895 = i := by omega
    rw [if_pos c, if_neg (by omega), if_pos (by omega), e]
  · have e : 305 * (min (n + 1) 40 - 1) + i - 305 * n = i := by omega
    rw [if_neg c, if_pos (by omega), e]
theorem keepR_old {n : Nat} (hn : n ≤ 40) {i : Nat} (hi : i < min (n + 1) 40 - 1) : ∀ j, j < 305 → rowA (keepR pa N n) i j = rowA pa (if n = 40 then i + 1 else i) j := by
  intro j hj
  unfold rowA keepR
  by_cases c : n = 40
  · have e : 305 * i + j + 305 = 305 * (i + 1) + j := by omega
    rw [if_pos c, if_pos c, if_pos (by omega), e]
  · rw [if_neg c, if_neg c, if_neg (by omega)]
theorem c_keepAct (w : Wd M P T) (hl : 346 ≤ M.2.2.length) (mk : MmK M 257) (ak : AcK M) (s : Sd M 263 P N T k) (av : ActV M 257 P T k pa n) : ∃ M', sh_X4_keepAct 257 M = some M' ∧ Fg 257 M M' ∧ AcK M' ∧ Sd M' 263 P N T k ∧ ActV M' 257 P T k (keepR pa N n) (min (n + 1) 40) ∧ (∀ b, b < 346 → b ≠ 257 → M'.1 b = M.1 b) ∧ M'.1 257 7 = M.1 257 7 ∧ Nr M M' 1 := by
  have hM := w.1
  have hT := w.2.2.2.2.2.1
  obtain ⟨x, x1, x2, x3, x4, x5⟩ := av
  have hQ : isQ 257 := Or.inl rfl
  obtain ⟨M1, a1, a2, a3, a4, a5, a6, a7, a8, a9, -⟩ := c_row2 (p := x) hM hl mk s.1 ak x1
  have hl1 : 346 ≤ M1.2.2.length := Nat.le_trans hl a4.len
  have mk1 : MmK M1 257 := a4.mk hl a3 hQ mk
  have w1 := a4.wd hl a3 hQ w
  have s1 : Sd M1 263 P N T k := ⟨s.1.ext (fun a _ _ => a8 a (by omega)) (fun k => a7 _ _ (by omega) (by omega)), s.2.1, s.2.2.1.ext (fun a _ _ => a6 a (by omega)), s.2.2.2⟩
  have big := (a3.1 257 x hQ x1 a2)
  obtain ⟨M2, b1, b2, b3, b4, b5, b6, b7, b8⟩ := c_cpAct hl1 hQ a3 x1 a2 hT s1 (by omega) (by omega)
  have f2 := a4.trans b3
  have hl2 : 346 ≤ M2.2.2.length := by rw [b6]; exact hl1
  have mk2 : MmK M2 257 := b3.mk hl1 b2 hQ mk1
  have w2 := b3.wd hl1 b2 hQ w1
  have r2 : M2.1 257 = M.1 257 := by rw [b7 257 (by omega), a6 257 (by omega)]
  have eL : M1.2.2.length = M2.2.2.length := by rw [b6]
  -- the two fields
  have st0 : ∀ (X : Gm), X = sI (sI M2 257 2 (Int32.ofNat ((x + 1) % 40))) 257 3 (Int32.ofNat (min (n + 1) 40)) → X.2 = M2.2 ∧ (∀ b, b ≠ 257 → X.1 b = M2.1 b) ∧ X.1 257 2 = Int32.ofNat ((x + 1) % 40) ∧ X.1 257 3 = Int32.ofNat (min (n + 1) 40) ∧ X.1 257 7 = M.1 257 7 := fun X hX => by
    subst hX
    refine ⟨rfl, fun b hb => by rw [sI_ne _ _ _ hb, sI_ne _ _ _ hb], ?_, ?_, ?_⟩
    · rw [sI_own, ud_ne _ _ (by decide), sI_own, ud_at]
    · rw [sI_own, ud_at]
    · rw [sI_own, ud_ne _ _ (by decide), sI_own, ud_ne _ _ (by decide), r2]
  obtain ⟨t1, t2, t3, t4, t5⟩ := st0 _ rfl
  have run : sh_X4_keepAct 257 M = some (sI (sI M2 257 2 (Int32.ofNat ((x + 1) % 40))) 257 3 (Int32.ofNat (min (n + 1) 40))) := by
    unfold sh_X4_keepAct X4_keepAct_F
    have e3 : (sI M2 257 2 (Int32.ofNat ((x + 1) % 40))).1 257 3 = Int32.ofNat n := by rw [sI_own, ud_ne _ _ (by decide), r2]; exact x3
    rw [mm_O hM mk, bs, mm_I hM mk, bs, x2, a1, bs, mm_now w1.1 mk1, bs, b1, bs, mm_I w2.1 mk2, bs, r2, x2, pl1, rm40 (by omega), bs, mm_P w2.1 mk2, bs, mm_I (w2.1.sI _ _ _) mk2, bs, e3, pl1, m_min, bs, show (40 : Int32) = Int32.ofNat 40 from rfl, min_n (by omega) (by omega), mm_P (w2.1.sI _ _ _) mk2, bs]
  generalize sI (sI M2 257 2 (Int32.ofNat ((x + 1) % 40))) 257 3 (Int32.ofNat (min (n + 1) 40)) = M4 at t1 t2 t3 t4 t5 run
  have eA4 : ∀ Q p, eA M4 Q p = eA M2 Q p := fun Q p => by unfold eA; rw [t1]
  have skx : ∀ S P', StK M2 S P' → StK M4 S P' := fun S P' h => h.eq t1
  have ak4 : AcK M4 := by
    refine ⟨fun Q0 p' h0 hp' hne => ?_, fun Q0 p0 Q1 p1 h0 h1 hp0 hp1 hd n0 n1 => ?_⟩
    · rw [eA4] at hne ⊢
      obtain ⟨c1, c2, P3, c3⟩ := b2.1 Q0 p' h0 hp' hne
      exact ⟨c1, by rw [t1]; exact c2, P3, skx _ _ c3⟩
    · rw [eA4] at n0 ⊢
      rw [eA4] at n1 ⊢
      exact b2.2 Q0 p0 Q1 p1 h0 h1 hp0 hp1 hd n0 n1
  have f4 : Fg 257 M2 M4 := ⟨⟨[], by rw [t1, List.append_nil]⟩, fun a k _ _ _ _ _ => by rw [t1], fun a _ h2 _ _ => t2 a (by omega), fun p _ _ => eA4 257 p⟩
  have sdx : ∀ S R, Sd M2 S P R T k → 257 < S → Sd M4 S P R T k := fun S R h hS => ⟨skx _ _ h.1, h.2.1, h.2.2.1.ext (fun a _ _ => t2 a (by omega)), h.2.2.2⟩
  refine ⟨M4, run, f2.trans f4, ak4, ?_, ⟨(x + 1) % 40, Nat.mod_lt _ (by omega), t3, t4, Nat.min_le_right _ _, fun i hi => ?_⟩, fun b h1 h2 => ?_, t5, ?_⟩
  · exact sdx _ _ ⟨s1.1.ext (fun a _ _ => by unfold kd; rw [b6]) (fun k => b8 _ _ (by omega)), s1.2.1, s1.2.2.1.ext (fun a _ _ => b7 a (by omega)), s1.2.2.2⟩ (by omega)
  · by_cases c : i = min (n + 1) 40 - 1
    · have ep : ((x + 1) % 40 + (40 - min (n + 1) 40) + i) % 40 = x := by omega
      rw [ep, eA4, b4 257 x hQ x1]
      refine ⟨a2, (sdx _ _ b5 (by omega)).cg hT (fun j hj => ?_)⟩
      rw [c]
      exact keepR_new x4 hj
    · have hi' : i < min (n + 1) 40 - 1 := by omega
      have hp : ((x + 1) % 40 + (40 - min (n + 1) 40) + i) % 40 = (x + (40 - n) + (if n = 40 then i + 1 else i)) % 40 := by
        by_cases c40 : n = 40
        · rw [if_pos c40]; omega
        · rw [if_neg c40]; omega
      have hlt : (if n = 40 then i + 1 else i) < n := by
        by_cases c40 : n = 40
        · rw [if_pos c40]; omega
        · rw [if_neg c40]; omega
      have hnx : (x + (40 - n) + (if n = 40 then i + 1 else i)) % 40 ≠ x := by
        by_cases c40 : n = 40
        · rw [if_pos c40]; omega
        · rw [if_neg c40]; omega
      obtain ⟨o1, o2⟩ := x5 _ hlt
      rw [hp]
      generalize (x + (40 - n) + (if n = 40 then i + 1 else i)) % 40 = p at hnx o1 o2 hp
      have hp40 : p < 40 := by rw [← hp]; exact Nat.mod_lt _ (by omega)
      have ee : eA M2 257 p = eA M 257 p := (b4 257 p hQ hp40).trans (a5 p hp40 hnx)
      have o3 := ak.1 257 p hQ hp40 o1
      have dj := a3.2 257 p 257 x hQ hQ hp40 x1 (Or.inr hnx) (by rw [a5 p hp40 hnx]; exact o1) a2
      rw [a5 p hp40 hnx] at dj
      rw [eA4, ee]
      refine ⟨o1, (sdx _ _ ⟨o2.1.ext (fun a _ _ => ?_) (fun k => ?_), o2.2.1, o2.2.2.1.ext (fun a _ _ => ?_), o2.2.2.2⟩ (by omega)).cg hT (keepR_old x4 hi')⟩
      · rw [show kd M2 a = kd M1 a by unfold kd; rw [b6]]; exact a8 a (by omega)
      · rw [b8 _ _ (by omega)]; exact a7 _ _ (by omega) (by omega)
      · rw [b7 a (by omega)]; exact a6 a (by omega)
  · rw [t2 b (by omega), b7 b (by omega)]; exact a6 b (by omega)
  · have e22 : M4.2.2 = M1.2.2 := by rw [t1, b6]
    unfold Nr at a9 ⊢
    rw [e22]
    exact a9
end
