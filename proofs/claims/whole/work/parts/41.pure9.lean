/-! ===== PURE 9: the class's heats ===== -/
/-- the clock's rows -/
def CkK (M : Gm) : Prop := M.2.1 299 0 = 300 ∧ M.2.1 299 1 = 301
theorem CkK.fm {L : List Nat} {M M' : Gm} (h : CkK M) (e : Fm L M M') : CkK M' := by
  unfold CkK at *
  rw [e.1]
  exact h
theorem k_O {M : Gm} (h : Ky M) : isO M 299 1 = some () := i_O ((h.1 299 (by decide)).trans rfl)
theorem k_next {M : Gm} (h : Ky M) (c : CkK M) : gfR M 299 1 0 = some 300 := (g_R 0 ((h.1 299 (by decide)).trans rfl)).trans (congrArg some c.1)
theorem k_sorted {M : Gm} (h : Ky M) (c : CkK M) : gfR M 299 1 1 = some 301 := (g_R 1 ((h.1 299 (by decide)).trans rfl)).trans (congrArg some c.2)
theorem c_isShut {M : Gm} {S P z : Nat} (hS : StK M S P) (hz : z < 5) : sh_X7_isShut S (Int32.ofNat z) M = some (if M.1 (S + 6) z = 0 then 0 else 1) := by
  unfold sh_X7_isShut X7_isShut_F X7_isShut_J14 zck
  simp (disch := omega) only [s_O hS, s_why hS, sl6 hS, Option.bind_some]
  by_cases c : M.1 (S + 6) z = 0
  · simp only [if_pos c]; rfl
  · simp only [if_neg c]; rfl
theorem sub_add32 (a b c : Int32) : a - b - c = a - (b + c) := Int32.sub_sub a b c
theorem isN_sub {x y : Int32} {a b c d : Nat} (hx : isN x a b) (hy : isN y c d) (hb : b < 100000) (hd : d < 100000) : (x - y).toInt = x.toInt - y.toInt ∧ -1000000 ≤ (x - y).toInt ∧ (x - y).toInt ≤ 1000000 := by
  have h1 := isN_tI hx (by omega)
  have h2 := isN_tI hy (by omega)
  have h3 : (x - y).toInt = x.toInt - y.toInt := tI_sub (by omega) (by omega)
  exact ⟨h3, by omega, by omega⟩
/-- the heats before DEVICES and WALLS -/
def base0 (T N : Nat → Int32) (z : Nat) : Int32 := (N z + (if N (10 + z) = 1 then 0 else N (5 + z))) - byI (N z - 200) (T z)
theorem base0_H (T N : Nat → Int32) (z : Nat) : base0 T N z - coolTo T N (Int32.ofNat z) (td T) = baseH T N z := by
  unfold base0 baseH
  rw [Nat.zero_add]
section Heats
variable {M : Gm} {S P : Nat} {N T : Nat → Int32}
theorem c_heats1 (hM : Ky M) (hC : CkK M) (hS : StK M S P) (hP : PlK M P) (hT : TOk T) (pv : PlV M P T) (sv : StV M S N T) (hN : NOk N T) (so : SOk S) (po : POk P) : ∃ M', lp (X1_moveHeats_B7 299 S P) FU (0, M) = some M' ∧ Fm [300] M M' ∧ ∀ z, z < tz T → M'.1 300 z = base0 T N z := by
  have hz := hT.z
  refine lp_inv (fun j q => q.1 = Int32.ofNat j ∧ Fm [300] M q.2 ∧ ∀ z, z < j → q.2.1 300 z = base0 T N z) _ (tz T) ?_ ?_ ⟨rfl, Fm.rfl' _ _, fun z hz => absurd hz (Nat.not_lt_zero z)⟩ (by omega)
  · rintro j ⟨i, M1⟩ hj ⟨h1, h2, h3⟩
    replace h1 : i = Int32.ofNat j := h1
    subst h1
    have hM1 := hM.fm h2
    have hC1 := hC.fm h2
    have hS1 := hS.fm h2
    have hP1 := hP.fm h2
    have ne : ∀ a, a ≠ 300 → M1.1 a = M.1 a := fun a ha => h2.2 a (by simp [ha])
    unfold SOk at so
    unfold POk at po
    obtain ⟨v1, v2, v3, -, -, v6⟩ := sv.2.1 j hj
    obtain ⟨n1, n2, -, -, -, n6⟩ := hN.1 j hj
    have q1 := (isN_sub n1 (show isN 200 200 200 from ⟨200, rfl, Nat.le_refl _, Nat.le_refl _⟩) (by decide) (by decide)).2
    have hleak : isN (T j) 1 1000 := isN_w (hT.2.1 j hj).1 (by decide) (by decide)
    have hJ : ∀ v, X1_moveHeats_J48 299 S P (Int32.ofNat j) (N j) 300 (Int32.ofNat j) (N j) v M1 = some (.inl (Int32.ofNat (j + 1), sI M1 300 j ((N j + v) - byI (N j - 200) (T j)))) := fun v => by
      unfold X1_moveHeats_J48
      simp (disch := omega) only [s_leak hS1, sl3 hS1, ne, v3, Option.bind_some, c_quot hleak q1.1 q1.2, st300 hM1, suc_n]
    refine Or.inl ⟨(Int32.ofNat (j + 1), sI M1 300 j (base0 T N j)), ?_, rfl, h2.set (by simp) _ _, fun z hz' => ?_⟩
    · unfold X1_moveHeats_B7
      simp (disch := omega) only [pg_I hP1, ne, pv.1.1, hz.1, Option.bind_some, le_n, s_heat hS1, sl1 hS1, v1, k_next hM1 hC1, c_isShut hS1, v6, s_load hS1, sl2 hS1, v2, hJ]
      rw [if_neg (by omega)]
      unfold base0
      rw [n6]
      by_cases c : N (15 + j) = 0
      · simp only [if_pos c]
        rfl
      · simp only [if_neg c]
        rfl
    · show (sI M1 300 j _).1 300 z = _
      rw [sI_own]
      by_cases e : z = j
      · subst e; rw [ud_at]
      · rw [ud_ne _ _ e]; exact h3 z (by omega)
  · rintro ⟨i, M1⟩ ⟨h1, h2, h3⟩
    replace h1 : i = Int32.ofNat (tz T) := h1
    subst h1
    have hP1 := hP.fm h2
    unfold POk at po
    have ne : ∀ a, a ≠ 300 → M1.1 a = M.1 a := fun a ha => h2.2 a (by simp [ha])
    refine ⟨M1, ?_, h2, h3⟩
    unfold X1_moveHeats_B7
    simp (disch := omega) only [pg_I hP1, ne, pv.1.1, hz.1, Option.bind_some, le_n]
    rw [if_pos (Nat.le_refl _)]
theorem c_heats2 (hM : Ky M) (hC : CkK M) (hS : StK M S P) (hP : PlK M P) (hT : TOk T) (pv : PlV M P T) (sv : StV M S N T) (so : SOk S) (po : POk P) (hb : ∀ z, z < tz T → M.1 300 z = base0 T N z) : ∃ M', lp (X1_moveHeats_B74 299 S P) FU (0, M) = some M' ∧ Fm [300] M M' ∧ ∀ z, z < tz T → M'.1 300 z = baseH T N z := by
  have hz := hT.z
  have hd := hT.d
  have key : ∃ M', lp (X1_moveHeats_B74 299 S P) FU (0, M) = some M' ∧ (Fm [300] M M' ∧ ∀ z, z < tz T → M'.1 300 z = base0 T N z - coolTo T N (Int32.ofNat z) (td T)) := by
    refine lp_inv (fun j q => q.1 = Int32.ofNat j ∧ Fm [300] M q.2 ∧ ∀ z, z < tz T → q.2.1 300 z = base0 T N z - coolTo T N (Int32.ofNat z) j) _ (td T) ?_ ?_ ⟨rfl, Fm.rfl' _ _, fun z hz => by rw [hb z hz]; exact (Int32.sub_zero _).symm⟩ (by omega)
    · rintro j ⟨i, M1⟩ hj ⟨h1, h2, h3⟩
      replace h1 : i = Int32.ofNat j := h1
      subst h1
      have hM1 := hM.fm h2
      have hC1 := hC.fm h2
      have hS1 := hS.fm h2
      have hP1 := hP.fm h2
      have ne : ∀ a, a ≠ 300 → M1.1 a = M.1 a := fun a ha => h2.2 a (by simp [ha])
      unfold SOk at so
      unfold POk at po
      obtain ⟨v1, -, v3⟩ := sv.2.2.2.2.1 j hj
      obtain ⟨-, w2, -⟩ := pv.2.2.2.1 j hj
      obtain ⟨-, ⟨y, hy, ey⟩, -⟩ := hT.2.2.2.1 j hj
      refine Or.inl ⟨(Int32.ofNat (j + 1), sI M1 300 y (M1.1 300 y - N (70 + j) * T (73 + j))), ?_, rfl, h2.set (by simp) _ _, fun z hz' => ?_⟩
      · unfold X1_moveHeats_B74
        simp (disch := omega) only [pg_I hP1, ne, pv.1.2.2.1, hd.1, Option.bind_some, le_n, k_next hM1 hC1, p_devices hP1, p_device hP1, pd_I hP1, w2, ey, ld300 hM1, s_position hS1, sl10 hS1, v1, s_cool hS1, sl12 hS1, v3, st300 hM1, suc_n]
        rw [if_neg (by omega)]
      · show (sI M1 300 y _).1 300 z = base0 T N z - (coolTo T N (Int32.ofNat z) j + (if T (61 + j) = Int32.ofNat z then N (70 + j) * T (73 + j) else 0))
        rw [sI_own, ey]
        have he := eq_n (a := y) (b := z) (by omega) (by omega)
        by_cases e : z = y
        · subst e
          rw [ud_at, if_pos rfl, h3 z hz', sub_add32]
        · rw [ud_ne _ _ e, if_neg (fun q => e (he.mp q).symm), Int32.add_zero]
          exact h3 z hz'
    · rintro ⟨i, M1⟩ ⟨h1, h2, h3⟩
      replace h1 : i = Int32.ofNat (td T) := h1
      subst h1
      have hP1 := hP.fm h2
      unfold POk at po
      have ne : ∀ a, a ≠ 300 → M1.1 a = M.1 a := fun a ha => h2.2 a (by simp [ha])
      refine ⟨M1, ?_, h2, h3⟩
      unfold X1_moveHeats_B74
      simp (disch := omega) only [pg_I hP1, ne, pv.1.2.2.1, hd.1, Option.bind_some, le_n]
      rw [if_pos (Nat.le_refl _)]
  obtain ⟨M', k1, k2, k3⟩ := key
  exact ⟨M', k1, k2, fun z hz => by rw [k3 z hz, base0_H]⟩
theorem c_heats3 (hM : Ky M) (hC : CkK M) (hS : StK M S P) (hP : PlK M P) (hT : TOk T) (pv : PlV M P T) (sv : StV M S N T) (hN : NOk N T) (so : SOk S) (po : POk P) (hb : ∀ z, z < tz T → M.1 300 z = baseH T N z) : ∃ M', lp (X1_moveHeats_B120 299 S P) FU (0, M) = some M' ∧ Fm [300] M M' ∧ ∀ z, z < tz T → M'.1 300 z = nextH T N (tw T) z := by
  have hz := hT.z
  have hw := hT.w
  refine lp_inv (fun j q => q.1 = Int32.ofNat j ∧ Fm [300] M q.2 ∧ ∀ z, z < tz T → q.2.1 300 z = nextH T N j z) _ (tw T) ?_ ?_ ⟨rfl, Fm.rfl' _ _, hb⟩ (by omega)
  · rintro j ⟨i, M1⟩ hj ⟨h1, h2, h3⟩
    replace h1 : i = Int32.ofNat j := h1
    subst h1
    have hM1 := hM.fm h2
    have hC1 := hC.fm h2
    have hS1 := hS.fm h2
    have hP1 := hP.fm h2
    have ne : ∀ a, a ≠ 300 → M1.1 a = M.1 a := fun a ha => h2.2 a (by simp [ha])
    unfold SOk at so
    unfold POk at po
    obtain ⟨⟨a, b, ha, hbz, hab, ea, eb⟩, hk⟩ := hT.2.2.2.2.2.1 j hj
    obtain ⟨w0, w1, w2⟩ := pv.2.2.2.2.2 j hj
    have va := (sv.2.1 a ha).1
    have vb := (sv.2.1 b hbz).1
    have na : (T (139 + j)).toNatClampNeg = a := by rw [ea]; exact nn a (by omega)
    have nb : (T (147 + j)).toNatClampNeg = b := by rw [eb]; exact nn b (by omega)
    have ef : flowH T N j = byI (N a - N b) (T (155 + j)) := by unfold flowH; rw [na, nb]
    have q1 := (isN_sub (hN.1 a ha).1 (hN.1 b hbz).1 (by decide) (by decide)).2
    have hq := isN_w hk (Nat.le_refl 1) (show 50 ≤ 1000 by decide)
    have hM2 := hM1.sI 300 a (M1.1 300 a - flowH T N j)
    have hC2 : CkK (sI M1 300 a (M1.1 300 a - flowH T N j)) := hC1
    have hP2 := hP1.sI 300 a (M1.1 300 a - flowH T N j)
    rw [ef] at hM2 hC2 hP2
    refine Or.inl ⟨(Int32.ofNat (j + 1), sI (sI M1 300 a (M1.1 300 a - flowH T N j)) 300 b (M1.1 300 b + flowH T N j)), ?_, rfl, (h2.set (by simp) _ _).set (by simp) _ _, fun z hz' => ?_⟩
    · rw [ef]
      unfold X1_moveHeats_B120
      simp (disch := omega) only [pg_I hP1, ne, pv.1.2.2.2.2, hw.1, Option.bind_some, le_n, p_walls hP1, p_wall hP1, s_heat hS1, pw_I hP1, w0, w1, w2, ea, eb, sl1 hS1, va, vb, c_quot hq q1.1 q1.2, k_next hM1 hC1, ld300 hM1, st300 hM1, k_next hM2 hC2, pw_I hP2, sI_ne, ld300 hM2, st300 hM2, sI_own, ud_ne, suc_n]
      rw [if_neg (by omega)]
    · show (sI (sI M1 300 a _) 300 b _).1 300 z = _
      rw [sI_own, sI_own]
      show _ = ud (ud (nextH T N j) (T (139 + j)).toNatClampNeg _) (T (147 + j)).toNatClampNeg _ z
      rw [na, nb]
      by_cases e : z = b
      · subst e; rw [ud_at, ud_at, h3 z hz']
      · rw [ud_ne _ _ e, ud_ne _ _ e]
        by_cases e' : z = a
        · subst e'; rw [ud_at, ud_at, h3 z hz']
        · rw [ud_ne _ _ e', ud_ne _ _ e']; exact h3 z hz'
  · rintro ⟨i, M1⟩ ⟨h1, h2, h3⟩
    replace h1 : i = Int32.ofNat (tw T) := h1
    subst h1
    have hP1 := hP.fm h2
    unfold POk at po
    have ne : ∀ a, a ≠ 300 → M1.1 a = M.1 a := fun a ha => h2.2 a (by simp [ha])
    refine ⟨M1, ?_, h2, h3⟩
    unfold X1_moveHeats_B120
    simp (disch := omega) only [pg_I hP1, ne, pv.1.2.2.2.2, hw.1, Option.bind_some, le_n]
    rw [if_pos (Nat.le_refl _)]
theorem c_heats4 (hM : Ky M) (hC : CkK M) (hS : StK M S P) (hP : PlK M P) (hT : TOk T) (pv : PlV M P T) (so : SOk S) (po : POk P) : ∃ M', lp (X1_moveHeats_B205 299 S P) FU (0, M) = some M' ∧ Fm [S + 1] M M' ∧ ∀ z, z < tz T → M'.1 (S + 1) z = heldI (M.1 300 z) 0 1500 := by
  have hz := hT.z
  refine lp_inv (fun j q => q.1 = Int32.ofNat j ∧ Fm [S + 1] M q.2 ∧ ∀ z, z < j → q.2.1 (S + 1) z = heldI (M.1 300 z) 0 1500) _ (tz T) ?_ ?_ ⟨rfl, Fm.rfl' _ _, fun z hz => absurd hz (Nat.not_lt_zero z)⟩ (by omega)
  · rintro j ⟨i, M1⟩ hj ⟨h1, h2, h3⟩
    replace h1 : i = Int32.ofNat j := h1
    subst h1
    have hM1 := hM.fm h2
    have hC1 := hC.fm h2
    have hS1 := hS.fm h2
    have hP1 := hP.fm h2
    have ne : ∀ a, a ≠ S + 1 → M1.1 a = M.1 a := fun a ha => h2.2 a (by simp [ha])
    unfold SOk at so
    unfold POk at po
    refine Or.inl ⟨(Int32.ofNat (j + 1), sI M1 (S + 1) j (heldI (M.1 300 j) 0 1500)), ?_, rfl, h2.set (by simp) _ _, fun z hz' => ?_⟩
    · unfold X1_moveHeats_B205
      simp (disch := omega) only [pg_I hP1, ne, pv.1.1, hz.1, Option.bind_some, le_n, s_heat hS1, k_next hM1 hC1, ld300 hM1, c_within (show (0 : Int32) ≤ 1500 by decide), ss1 hS1, suc_n]
      rw [if_neg (by omega)]
    · show (sI M1 (S + 1) j _).1 (S + 1) z = _
      rw [sI_own]
      by_cases e : z = j
      · subst e; rw [ud_at]
      · rw [ud_ne _ _ e]; exact h3 z (by omega)
  · rintro ⟨i, M1⟩ ⟨h1, h2, h3⟩
    replace h1 : i = Int32.ofNat (tz T) := h1
    subst h1
    have hP1 := hP.fm h2
    unfold POk at po
    unfold SOk at so
    have ne : ∀ a, a ≠ S + 1 → M1.1 a = M.1 a := fun a ha => h2.2 a (by simp [ha])
    refine ⟨M1, ?_, h2, h3⟩
    unfold X1_moveHeats_B205
    simp (disch := omega) only [pg_I hP1, ne, pv.1.1, hz.1, Option.bind_some, le_n]
    rw [if_pos (Nat.le_refl _)]
theorem PlV.fm {L : List Nat} {M' : Gm} (pv : PlV M P T) (hP : PlK M P) (hT : TOk T) (po : POk P) (e : Fm L M M') (hL : ∀ a, a ∈ L → 257 ≤ a) (hb : fb T (tt T) ≤ 60) (hmono : ∀ t, t < tt T → fb T (t + 1) ≤ fb T (tt T)) : PlV M' P T := by
  have ne : ∀ a, a < 257 → M'.1 a = M.1 a := fun a ha => e.2 a (fun q => by have := hL a q; omega)
  have n2 : M'.2 = M.2 := e.1
  unfold POk at po
  have hz := hT.z.2
  have ht := hT.t.2
  have hd := hT.d.2
  have hw := hT.w.2
  refine ⟨?_, fun z hz => ?_, fun t ht => ?_, fun d hd => ?_, fun t i ht hi => ?_, fun k hk => ?_⟩
  · rw [ne P (by omega)]; exact pv.1
  · rw [ne _ (by omega)]; exact pv.2.1 z hz
  · rw [ne _ (by omega)]; exact pv.2.2.1 t ht
  · rw [ne _ (by omega)]; exact pv.2.2.2.1 d hd
  · have h1 := hmono t ht
    have h2 : fb T (t + 1) = fb T t + (dl T t).length := rfl
    have h3 := hP.2.2.2.2.2.2.1 (fb T t + i) (by omega)
    rw [n2, ne _ (by omega)]; exact pv.2.2.2.2.1 t i ht hi
  · rw [ne _ (by omega)]; exact pv.2.2.2.2.2 k hk
theorem c_moveHeats (hM : Ky M) (hC : CkK M) (hS : StK M S P) (hP : PlK M P) (hT : TOk T) (pv : PlV M P T) (sv : StV M S N T) (hN : NOk N T) (so : SOk S) (po : POk P) (hb : fb T (tt T) ≤ 60) (hmono : ∀ t, t < tt T → fb T (t + 1) ≤ fb T (tt T)) : ∃ M', sh_X1_moveHeats 299 S M = some M' ∧ Fm [S + 1, 300] M M' ∧ StV M' S (mHeats T N) T := by
  obtain ⟨M1, a1, a2, a3⟩ := c_heats1 hM hC hS hP hT pv sv hN so po
  have so' := so
  unfold SOk at so'
  have svf : ∀ {M' : Gm}, Fm [300] M M' → StV M' S N T := fun {M'} e => by
    have ne : ∀ a, a ≠ 300 → M'.1 a = M.1 a := fun a ha => e.2 a (by simp [ha])
    unfold StV at *
    rw [ne S (by omega), ne (S + 1) (by omega), ne (S + 2) (by omega), ne (S + 3) (by omega), ne (S + 4) (by omega), ne (S + 5) (by omega), ne (S + 6) (by omega), ne (S + 7) (by omega), ne (S + 8) (by omega), ne (S + 9) (by omega), ne (S + 10) (by omega), ne (S + 11) (by omega), ne (S + 12) (by omega), ne (S + 13) (by omega), ne (S + 14) (by omega)]
    exact sv
  have pvf : ∀ {M' : Gm}, Fm [300] M M' → PlV M' P T := fun {M'} e => pv.fm hP hT po e (by simp) hb hmono
  obtain ⟨M2, b1, b2, b3⟩ := c_heats2 (hM.fm a2) (hC.fm a2) (hS.fm a2) (hP.fm a2) hT (pvf a2) (svf a2) so po a3
  have f2 : Fm [300] M M2 := a2.trans b2 (fun _ q => q) (fun _ q => q)
  obtain ⟨M3, c1, c2, c3⟩ := c_heats3 (hM.fm f2) (hC.fm f2) (hS.fm f2) (hP.fm f2) hT (pvf f2) (svf f2) hN so po b3
  have f3 : Fm [300] M M3 := f2.trans c2 (fun _ q => q) (fun _ q => q)
  obtain ⟨M4, d1, d2, d3⟩ := c_heats4 (hM.fm f3) (hC.fm f3) (hS.fm f3) (hP.fm f3) hT (pvf f3) so po
  have f4 : Fm [S + 1, 300] M M4 := f3.trans d2 (by simp) (by simp)
  refine ⟨M4, ?_, f4, ?_⟩
  · unfold sh_X1_moveHeats X1_moveHeats_F
    simp only [k_O hM, s_plan hS, Option.bind_some, a1, b1, c1, d1]
  · have ne : ∀ a, a ≠ S + 1 → a ≠ 300 → M4.1 a = M.1 a := fun a h1 h2 => f4.2 a (by simp [h1, h2])
    have hz5 := hT.z.2
    have k5 : ∀ k, 5 ≤ k → mHeats T N k = N k := fun k hk => mHeats_ne hT hk
    have eg : lg (mHeats T N) = lg N := by unfold lg; rw [k5 144 (by decide)]
    unfold StV
    rw [ne S (by omega) (by omega), ne (S + 2) (by omega) (by omega), ne (S + 3) (by omega) (by omega), ne (S + 4) (by omega) (by omega), ne (S + 5) (by omega) (by omega), ne (S + 6) (by omega) (by omega), ne (S + 7) (by omega) (by omega), ne (S + 8) (by omega) (by omega), ne (S + 9) (by omega) (by omega), ne (S + 10) (by omega) (by omega), ne (S + 11) (by omega) (by omega), ne (S + 12) (by omega) (by omega), ne (S + 13) (by omega) (by omega), ne (S + 14) (by omega) (by omega), eg, k5 142 (by decide), k5 143 (by decide), k5 144 (by decide)]
    refine ⟨sv.1, fun z hz => ?_, fun z i hz hi => ?_, fun t ht => ?_, fun d hd => ?_, fun t i ht hi => ?_, fun j hj => ?_⟩
    · obtain ⟨v1, v2⟩ := sv.2.1 z hz
      rw [k5 (5 + z) (by omega), k5 (20 + z) (by omega), k5 (25 + z) (by omega), k5 (15 + z) (by omega), d3 z hz, c3 z hz]
      refine ⟨?_, v2⟩
      unfold mHeats
      rw [if_pos hz]
    · rw [k5 _ (by omega)]; exact sv.2.2.1 z i hz hi
    · rw [k5 _ (by omega), k5 _ (by omega)]; exact sv.2.2.2.1 t ht
    · rw [k5 _ (by omega), k5 _ (by omega)]; exact sv.2.2.2.2.1 d hd
    · rw [k5 _ (by omega)]; exact sv.2.2.2.2.2.1 t i ht hi
    · rw [k5 _ (by omega)]; exact sv.2.2.2.2.2.2 j hj
end Heats

