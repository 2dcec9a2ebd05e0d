/-! ===== PURE 37: what is NOTED; the class tries LEAKS ===== -/
/-- a Memory's own references -/
def MmK (M : Gm) (Q : Nat) : Prop := (M.2.1 Q 0 = Q + 6 ∧ M.2.1 Q 1 = Q + 1 ∧ M.2.1 Q 4 = Q + 2 ∧ M.2.1 Q 5 = Q + 3 ∧ M.2.1 Q 6 = Q + 4 ∧ M.2.1 Q 8 = Q + 5) ∧ (Q = 257 ∨ Q = 278)
theorem mm_kd {M : Gm} {Q : Nat} (hM : Ky M) (h : MmK M Q) : kd M Q = (4, 0) ∧ kd M (Q + 1) = (41, 40) ∧ kd M (Q + 2) = (32, 8) ∧ kd M (Q + 3) = (32, 8) ∧ kd M (Q + 4) = (32, 8) ∧ kd M (Q + 5) = (32, 3) := by
  rcases h.2 with e | e <;> subst e
  · exact ⟨(hM.1 257 (by decide)).trans rfl, (hM.1 258 (by decide)).trans rfl, (hM.1 259 (by decide)).trans rfl, (hM.1 260 (by decide)).trans rfl, (hM.1 261 (by decide)).trans rfl, (hM.1 262 (by decide)).trans rfl⟩
  · exact ⟨(hM.1 278 (by decide)).trans rfl, (hM.1 279 (by decide)).trans rfl, (hM.1 280 (by decide)).trans rfl, (hM.1 281 (by decide)).trans rfl, (hM.1 282 (by decide)).trans rfl, (hM.1 283 (by decide)).trans rfl⟩
section
variable {M : Gm} {Q : Nat}
theorem mm_O (hM : Ky M) (h : MmK M Q) : isO M Q 4 = some () := i_O (mm_kd hM h).1
theorem mm_I (hM : Ky M) (h : MmK M Q) (k : Nat) : gfI M Q 4 k = some (M.1 Q k) := g_I k (mm_kd hM h).1
theorem mm_P (hM : Ky M) (h : MmK M Q) (k : Nat) (x : Int32) : pfI M Q 4 k x = some (sI M Q k x) := p_I k x (mm_kd hM h).1
theorem mm_now (hM : Ky M) (h : MmK M Q) : gfR M Q 4 0 = some (Q + 6) := (g_R 0 (mm_kd hM h).1).trans (congrArg some h.1.1)
theorem mm_acts (hM : Ky M) (h : MmK M Q) : gfR M Q 4 1 = some (Q + 1) := (g_R 1 (mm_kd hM h).1).trans (congrArg some h.1.2.1)
theorem mm_nz (hM : Ky M) (h : MmK M Q) : gfR M Q 4 4 = some (Q + 2) := (g_R 4 (mm_kd hM h).1).trans (congrArg some h.1.2.2.1)
theorem mm_nm (hM : Ky M) (h : MmK M Q) : gfR M Q 4 5 = some (Q + 3) := (g_R 5 (mm_kd hM h).1).trans (congrArg some h.1.2.2.2.1)
theorem mm_nh (hM : Ky M) (h : MmK M Q) : gfR M Q 4 6 = some (Q + 4) := (g_R 6 (mm_kd hM h).1).trans (congrArg some h.1.2.2.2.2.1)
theorem mm_st (hM : Ky M) (h : MmK M Q) : gfR M Q 4 8 = some (Q + 5) := (g_R 8 (mm_kd hM h).1).trans (congrArg some h.1.2.2.2.2.2)
theorem ml_z (hM : Ky M) (h : MmK M Q) {j : Nat} (hj : j < 8) : ldA M 0 (Q + 2) (Int32.ofNat j) = some (M.1 (Q + 2) j) := l_A (mm_kd hM h).2.2.1 hj (by decide)
theorem ml_m (hM : Ky M) (h : MmK M Q) {j : Nat} (hj : j < 8) : ldA M 0 (Q + 3) (Int32.ofNat j) = some (M.1 (Q + 3) j) := l_A (mm_kd hM h).2.2.2.1 hj (by decide)
theorem ml_h (hM : Ky M) (h : MmK M Q) {j : Nat} (hj : j < 8) : ldA M 0 (Q + 4) (Int32.ofNat j) = some (M.1 (Q + 4) j) := l_A (mm_kd hM h).2.2.2.2.1 hj (by decide)
theorem ms_z (hM : Ky M) (h : MmK M Q) {j : Nat} (x : Int32) (hj : j < 8) : stA M 0 (Q + 2) (Int32.ofNat j) x = some (sI M (Q + 2) j x) := s_A x (mm_kd hM h).2.2.1 hj (by decide)
theorem ms_m (hM : Ky M) (h : MmK M Q) {j : Nat} (x : Int32) (hj : j < 8) : stA M 0 (Q + 3) (Int32.ofNat j) x = some (sI M (Q + 3) j x) := s_A x (mm_kd hM h).2.2.2.1 hj (by decide)
theorem ms_h (hM : Ky M) (h : MmK M Q) {j : Nat} (x : Int32) (hj : j < 8) : stA M 0 (Q + 4) (Int32.ofNat j) x = some (sI M (Q + 4) j x) := s_A x (mm_kd hM h).2.2.2.2.1 hj (by decide)
end
/-- what is NOTED, in a Memory -/
def NtV (M : Gm) (Q c : Nat) (nz nm nh : Nat → Int32) : Prop := M.1 Q 7 = Int32.ofNat c ∧ c ≤ 8 ∧ ∀ i, i < c → M.1 (Q + 2) i = nz i ∧ M.1 (Q + 3) i = nm i ∧ M.1 (Q + 4) i = nh i
def NtOk (T : Nat → Int32) (c : Nat) (nz nm : Nat → Int32) : Prop := ∀ i, i < c → (∃ y, y < tz T ∧ nz i = Int32.ofNat y) ∧ isN (nm i) 0 60
/-- all that is NOTED of a time is as in the row -/
def agN (c : Nat) (nz nm nh R : Nat → Int32) (n : Nat) : Prop := ∀ i, i < c → nm i = Int32.ofNat n → R (nz i).toNatClampNeg = nh i
def leaked (T : Nat → Int32) (z v : Nat) : Nat → Int32 := ud T z (Int32.ofNat v)
def fitP (c : Nat) (nz nm nh T N : Nat → Int32) (z v : Nat) : Prop := ∀ n, n ≤ 60 → agN c nz nm nh (mRun (leaked T z v) N n) n
theorem leaked_q (T : Nat → Int32) {z : Nat} (v : Nat) (hz : z < 5) : Tq T (leaked T z v) := fun k h1 _ _ => ud_ne _ _ (by omega)
theorem TOk.leaked {T : Nat → Int32} (hT : TOk T) {z v : Nat} (hz : z < tz T) (hv : 1 ≤ v ∧ v ≤ 50) : TOk (leaked T z v) := by
  have h5 := hT.z.2
  have h6 := hT.d.2
  refine hT.q (leaked_q T v (by omega)) (fun y hy => ?_) (fun d hd => ?_)
  · show isN (ud T z (Int32.ofNat v) y) 1 50
    by_cases e : y = z
    · rw [e, ud_at]; exact ⟨v, rfl, hv.1, hv.2⟩
    · rw [ud_ne _ _ e]; exact (hT.2.1 y hy).1
  · show isN (ud T z (Int32.ofNat v) (73 + d)) 0 30
    rw [ud_ne _ _ (by omega)]; exact (hT.2.2.2.1 d hd).2.2.2
/-- as Ft, and the foresight's own rows stand too -/
def F2 (M M' : Gm) : Prop := Ft M M' ∧ M'.1 302 = M.1 302 ∧ M'.1 303 = M.1 303
theorem F2.trans {M M' M2 : Gm} (h : F2 M M') (g : F2 M' M2) : F2 M M2 := ⟨h.1.trans g.1, g.2.1.trans h.2.1, g.2.2.trans h.2.2⟩
theorem F2.rfl' (M : Gm) : F2 M M := ⟨Ft.rfl' M, rfl, rfl⟩
section
variable {M : Gm} {P P' k c : Nat} {N T nz nm nh : Nat → Int32}
theorem c_try2 {S : Nat} (w : Wd M P T) (s : Sd M S P N T k) (hS : S + 14 < 304 ∨ 318 < S) (t : StK M 304 P') : ∃ M', sh_X7_copyFrom 304 S M = some M' ∧ F2 M M' ∧ Sd M' 304 P N T k := by
  obtain ⟨M', h1, h2, h3⟩ := c_try w s hS t
  obtain ⟨M2, g1, -, g3, -⟩ := c_copyFrom s.1 t (by omega)
  have e : M2 = M' := by rw [h1] at g1; exact (Option.some.inj g1).symm
  subst e
  exact ⟨M2, h1, ⟨h2, g3 302 (by omega), g3 303 (by omega)⟩, h3⟩
theorem c_passT2 (w : Wd M P T) (s : Sd M 304 P N T k) (hk : k < 2147483400) : ∃ M', sh_X1_passMinute 299 304 M = some M' ∧ F2 M M' ∧ Sd M' 304 P (mMinute T N) T (k + 20) := by
  obtain ⟨M', h1, h2, h3⟩ := c_pass w s hk
  exact ⟨M', h1, ⟨Ft.of h2 (fun a => cl304), h2.2 302 (by decide), h2.2 303 (by decide)⟩, h3⟩
theorem NtV.ft {M' : Gm} {Q : Nat} (h : NtV M Q c nz nm nh) (f : Ft M M') (hQ : Q = 257 ∨ Q = 278) : NtV M' Q c nz nm nh := by
  unfold NtV at *
  rw [f.2.2 Q (by omega), f.2.2 (Q + 2) (by omega), f.2.2 (Q + 3) (by omega), f.2.2 (Q + 4) (by omega)]
  exact h
theorem MmK.ft {M' : Gm} {Q : Nat} (h : MmK M Q) (f : Ft M M') : MmK M' Q := by
  have hQ := h.2
  unfold MmK at *
  rw [f.2.1 Q _ (by omega), f.2.1 Q _ (by omega), f.2.1 Q _ (by omega), f.2.1 Q _ (by omega), f.2.1 Q _ (by omega), f.2.1 Q _ (by omega)]
  exact h
theorem c_notesAgree {R : Nat → Int32} (w : Wd M P T) (s : Sd M 304 P R T k) (hm : MmK M 257) (nv : NtV M 257 c nz nm nh) (no : NtOk T c nz nm) (n : Nat) : sh_X4_notesAgree 257 304 (Int32.ofNat n) M = some (bI (agN c nz nm nh R n)) := by
  have hM := w.1
  have hT := w.2.2.2.2.2.1
  have h5 := hT.z.2
  obtain ⟨n1, n2, n3⟩ := nv
  have key : ∃ r, lp (X4_notesAgree_B2 257 304 (Int32.ofNat n) M) FU 0 = some r ∧ Sum.elim (fun _ => (zck 1).bind fun z4 => some z4) (fun _ => (zck 0).bind fun z7 => some z7) r = some (bI (agN c nz nm nh R n)) := by
    refine lp_inv (fun j q => q = Int32.ofNat j ∧ ∀ i, i < j → nm i = Int32.ofNat n → R (nz i).toNatClampNeg = nh i) _ c ?_ ?_ ⟨rfl, fun i h => by omega⟩ (by omega)
    · rintro j q hj ⟨h1, h2⟩
      subst h1
      obtain ⟨⟨y, hy, ey⟩, -⟩ := no j hj
      have ey' : (nz j).toNatClampNeg = y := by rw [ey]; exact nn y (by omega)
      have ly : ldA M 0 (304 + 1) (Int32.ofNat y) = some (R y) := by rw [sl1 s.1 (by omega), (s.2.2.1.2.1 y hy).1]
      have e : X4_notesAgree_B2 257 304 (Int32.ofNat n) M (Int32.ofNat j) = if nm j = Int32.ofNat n then (if nh j = R y then some (.inl (Int32.ofNat (j + 1))) else some (.inr (.inr ()))) else some (.inl (Int32.ofNat (j + 1))) := by
        unfold X4_notesAgree_B2 X4_notesAgree_J42
        simp (disch := omega) only [mm_I hM hm, n1, Option.bind_some, le_n, mm_nm hM hm, ml_m hM hm, (n3 j hj).2.1, mm_nh hM hm, ml_h hM hm, (n3 j hj).2.2, s_heat s.1, mm_nz hM hm, ml_z hM hm, (n3 j hj).1, ey, ly, suc_n]
        rw [if_neg (by omega)]
      by_cases d : nm j = Int32.ofNat n
      · rw [if_pos d] at e
        by_cases d2 : nh j = R y
        · rw [if_pos d2] at e
          refine Or.inl ⟨_, e, rfl, fun i hi => ?_⟩
          by_cases ei : i = j
          · rw [ei, ey']; exact fun _ => d2.symm
          · exact h2 i (by omega)
        · rw [if_neg d2] at e
          refine Or.inr ⟨_, e, ?_⟩
          rw [bI_f (fun q => d2 (by have := q j hj d; rw [ey'] at this; exact this.symm))]
          rfl
      · rw [if_neg d] at e
        refine Or.inl ⟨_, e, rfl, fun i hi => ?_⟩
        by_cases ei : i = j
        · rw [ei]; exact fun q => absurd q d
        · exact h2 i (by omega)
    · rintro q ⟨h1, h2⟩
      subst h1
      refine ⟨.inl (), ?_, by rw [bI_t (show agN c nz nm nh R n from h2)]; rfl⟩
      unfold X4_notesAgree_B2
      simp (disch := omega) only [mm_I hM hm, n1, Option.bind_some, le_n]
      rw [if_pos (Nat.le_refl _)]
  obtain ⟨r, k1, k2⟩ := key
  unfold sh_X4_notesAgree X4_notesAgree_F
  simp only [mm_O hM hm, Option.bind_some, k1]
  exact k2
theorem max_n {a b : Nat} (ha : a < 2147483648) (hb : b < 2147483648) : maxI (Int32.ofNat a) (Int32.ofNat b) = Int32.ofNat (max a b) := by
  unfold maxI
  by_cases c : a < b
  · rw [if_pos ((lt_n ha hb).mpr c), Nat.max_eq_right (by omega)]
  · rw [if_neg (fun q => c ((lt_n ha hb).mp q)), Nat.max_eq_left (by omega)]
theorem c_farthest (hM : Ky M) (hm : MmK M 257) (nv : NtV M 257 c nz nm nh) (no : NtOk T c nz nm) : ∃ f, sh_X4_farthestNote 257 M = some (Int32.ofNat f) ∧ f ≤ 60 ∧ ∀ i, i < c → (nm i).toNatClampNeg ≤ f := by
  obtain ⟨n1, n2, n3⟩ := nv
  have key : ∃ r, lp (X4_farthestNote_B4 257 M) FU (0, 0) = some r ∧ ∃ f, r = Int32.ofNat f ∧ f ≤ 60 ∧ ∀ i, i < c → (nm i).toNatClampNeg ≤ f := by
    refine lp_inv (fun j q => q.2 = Int32.ofNat j ∧ ∃ f, q.1 = Int32.ofNat f ∧ f ≤ 60 ∧ ∀ i, i < j → (nm i).toNatClampNeg ≤ f) _ c ?_ ?_ ⟨rfl, 0, rfl, by omega, fun i h => by omega⟩ (by omega)
    · rintro j ⟨b, i⟩ hj ⟨h1, f, h2, h3, h4⟩
      replace h1 : i = _ := h1
      replace h2 : b = _ := h2
      subst h1 h2
      have hb := isN_nn (no j hj).2 (by omega)
      refine Or.inl ⟨(Int32.ofNat (max f (nm j).toNatClampNeg), Int32.ofNat (j + 1)), ?_, rfl, _, rfl, by omega, fun i hi => ?_⟩
      · unfold X4_farthestNote_B4
        simp (disch := omega) only [mm_I hM hm, n1, Option.bind_some, le_n, mm_nm hM hm, ml_m hM hm, (n3 j hj).2.1, m_max, suc_n]
        rw [if_neg (by omega), ← max_n (by omega) (by omega), ← hb.1]
      · by_cases ei : i = j
        · rw [ei]; omega
        · have := h4 i (by omega); omega
    · rintro ⟨b, i⟩ ⟨h1, f, h2, h3, h4⟩
      replace h1 : i = _ := h1
      replace h2 : b = _ := h2
      subst h1 h2
      refine ⟨_, ?_, f, rfl, h3, h4⟩
      unfold X4_farthestNote_B4
      simp (disch := omega) only [mm_I hM hm, n1, Option.bind_some, le_n]
      rw [if_pos (Nat.le_refl _)]
  obtain ⟨r, k1, f, k2, k3⟩ := key
  refine ⟨f, ?_, k3⟩
  unfold sh_X4_farthestNote X4_farthestNote_F
  simp only [mm_O hM hm, Option.bind_some, k1, k2]
theorem ml21 (j : Nat) : Int32.ofNat j * 21 = Int32.ofNat (21 * j) := by rw [Nat.mul_comm]; exact (Int32.ofNat_mul j 21).symm
theorem mRun_0 (T N : Nat → Int32) : mRun T N 0 = N := rfl
theorem c_agrees (w : Wd M P T) (s : Sd M 304 P N T k) (hm : MmK M 257) (nv : NtV M 257 c nz nm nh) (no : NtOk T c nz nm) {z F f : Nat} (hz : z < tz T) (hF : F ≤ 60) (hFn : ∀ i, i < c → (nm i).toNatClampNeg ≤ F) (hf : M.1 302 1 = Int32.ofNat f) (hf50 : f < 50) (hk : k < 2147470000) :
    ∃ M', sh_X3_agreesWithNotes 302 257 (Int32.ofNat z) (Int32.ofNat F) M = some (bI (∀ n, n ≤ 60 → agN c nz nm nh (mRun T N n) n), M') ∧ Ft M M' ∧ (∃ P', StK M' 304 P') ∧ M'.1 302 = M.1 302 ∧ (∀ j, j < 21 * f → M'.1 303 j = M.1 303 j) ∧ ((∀ n, n ≤ 60 → agN c nz nm nh (mRun T N n) n) → ∀ i, i ≤ 20 → i ≤ F → M'.1 303 (21 * f + i) = mRun T N i z) := by
  have hT := w.2.2.2.2.2.1
  have h5 := hT.z.2
  have far : (∀ n, n ≤ F → agN c nz nm nh (mRun T N n) n) → ∀ n, n ≤ 60 → agN c nz nm nh (mRun T N n) n := fun h n hn => by
    by_cases c' : n ≤ F
    · exact h n c'
    · intro i hi e
      have := hFn i hi
      rw [e, nn n (by omega)] at this
      omega
  have key : ∃ r, lp (X3_agreesWithNotes_B3 302 257 (Int32.ofNat z) (Int32.ofNat F)) FU (0, M) = some r ∧ ∃ M', Sum.elim (fun u3 => (zck 1).bind fun z4 => some (z4, u3)) (fun u6 => (zck 0).bind fun z7 => some (z7, u6)) r = some (bI (∀ n, n ≤ 60 → agN c nz nm nh (mRun T N n) n), M') ∧ Ft M M' ∧ (∃ P', StK M' 304 P') ∧ M'.1 302 = M.1 302 ∧ (∀ j, j < 21 * f → M'.1 303 j = M.1 303 j) ∧ ((∀ n, n ≤ 60 → agN c nz nm nh (mRun T N n) n) → ∀ i, i ≤ 20 → i ≤ F → M'.1 303 (21 * f + i) = mRun T N i z) := by
    refine lp_inv (fun j q => q.1 = Int32.ofNat j ∧ Ft M q.2 ∧ Sd q.2 304 P (mRun T N (j - 1)) T (k + 20 * (j - 1)) ∧ q.2.1 302 = M.1 302 ∧ (∀ i, i < 21 * f → q.2.1 303 i = M.1 303 i) ∧ (∀ i, i ≤ 20 → i < j → q.2.1 303 (21 * f + i) = mRun T N i z) ∧ ∀ n, n < j → agN c nz nm nh (mRun T N n) n) _ (F + 1) ?_ ?_ ⟨rfl, Ft.rfl' _, s, rfl, fun _ _ => rfl, fun i _ h => by omega, fun n h => by omega⟩ (by omega)
    · rintro j ⟨i, M1⟩ hj ⟨h1, h2, h3, h4, h5', h6, h7⟩
      replace h1 : i = Int32.ofNat j := h1
      subst h1
      replace h2 : Ft M M1 := h2
      replace h3 : Sd M1 304 P (mRun T N (j - 1)) T (k + 20 * (j - 1)) := h3
      replace h4 : M1.1 302 = M.1 302 := h4
      replace h5' : ∀ i, i < 21 * f → M1.1 303 i = M.1 303 i := h5'
      replace h6 : ∀ i, i ≤ 20 → i < j → M1.1 303 (21 * f + i) = mRun T N i z := h6
      have w1 := w.ft h2
      -- behind the minute
      have mid : ∃ M2, (X3_agreesWithNotes_B3 302 257 (Int32.ofNat z) (Int32.ofNat F) (Int32.ofNat j, M1) = X3_agreesWithNotes_J25 302 257 (Int32.ofNat z) (Int32.ofNat F) (Int32.ofNat j) M2) ∧ F2 M1 M2 ∧ Sd M2 304 P (mRun T N j) T (k + 20 * j) := by
        unfold X3_agreesWithNotes_B3
        by_cases cj : j = 0
        · subst cj
          refine ⟨M1, ?_, F2.rfl' _, h3⟩
          rw [if_neg (show ¬ Int32.ofNat F < Int32.ofNat 0 by rw [lt_n (by omega) (by omega)]; omega), if_pos (show Int32.ofNat 0 ≤ 0 by decide)]
        · obtain ⟨M2, b1, b2, b3⟩ := c_passT2 w1 h3 (by omega)
          obtain ⟨u, hu⟩ : ∃ u, j = u + 1 := ⟨j - 1, by omega⟩
          subst hu
          refine ⟨M2, ?_, b2, b3⟩
          rw [if_neg (show ¬ Int32.ofNat F < Int32.ofNat (u + 1) by rw [lt_n (by omega) (by omega)]; omega), if_neg (show ¬ Int32.ofNat (u + 1) ≤ 0 by rw [show (0 : Int32) = Int32.ofNat 0 from rfl, le_n (by omega) (by omega)]; omega)]
          simp only [f_clock w1.1 w1.2.2.1, f_trial w1.1 w1.2.2.1, Option.bind_some, b1]
      obtain ⟨M2, g1, g2, g3⟩ := mid
      have f2 := h2.trans g2.1
      have w2 := w.ft f2
      have ag := c_notesAgree w2 g3 (hm.ft f2) (nv.ft f2 (Or.inl rfl)) no j
      have e302 : M2.1 302 = M.1 302 := g2.2.1.trans h4
      have c20 : (20 : Int32) < Int32.ofNat j ↔ 20 < j := by rw [show (20 : Int32) = Int32.ofNat 20 from rfl, lt_n (by omega) (by omega)]
      rw [g1]
      unfold X3_agreesWithNotes_J25 X3_agreesWithNotes_J71
      simp (disch := omega) only [f_trial w2.1 w2.2.2.1, Option.bind_some, ag, c20, f_heats w2.1 w2.2.2.1, f_I w2.1, e302, hf, s_heat g3.1, sl1 g3.1, (g3.2.2.1.2.1 z hz).1, ml21, ad_n, st303 w2.1, suc_n]
      by_cases d : agN c nz nm nh (mRun T N j) j
      · rw [bI_t d, if_neg (by decide)]
        have all' : ∀ n, n < j + 1 → agN c nz nm nh (mRun T N n) n := fun n hn => by
          by_cases en : n = j
          · rw [en]; exact d
          · exact h7 n (by omega)
        by_cases c2 : 20 < j
        · rw [if_pos c2]
          exact Or.inl ⟨_, rfl, rfl, f2, g3, e302, fun i hi => by rw [g2.2.2]; exact h5' i hi, fun i hi _ => by rw [g2.2.2]; exact h6 i hi (by omega), all'⟩
        · rw [if_neg c2]
          have f3 := f2.set (a := 303) (by omega) (21 * f + j) (mRun T N j z)
          refine Or.inl ⟨_, rfl, rfl, f3, ⟨g3.1.sI _ _ _, g3.2.1, g3.2.2.1.ext (fun a _ _ => sI_ne _ _ _ (by omega)), g3.2.2.2⟩, by rw [sI_ne _ _ _ (by decide)]; exact e302, fun i hi => ?_, fun i hi hij => ?_, all'⟩
          · rw [sI_own, ud_ne _ _ (by omega), g2.2.2]; exact h5' i hi
          · rw [sI_own]
            by_cases ei : i = j
            · rw [ei, ud_at]
            · rw [ud_ne _ _ (by omega), g2.2.2]; exact h6 i hi (by omega)
      · rw [bI_f d, if_pos rfl]
        have nall : ¬ ∀ n, n ≤ 60 → agN c nz nm nh (mRun T N n) n := fun q => d (q j (by omega))
        refine Or.inr ⟨_, rfl, M2, ?_, f2, ⟨P, g3.1⟩, e302, fun i hi => by rw [g2.2.2]; exact h5' i hi, fun q => absurd q nall⟩
        rw [bI_f nall]
        rfl
    · rintro ⟨i, M1⟩ ⟨h1, h2, h3, h4, h5', h6, h7⟩
      replace h1 : i = Int32.ofNat (F + 1) := h1
      subst h1
      have all' := far (fun n hn => h7 n (by omega))
      refine ⟨.inl M1, ?_, M1, ?_, h2, ⟨P, h3.1⟩, h4, h5', fun _ i hi hF => h6 i hi (by omega)⟩
      · unfold X3_agreesWithNotes_B3
        rw [if_pos (show Int32.ofNat F < Int32.ofNat (F + 1) by rw [lt_n (by omega) (by omega)]; omega)]
      · rw [bI_t all']
        rfl
  obtain ⟨r, k1, M', k2, k3⟩ := key
  refine ⟨M', ?_, k3⟩
  unfold sh_X3_agreesWithNotes X3_agreesWithNotes_F
  simp only [f_O w.1, Option.bind_some, k1]
  exact k2
end
