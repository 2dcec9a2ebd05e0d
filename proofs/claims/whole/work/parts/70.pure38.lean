/-! ===== PURE 38: FITS: the class's leaks, the reference's ===== -/
noncomputable def fL (p : Nat → Prop) : Nat → List Nat
  | 0 => []
  | v + 1 => haveI := Classical.propDecidable (p (v + 1)); if p (v + 1) then fL p v ++ [v + 1] else fL p v
theorem fL_t {p : Nat → Prop} {v : Nat} (h : p (v + 1)) : fL p (v + 1) = fL p v ++ [v + 1] := by
  rw [fL]
  exact if_pos h
theorem fL_f {p : Nat → Prop} {v : Nat} (h : ¬ p (v + 1)) : fL p (v + 1) = fL p v := by
  rw [fL]
  exact if_neg h
theorem fL_len (p : Nat → Prop) : ∀ v, (fL p v).length ≤ v
  | 0 => Nat.le_refl _
  | v + 1 => by
    have := fL_len p v
    by_cases h : p (v + 1)
    · rw [fL_t h, List.length_append]; simp; omega
    · rw [fL_f h]; omega
def hdI : List Nat → Int32
  | [] => -1
  | a :: _ => Int32.ofNat a
theorem hdI_snoc (l : List Nat) (a : Nat) : hdI (l ++ [a]) = if l.length = 0 then Int32.ofNat a else hdI l := by
  cases l with
  | nil => rfl
  | cons b l => rfl
theorem getD_snoc {l : List Nat} {a f : Nat} (h : f < l.length) : (l ++ [a]).getD f 0 = l.getD f 0 := by
  rw [List.getD_eq_getElem?_getD, List.getD_eq_getElem?_getD, List.getElem?_append_left h]
theorem getD_last (l : List Nat) (a : Nat) : (l ++ [a]).getD l.length 0 = a := by
  rw [List.getD_eq_getElem?_getD]
  simp
section
variable {M : Gm} {S P P' k c : Nat} {N T nz nm nh : Nat → Int32}
theorem StV.leak (sv : StV M S N T) (hT : TOk T) {z : Nat} (v : Nat) (hz : z < tz T) : StV (sI M (S + 3) z (Int32.ofNat v)) S N (leaked T z v) := by
  have h10 := hT.t.2
  have h5 := hT.z.2
  have h6 := hT.d.2
  have g : ∀ b, b ≠ S + 3 → (sI M (S + 3) z (Int32.ofNat v)).1 b = M.1 b := fun b hb => sI_ne _ _ _ hb
  obtain ⟨c1, c2, c3, c4, c5, c6, c7⟩ := sv
  have Q := leaked_q T (z := z) v (by omega)
  unfold StV
  rw [tq_tz Q, tq_tt Q, tq_td Q]
  refine ⟨?_, fun y hy => ?_, fun y i hy hi => ?_, fun u hu => ?_, fun d hd => ?_, fun u i hu hi => ?_, fun i hi => ?_⟩
  · rw [g S (by omega)]; exact c1
  · rw [g (S + 1) (by omega), g (S + 2) (by omega), g (S + 4) (by omega), g (S + 5) (by omega), g (S + 6) (by omega)]
    refine ⟨(c2 y hy).1, (c2 y hy).2.1, ?_, (c2 y hy).2.2.2⟩
    show (sI M (S + 3) z (Int32.ofNat v)).1 (S + 3) y = ud T z (Int32.ofNat v) y
    rw [sI_own]
    by_cases e : y = z
    · rw [e, ud_at, ud_at]
    · rw [ud_ne _ _ e, ud_ne _ _ e]; exact (c2 y hy).2.2.1
  · rw [g _ (by omega)]; exact c3 y i hy hi
  · rw [g _ (by omega), g _ (by omega)]; exact c4 u hu
  · rw [g _ (by omega), g _ (by omega), g _ (by omega), show leaked T z v (73 + d) = T (73 + d) from ud_ne _ _ (by omega)]; exact c5 d hd
  · rw [tq_dl Q (by omega)] at hi
    rw [g _ (by omega), tq_fb Q _ (by omega), tq_di Q (by omega)]; exact c6 u i hu hi
  · rw [g _ (by omega)]; exact c7 i hi
theorem c_tryLeaks (w : Wd M P T) (s : Sd M 263 P N T k) (t : StK M 304 P') (hm : MmK M 257) (nv : NtV M 257 c nz nm nh) (no : NtOk T c nz nm) {z m : Nat} (hz : z < tz T) (hm20 : m ≤ 20) (hk : k < 2147470000) :
    ∃ M', sh_X3_tryLeaks 302 257 (Int32.ofNat z) (Int32.ofNat m) M = some M' ∧ Ft M M' ∧ M'.1 302 1 = Int32.ofNat (fL (fitP c nz nm nh T N z) 50).length ∧ M'.1 302 2 = hdI (fL (fitP c nz nm nh T N z) 50) ∧
      (m = 20 → ∀ f i, f < (fL (fitP c nz nm nh T N z) 50).length → i ≤ 20 → M'.1 303 (21 * f + i) = mRun (leaked T z ((fL (fitP c nz nm nh T N z) 50).getD f 0)) N i z) := by
  have hT := w.2.2.2.2.2.1
  have h5 := hT.z.2
  obtain ⟨F0, f1, f2, f3⟩ := c_farthest (T := T) w.1 hm nv no
  generalize hp : fitP c nz nm nh T N z = p
  have eF : maxI (Int32.ofNat m) (Int32.ofNat F0) = Int32.ofNat (max m F0) := max_n (by omega) (by omega)
  have hF1 : max m F0 ≤ 60 := by omega
  have hF2 : m ≤ max m F0 := by omega
  have hF3 : ∀ i, i < c → (nm i).toNatClampNeg ≤ max m F0 := fun i hi => by have := f3 i hi; omega
  generalize max m F0 = F at eF hF1 hF2 hF3
  have b0 : Ft M (sI (sI M 302 1 0) 302 2 (-1)) := ((Ft.rfl' M).set (by omega) _ _).set (by omega) _ _
  have key : ∃ M', lp (X3_tryLeaks_B23 302 257 (Int32.ofNat z) (Int32.ofNat F)) FU (1, sI (sI M 302 1 0) 302 2 (-1)) = some M' ∧ (Ft M M' ∧ M'.1 302 1 = Int32.ofNat (fL p 50).length ∧ M'.1 302 2 = hdI (fL p 50) ∧ (m = 20 → ∀ f i, f < (fL p 50).length → i ≤ 20 → M'.1 303 (21 * f + i) = mRun (leaked T z ((fL p 50).getD f 0)) N i z)) := by
    refine lp_inv (fun j q => q.1 = Int32.ofNat (j + 1) ∧ Ft M q.2 ∧ (∃ P', StK q.2 304 P') ∧ q.2.1 302 1 = Int32.ofNat (fL p j).length ∧ q.2.1 302 2 = hdI (fL p j) ∧ (m = 20 → ∀ f i, f < (fL p j).length → i ≤ 20 → q.2.1 303 (21 * f + i) = mRun (leaked T z ((fL p j).getD f 0)) N i z)) _ 50 ?_ ?_ ⟨rfl, b0, ⟨P', (t.sI _ _ _).sI _ _ _⟩, ?_, ?_, fun _ f i h => absurd h (Nat.not_lt_zero _)⟩ (by omega)
    · rintro j ⟨i, M1⟩ hj ⟨h1, h2, ⟨P1, h3⟩, h4, h6, h7⟩
      replace h1 : i = Int32.ofNat (j + 1) := h1
      subst h1
      replace h2 : Ft M M1 := h2
      replace h3 : StK M1 304 P1 := h3
      replace h4 : M1.1 302 1 = Int32.ofNat (fL p j).length := h4
      replace h6 : M1.1 302 2 = hdI (fL p j) := h6
      have w1 := w.ft h2
      have s1 := s.ft h2 (by decide)
      have m1 := hm.ft h2
      have len := fL_len p j
      obtain ⟨M2, a1, a2, a3⟩ := c_try2 w1 s1 (by decide) h3
      have w2 := w1.ft a2.1
      have g3 : Ft M2 (sI M2 307 z (Int32.ofNat (j + 1))) := (Ft.rfl' M2).set (by omega) _ _
      have w3 := w2.ft g3
      have hT' := hT.leaked (v := j + 1) hz (by omega)
      have Q := leaked_q T (z := z) (j + 1) (by omega)
      have w4 : Wd (sI M2 307 z (Int32.ofNat (j + 1))) P (leaked T z (j + 1)) := ⟨w3.1, w3.2.1, w3.2.2.1, w3.2.2.2.1, w3.2.2.2.2.1, hT', w3.2.2.2.2.2.2.q hT Q⟩
      have s4 : Sd (sI M2 307 z (Int32.ofNat (j + 1))) 304 P N (leaked T z (j + 1)) k := ⟨a3.1.sI _ _ _, a3.2.1, a3.2.2.1.leak hT (j + 1) hz, a3.2.2.2.1.q hT Q (fun _ _ => rfl), a3.2.2.2.2⟩
      have f4 := h2.trans (a2.1.trans g3)
      have no' : NtOk (leaked T z (j + 1)) c nz nm := fun i hi => by rw [tq_tz Q]; exact no i hi
      have e302 : (sI M2 307 z (Int32.ofNat (j + 1))).1 302 = M1.1 302 := by rw [sI_ne _ _ _ (by decide)]; exact a2.2.1
      have e303 : (sI M2 307 z (Int32.ofNat (j + 1))).1 303 = M1.1 303 := by rw [sI_ne _ _ _ (by decide)]; exact a2.2.2
      obtain ⟨M5, b1, b2, b3, b4, b5, b6⟩ := c_agrees w4 s4 (hm.ft f4) (nv.ft f4 (Or.inl rfl)) no' (z := z) (F := F) (f := (fL p j).length) (by rw [tq_tz Q]; exact hz) hF1 hF3 (by rw [e302]; exact h4) (by omega) hk
      have ep : (∀ n, n ≤ 60 → agN c nz nm nh (mRun (leaked T z (j + 1)) N n) n) ↔ p (j + 1) := by rw [← hp]; exact Iff.rfl
      rw [bI_c ep] at b1
      have w5 := w4.ft b2
      have st : stA M2 0 (304 + 3) (Int32.ofNat z) (Int32.ofNat (j + 1)) = some (sI M2 307 z (Int32.ofNat (j + 1))) := ss3 a3.1 _ (by omega)
      have e5 : M5.1 302 = M1.1 302 := b4.trans e302
      have f5 := f4.trans b2
      have c50 : ¬ (50 : Int32) < Int32.ofNat (j + 1) := by rw [show (50 : Int32) = Int32.ofNat 50 from rfl, lt_n (by omega) (by omega)]; omega
      have z5 : (Int32.ofNat (fL p j).length = 0) ↔ (fL p j).length = 0 := by rw [show (0 : Int32) = Int32.ofNat 0 from rfl, eq_n (by omega) (by omega)]
      by_cases d : p (j + 1)
      · rw [bI_t d] at b1
        have e : X3_tryLeaks_B23 302 257 (Int32.ofNat z) (Int32.ofNat F) (Int32.ofNat (j + 1), M1) = some (.inl (Int32.ofNat (j + 2), sI (sI M5 302 2 (hdI (fL p (j + 1)))) 302 1 (Int32.ofNat (fL p (j + 1)).length))) := by
          unfold X3_tryLeaks_B23 X3_tryLeaks_J80 X3_tryLeaks_J93
          simp only [f_trial w1.1 w1.2.2.1, mm_now w1.1 m1, a1, f_trial w2.1 w2.2.2.1, s_leak a3.1, st, b1, f_I w5.1, e5, h4, h6, f_P w5.1, f_I (w5.1.sI _ _ _), f_P (w5.1.sI _ _ _), sI_own, Option.bind_some, suc_n]
          rw [if_neg c50, if_neg (by decide), fL_t d, hdI_snoc, List.length_append]
          have u1 : ∀ x, ud (M1.1 302) 2 x 1 + 1 = Int32.ofNat ((fL p j).length + 1) := fun x => by rw [ud_ne _ _ (by decide), h4, suc_n]
          by_cases q : (fL p j).length = 0
          · rw [if_pos (z5.mpr q), if_pos q, u1]; rfl
          · rw [if_neg (fun x => q (z5.mp x)), if_neg q, u1]; rfl
        have r303 : (sI (sI M5 302 2 (hdI (fL p (j + 1)))) 302 1 (Int32.ofNat (fL p (j + 1)).length)).1 303 = M5.1 303 := by rw [sI_ne _ _ _ (by decide), sI_ne _ _ _ (by decide)]
        refine Or.inl ⟨_, e, rfl, (f5.set (by omega) _ _).set (by omega) _ _, ?_, ?_, ?_, fun e20 f i hf hi => ?_⟩
        · obtain ⟨P5, b3⟩ := b3; exact ⟨P5, (b3.sI _ _ _).sI _ _ _⟩
        · rw [sI_own, ud_at]
        · rw [sI_own, ud_ne _ _ (by decide), sI_own, ud_at]
        · rw [r303]
          rw [fL_t d, List.length_append] at hf
          replace hf : f < (fL p j).length + 1 := hf
          by_cases ef : f = (fL p j).length
          · rw [ef, fL_t d, getD_last]
            exact b6 (ep.mpr d) i hi (by omega)
          · rw [b5 _ (by omega), e303, fL_t d, getD_snoc (by omega)]
            exact h7 e20 f i (by omega) hi
      · rw [bI_f d] at b1
        have e : X3_tryLeaks_B23 302 257 (Int32.ofNat z) (Int32.ofNat F) (Int32.ofNat (j + 1), M1) = some (.inl (Int32.ofNat (j + 2), M5)) := by
          unfold X3_tryLeaks_B23 X3_tryLeaks_J93
          simp only [f_trial w1.1 w1.2.2.1, mm_now w1.1 m1, a1, f_trial w2.1 w2.2.2.1, s_leak a3.1, st, b1, Option.bind_some, suc_n]
          rw [if_neg c50, if_pos trivial]
        refine Or.inl ⟨_, e, rfl, f5, b3, by rw [fL_f d, e5]; exact h4, by rw [fL_f d, e5]; exact h6, fun e20 f i hf hi => ?_⟩
        rw [fL_f d] at hf ⊢
        rw [b5 _ (by omega), e303]
        exact h7 e20 f i hf hi
    · rintro ⟨i, M1⟩ ⟨h1, h2, h3, h4, h6, h7⟩
      replace h1 : i = Int32.ofNat 51 := h1
      subst h1
      exact ⟨M1, rfl, h2, h4, h6, h7⟩
    · rw [sI_own, ud_ne _ _ (by decide), sI_own, ud_at]; rfl
    · rw [sI_own, ud_at]; rfl
  obtain ⟨M', k1, k2⟩ := key
  refine ⟨M', ?_, k2⟩
  unfold sh_X3_tryLeaks X3_tryLeaks_F
  simp only [f_O w.1, f1, m_max, eF, f_P w.1, f_P (w.1.sI _ _ _), k1, Option.bind_some]
/-! the reference -/
theorem m_notes {R : Nat → Int32} (hM : Ky M) (hT : TOk T) (eR : M.1 324 = R) (h28 : M.1 319 28 = Int32.ofNat c) (hc : c ≤ 8) (ez : M.1 334 = nz) (em : M.1 335 = nm) (eh : M.1 336 = nh) (no : NtOk T c nz nm) (x1 x2 x3 : Int32) (n : Nat) (A : Prop) : lp (X12_tellFits_B55 319 x1 x2 x3 (Int32.ofNat n) M) FU (bI A, 0) = some (bI (A ∧ agN c nz nm nh R n)) := by
  have h5 := hT.z.2
  refine lp_and (fun i => nm i = Int32.ofNat n → R (nz i).toNatClampNeg = nh i) 0 c A (fun j A' hj => ?_) (fun A' => ?_) (by omega)
  · obtain ⟨⟨y, hy, ey⟩, -⟩ := no j hj
    have ey' : (nz j).toNatClampNeg = y := by rw [ey]; exact nn y (by omega)
    have ly : ldA M 0 324 (Int32.ofNat y) = some (R y) := by rw [ld324 hM (by omega), eR]
    unfold X12_tellFits_B55 X12_tellFits_J109 X12_tellFits_J105 X12_tellFits_J110
    rw [Nat.zero_add]
    simp (disch := omega) only [m_I hM, h28, Option.bind_some, le_n, m_notedMinutes hM, ld335 hM, em, m_now hM, m_notedZone hM, ld334 hM, ez, ey, Int32.zero_add, ly, m_notedHeat hM, ld336 hM, eh, suc_n]
    rw [if_neg (by omega)]
    by_cases hA : A'
    · rw [bI_t hA, if_neg (by decide)]
      by_cases d : nm j = Int32.ofNat n
      · rw [if_pos d]
        by_cases d2 : R y = nh j
        · rw [if_pos d2, bI_t ⟨hA, fun _ => by rw [nn y (by omega)]; exact d2⟩]
        · rw [if_neg d2, bI_f (fun q => d2 (by have := q.2 d; rw [nn y (by omega)] at this; exact this))]
      · rw [if_neg d, bI_t ⟨hA, fun q => absurd q d⟩]
    · rw [bI_f hA, if_pos rfl, bI_f (fun q => hA q.1)]
  · unfold X12_tellFits_B55
    rw [Nat.zero_add]
    simp (disch := omega) only [m_I hM, h28, Option.bind_some, le_n]
    rw [if_pos (Nat.le_refl _)]
/-- one LEAK tried by the reference -/
theorem m_fit1 (r : Rf M T N k) (hk : k < 2147470000) (h28 : M.1 319 28 = Int32.ofNat c) (hc : c ≤ 8) (ez : M.1 334 = nz) (em : M.1 335 = nm) (eh : M.1 336 = nh) (no : NtOk T c nz nm) {z v : Nat} (hz : z < tz T) (hv : v ≤ 50) (x2 : Int32) {M1 : Gm} (t0 : Tr M M1 N) (e0 : M1.1 324 = N) :
    ∃ q, lp (X12_tellFits_B36 319 (Int32.ofNat z) x2 (Int32.ofNat v)) FU (1, 0, M1) = some q ∧ (q.1 = bI (∀ n, n ≤ 60 → agN c nz nm nh (mRun T N n) n) ∧ Tr M q.2 N ∧ q.2.1 337 = M1.1 337 ∧ (∀ i, (i < 21 * v ∨ 21 * v + 21 ≤ i) → q.2.1 338 i = M1.1 338 i) ∧ ∀ n, n ≤ 20 → q.2.1 338 (21 * v + n) = mRun T N n z) := by
  obtain ⟨hM, hT, hN, hL, eT, eN⟩ := r
  have h5 := hT.z.2
  refine lp_inv (fun j q => (q.1 = bI (∀ n, n < j → agN c nz nm nh (mRun T N n) n) ∧ q.2.1 = Int32.ofNat j) ∧ Tr M q.2.2 N ∧ q.2.2.1 324 = mRun T N (j - 1) ∧ q.2.2.1 337 = M1.1 337 ∧ (∀ i, (i < 21 * v ∨ 21 * v + 21 ≤ i) → q.2.2.1 338 i = M1.1 338 i) ∧ ∀ n, n ≤ 20 → n < j → q.2.2.1 338 (21 * v + n) = mRun T N n z) _ 61 ?_ ?_ ⟨⟨(bI_t (fun n h => absurd h (Nat.not_lt_zero _))).symm, rfl⟩, t0, e0, rfl, fun _ _ => rfl, fun n _ h => absurd h (Nat.not_lt_zero _)⟩ (by omega)
  · rintro j ⟨b, i, Mj⟩ hj ⟨⟨h0, h1⟩, h2, h3, h4, h6, h7⟩
    replace h0 : b = _ := h0
    replace h1 : i = _ := h1
    subst h0 h1
    replace h2 : Tr M Mj N := h2
    replace h3 : Mj.1 324 = mRun T N (j - 1) := h3
    replace h4 : Mj.1 337 = M1.1 337 := h4
    have c60 : ¬ (60 : Int32) < Int32.ofNat j := by rw [show (60 : Int32) = Int32.ofNat 60 from rfl, lt_n (by omega) (by omega)]; omega
    have mid : ∃ M2, (X12_tellFits_B36 319 (Int32.ofNat z) x2 (Int32.ofNat v) (bI (∀ n, n < j → agN c nz nm nh (mRun T N n) n), Int32.ofNat j, Mj) = X12_tellFits_J52 319 (Int32.ofNat z) x2 (Int32.ofNat v) (bI (∀ n, n < j → agN c nz nm nh (mRun T N n) n)) (Int32.ofNat j) M2) ∧ Tr M M2 N ∧ M2.1 324 = mRun T N j ∧ M2.1 337 = M1.1 337 ∧ M2.1 338 = Mj.1 338 := by
      unfold X12_tellFits_B36
      by_cases cj : j = 0
      · subst cj
        refine ⟨Mj, ?_, h2, h3, h4, rfl⟩
        rw [if_neg c60, if_pos (show Int32.ofNat 0 ≤ 0 by decide)]
      · obtain ⟨u, hu⟩ : ∃ u, j = u + 1 := ⟨j - 1, by omega⟩
        subst hu
        obtain ⟨M2, b1, t2, b3, b9, b10, b11⟩ := h2.min2 hM eT hT h3 (Lg_run hT hL _ (by omega)) (by omega)
        refine ⟨M2, ?_, t2, b3, b10.trans h4, b11⟩
        rw [if_neg c60, if_neg (show ¬ Int32.ofNat (u + 1) ≤ 0 by rw [show (0 : Int32) = Int32.ofNat 0 from rfl, le_n (by omega) (by omega)]; omega)]
        simp only [b1, Option.bind_some]
    obtain ⟨M2, g1, g2, g3, g4, g5⟩ := mid
    have hM2 := g2.ky hM
    have nt := m_notes (c := c) (nz := nz) (nm := nm) (nh := nh) hM2 hT g3 ((g2.2.2.1 28 (by decide) (by decide)).trans h28) hc ((g2.1.2 334 (by decide)).trans ez) ((g2.1.2 335 (by decide)).trans em) ((g2.1.2 336 (by decide)).trans eh) no (Int32.ofNat z) x2 (Int32.ofNat v) j (∀ n, n < j → agN c nz nm nh (mRun T N n) n)
    have eA : ((∀ n, n < j → agN c nz nm nh (mRun T N n) n) ∧ agN c nz nm nh (mRun T N j) j) ↔ ∀ n, n < j + 1 → agN c nz nm nh (mRun T N n) n := by
      refine ⟨fun h n hn => ?_, fun h => ⟨fun n hn => h n (by omega), h j (by omega)⟩⟩
      by_cases en : n = j
      · rw [en]; exact h.2
      · exact h.1 n (by omega)
    rw [bI_c eA] at nt
    have c20 : (20 : Int32) < Int32.ofNat j ↔ 20 < j := by rw [show (20 : Int32) = Int32.ofNat 20 from rfl, lt_n (by omega) (by omega)]
    rw [g1]
    unfold X12_tellFits_J52 X12_tellFits_J145
    simp (disch := omega) only [nt, Option.bind_some, c20, m_heatsOf hM2, m_now hM2, ix0, Nat.zero_add, ld324 hM2, g3, mu21, ad_n, st338 hM2, suc_n]
    by_cases c2 : 20 < j
    · rw [if_pos c2]
      exact Or.inl ⟨_, rfl, ⟨rfl, rfl⟩, g2, g3, g4, fun i hi => by rw [g5]; exact h6 i hi, fun n hn _ => by rw [g5]; exact h7 n hn (by omega)⟩
    · rw [if_neg c2]
      refine Or.inl ⟨_, rfl, ⟨rfl, rfl⟩, g2.setH _ _ (Or.inr rfl), by rw [sI_ne _ _ _ (by decide)]; exact g3, by rw [sI_ne _ _ _ (by decide)]; exact g4, fun i hi => ?_, fun n hn hnj => ?_⟩
      · rw [sI_own, ud_ne _ _ (by omega), g5]; exact h6 i hi
      · rw [sI_own]
        by_cases en : n = j
        · rw [en, ud_at]
        · rw [ud_ne _ _ (by omega), g5]; exact h7 n hn (by omega)
  · rintro ⟨b, i, Mj⟩ ⟨⟨h0, h1⟩, h2, h3, h4, h6, h7⟩
    replace h0 : b = _ := h0
    replace h1 : i = _ := h1
    subst h0 h1
    refine ⟨(_, Mj), rfl, bI_c ⟨fun h n hn => h n (by omega), fun h n hn => h n (by omega)⟩, h2, h4, h6, fun n hn => h7 n hn (by omega)⟩
theorem bI_and1 (p : Prop) : bI p &&& 1 = bI p := by
  rcases bI_01 p with e | e <;> rw [e] <;> rfl
theorem m_tellFits (r : Rf M T N k) (hk : k < 2147470000) (h28 : M.1 319 28 = Int32.ofNat c) (hc : c ≤ 8) (ez : M.1 334 = nz) (em : M.1 335 = nm) (eh : M.1 336 = nh) (no : NtOk T c nz nm) {z : Nat} (hz : z < tz T) :
    ∃ M', sh_X12_tellFits 319 (Int32.ofNat z) M = some M' ∧ Rq M M' ∧ M'.1 319 4 = M.1 319 4 ∧ ∀ v, 1 ≤ v → v ≤ 50 → M'.1 337 v = bI (fitP c nz nm nh T N z v) ∧ ∀ n, n ≤ 20 → M'.1 338 (21 * v + n) = mRun (leaked T z v) N n z := by
  obtain ⟨hM, hT, hN, hL, eT, eN⟩ := r
  have h5 := hT.z.2
  have key : ∃ M', lp (X12_tellFits_B11 319 (Int32.ofNat z) (T z)) FU (1, M) = some M' ∧ (Rq M (sI M' 325 z (T z)) ∧ M'.1 319 4 = M.1 319 4 ∧ ∀ v, 1 ≤ v → v ≤ 50 → M'.1 337 v = bI (fitP c nz nm nh T N z v) ∧ ∀ n, n ≤ 20 → M'.1 338 (21 * v + n) = mRun (leaked T z v) N n z) := by
    refine lp_inv (fun j q => q.1 = Int32.ofNat (j + 1) ∧ Rq M (sI q.2 325 z (T z)) ∧ q.2.1 319 4 = M.1 319 4 ∧ ∀ v, 1 ≤ v → v ≤ j → q.2.1 337 v = bI (fitP c nz nm nh T N z v) ∧ ∀ n, n ≤ 20 → q.2.1 338 (21 * v + n) = mRun (leaked T z v) N n z) _ 50 ?_ ?_ ⟨rfl, ?_, rfl, fun v h1 h2 => by omega⟩ (by omega)
    · rintro j ⟨i, M1⟩ hj ⟨h1, h2, h3, h4⟩
      replace h1 : i = Int32.ofNat (j + 1) := h1
      subst h1
      replace h2 : Rq M (sI M1 325 z (T z)) := h2
      replace h3 : M1.1 319 4 = M.1 319 4 := h3
      replace h4 : ∀ v, 1 ≤ v → v ≤ j → M1.1 337 v = bI (fitP c nz nm nh T N z v) ∧ ∀ n, n ≤ 20 → M1.1 338 (21 * v + n) = mRun (leaked T z v) N n z := h4
      have hM1 : Ky M1 := hM.eq (show M1.2 = M.2 from h2.1)
      have row : ∀ b, b ≠ 325 → b ∉ [319, 330, 331, 332, 337, 338] → M1.1 b = M.1 b := fun b hb hb' => by have := h2.2.1 b hb'; rw [sI_ne _ _ _ hb] at this; exact this
      have r325 : ∀ i, i ≠ z → M1.1 325 i = T i := fun i hi => by have := congrFun (h2.2.1 325 (by decide)) i; rw [sI_own, ud_ne _ _ hi, eT] at this; exact this
      have e2 : (sI M1 325 z (Int32.ofNat (j + 1))).1 325 = leaked T z (j + 1) := by
        rw [sI_own]
        funext i
        unfold leaked ud
        by_cases ei : i = z
        · rw [if_pos ei, if_pos ei]
        · rw [if_neg ei, if_neg ei]; exact r325 i ei
      have f319 : ∀ i, i ≠ 4 → i ≠ 25 → i ≠ 34 → M1.1 319 i = M.1 319 i := fun i a b c => by have := h2.2.2 i a b c; rw [sI_ne _ _ _ (by decide)] at this; exact this
      have Q := leaked_q T (z := z) (j + 1) (by omega)
      have hT' := hT.leaked (v := j + 1) hz (by omega)
      have r2 : Rf (sI M1 325 z (Int32.ofNat (j + 1))) (leaked T z (j + 1)) N k := ⟨hM1.sI _ _ _, hT', hN.q hT Q (fun _ _ => rfl), hL, e2, by rw [sI_ne _ _ _ (by decide), row 324 (by decide) (by decide)]; exact eN⟩
      have no' : NtOk (leaked T z (j + 1)) c nz nm := fun i hi => by rw [tq_tz Q]; exact no i hi
      have st : stA M1 0 325 (Int32.ofNat z) (Int32.ofNat (j + 1)) = some (sI M1 325 z (Int32.ofNat (j + 1))) := st325 hM1 _ (by omega)
      have o : ∀ b, b ≠ 325 → (sI M1 325 z (Int32.ofNat (j + 1))).1 b = M1.1 b := fun b hb => sI_ne _ _ _ hb
      have q2 : (sI M1 325 z (Int32.ofNat (j + 1))).2 = M.2 := h2.1
      generalize sI M1 325 z (Int32.ofNat (j + 1)) = M2 at e2 r2 st o q2
      have hM2 := r2.1
      have eN2 := r2.2.2.2.2.2
      have t0 : Tr M2 (wR M2 332 (mixR 305 (M2.1 324) (M2.1 332))) N := Tr.begin eN2
      have e0 : (wR M2 332 (mixR 305 (M2.1 324) (M2.1 332))).1 324 = N := (wR_ne _ _ (by decide)).trans eN2
      have w7 : (wR M2 332 (mixR 305 (M2.1 324) (M2.1 332))).1 337 = M1.1 337 := (wR_ne _ _ (by decide)).trans (o 337 (by decide))
      have w8 : (wR M2 332 (mixR 305 (M2.1 324) (M2.1 332))).1 338 = M1.1 338 := (wR_ne _ _ (by decide)).trans (o 338 (by decide))
      have tr := m_tries hM2
      generalize wR M2 332 (mixR 305 (M2.1 324) (M2.1 332)) = M3 at t0 e0 tr w7 w8
      obtain ⟨⟨b, M4⟩, g1, g2, g3, g4, g5, g6⟩ := m_fit1 (c := c) (nz := nz) (nm := nm) (nh := nh) r2 hk (by rw [o 319 (by decide), f319 28 (by decide) (by decide) (by decide)]; exact h28) hc (by rw [o 334 (by decide), row 334 (by decide) (by decide)]; exact ez) (by rw [o 335 (by decide), row 335 (by decide) (by decide)]; exact em) (by rw [o 336 (by decide), row 336 (by decide) (by decide)]; exact eh) no' (z := z) (v := j + 1) (by rw [tq_tz Q]; exact hz) (by omega) (T z) t0 e0
      replace g2 : b = bI (fitP c nz nm nh T N z (j + 1)) := g2
      subst g2
      replace g3 : Tr M2 M4 N := g3
      replace g4 : M4.1 337 = M3.1 337 := g4
      replace g5 : ∀ i, (i < 21 * (j + 1) ∨ 21 * (j + 1) + 21 ≤ i) → M4.1 338 i = M3.1 338 i := g5
      replace g6 : ∀ n, n ≤ 20 → M4.1 338 (21 * (j + 1) + n) = mRun (leaked T z (j + 1)) N n z := g6
      have hM4 := g3.ky hM2
      have t5 := g3.setH (a := 337) (j + 1) (bI (fitP c nz nm nh T N z (j + 1))) (Or.inl rfl)
      have st5 : ∀ x, stA M4 2 337 (Int32.ofNat (j + 1)) x = some (sI M4 337 (j + 1) x) := fun x => st337 hM4 x (by omega)
      have r7 : (sI M4 337 (j + 1) (bI (fitP c nz nm nh T N z (j + 1)))).1 337 = ud (M1.1 337) (j + 1) (bI (fitP c nz nm nh T N z (j + 1))) := by rw [sI_own, g4, w7]
      have r8 : (sI M4 337 (j + 1) (bI (fitP c nz nm nh T N z (j + 1)))).1 338 = M4.1 338 := sI_ne _ _ _ (by decide)
      obtain ⟨M6, d1, d2, d3, d4, d5⟩ := t5.back2 hM2 eN2
      have c50 : ¬ (50 : Int32) < Int32.ofNat (j + 1) := by rw [show (50 : Int32) = Int32.ofNat 50 from rfl, lt_n (by omega) (by omega)]; omega
      have e : X12_tellFits_B11 319 (Int32.ofNat z) (T z) (Int32.ofNat (j + 1), M1) = some (.inl (Int32.ofNat (j + 2), M6)) := by
        unfold X12_tellFits_B11
        simp only [m_told hM1, ix0, Nat.zero_add, st, tr, g1, m_fitting hM4, bI_and1, st5, d1, Option.bind_some, suc_n]
        rw [if_neg c50]
      refine Or.inl ⟨_, e, rfl, ⟨?_, fun b hb => ?_, fun i a b c' => ?_⟩, ?_, fun v v1 v2 => ?_⟩
      · exact d2.1.trans q2
      · by_cases eb : b = 325
        · subst eb
          rw [sI_own, d2.2.1 325 (by decide), e2, eT]
          funext i
          unfold leaked ud
          by_cases ei : i = z
          · rw [if_pos ei, ei]
          · rw [if_neg ei, if_neg ei]
        · rw [sI_ne _ _ _ eb, d2.2.1 b hb, o b eb]; exact row b eb hb
      · rw [sI_ne _ _ _ (by decide), d2.2.2 i a b c', o 319 (by decide)]; exact f319 i a b c'
      · show M6.1 319 4 = _
        rw [d3, t5.2.2.1 4 (by decide) (by decide), o 319 (by decide)]; exact h3
      · show M6.1 337 v = _ ∧ ∀ n, n ≤ 20 → M6.1 338 (21 * v + n) = _
        rw [d4, r7, d5, r8]
        by_cases ev : v = j + 1
        · subst ev
          exact ⟨ud_at _ _ _, g6⟩
        · rw [ud_ne _ _ ev]
          have hv := h4 v v1 (by omega)
          exact ⟨hv.1, fun n hn => by rw [g5 _ (by omega), w8]; exact hv.2 n hn⟩
    · rintro ⟨i, M1⟩ ⟨h1, h2, h3, h4⟩
      replace h1 : i = Int32.ofNat 51 := h1
      subst h1
      exact ⟨M1, rfl, h2, h3, h4⟩
    · refine ⟨rfl, fun b _ => ?_, fun i _ _ _ => by rw [sI_ne _ _ _ (by decide)]⟩
      by_cases eb : b = 325
      · subst eb
        rw [sI_own]
        funext i
        unfold ud
        by_cases ei : i = z
        · rw [if_pos ei, ei, eT]
        · rw [if_neg ei]
      · rw [sI_ne _ _ _ eb]
  obtain ⟨M', k1, k2, k3, k4⟩ := key
  have hM' : Ky M' := hM.eq (show M'.2 = M.2 from k2.1)
  refine ⟨sI M' 325 z (T z), ?_, k2, by rw [sI_ne _ _ _ (by decide)]; exact k3, fun v a b => by rw [sI_ne _ _ _ (by decide), sI_ne _ _ _ (by decide)]; exact k4 v a b⟩
  unfold sh_X12_tellFits X12_tellFits_F
  have l1 : ldA M 0 325 (Int32.ofNat z) = some (T z) := by rw [ld325 hM (by omega), eT]
  have s1 : ∀ x, stA M' 0 325 (Int32.ofNat z) x = some (sI M' 325 z x) := fun x => st325 hM' x (by omega)
  simp only [m_O hM, m_told hM, ix0, Nat.zero_add, l1, k1, m_told hM', s1, Option.bind_some]
end
