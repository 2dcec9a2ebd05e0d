/-! ===== PURE 39: FITS and LOOK told ===== -/
noncomputable def fD (p : Nat → Prop) : Nat → List Nat
  | 0 => []
  | j + 1 => haveI := Classical.propDecidable (p (50 - j)); if p (50 - j) then (50 - j) :: fD p j else fD p j
theorem fD_t {p : Nat → Prop} {j : Nat} (h : p (50 - j)) : fD p (j + 1) = (50 - j) :: fD p j := by
  rw [fD]
  exact if_pos h
theorem fD_f {p : Nat → Prop} {j : Nat} (h : ¬ p (50 - j)) : fD p (j + 1) = fD p j := by
  rw [fD]
  exact if_neg h
theorem fD_all (p : Nat → Prop) : ∀ j, j ≤ 50 → fL p (50 - j) ++ fD p j = fL p 50 := by
  intro j
  induction j with
  | zero => intro _; exact List.append_nil _
  | succ j ih =>
    intro hj
    rw [← ih (by omega)]
    obtain ⟨u, hu⟩ : ∃ u, 50 - j = u + 1 := ⟨49 - j, by omega⟩
    by_cases h : p (50 - j)
    · rw [fD_t h, hu, fL_t (by rw [← hu]; exact h), show 50 - (j + 1) = u by omega, List.append_assoc]
      rfl
    · rw [fD_f h, hu, fL_f (by rw [← hu]; exact h), show 50 - (j + 1) = u by omega]
theorem fD_50 (p : Nat → Prop) : fD p 50 = fL p 50 := fD_all p 50 (Nat.le_refl _)
/-- how many of a list are unlike all ahead of them -/
noncomputable def ncT (g : Nat → Int32) (l : List Nat) : Nat → Nat
  | 0 => 0
  | f + 1 => haveI := Classical.propDecidable (∀ e, e < f → g (l.getD e 0) ≠ g (l.getD f 0)); ncT g l f + (if ∀ e, e < f → g (l.getD e 0) ≠ g (l.getD f 0) then 1 else 0)
theorem ncT_t {g : Nat → Int32} {l : List Nat} {f : Nat} (h : ∀ e, e < f → g (l.getD e 0) ≠ g (l.getD f 0)) : ncT g l (f + 1) = ncT g l f + 1 := by
  rw [ncT]
  exact congrArg _ (if_pos h)
theorem ncT_f {g : Nat → Int32} {l : List Nat} {f : Nat} (h : ¬ ∀ e, e < f → g (l.getD e 0) ≠ g (l.getD f 0)) : ncT g l (f + 1) = ncT g l f := by
  rw [ncT]
  exact congrArg _ (if_neg h)
theorem ncT_le (g : Nat → Int32) (l : List Nat) : ∀ f, ncT g l f ≤ f
  | 0 => Nat.le_refl _
  | f + 1 => by
    have := ncT_le g l f
    by_cases h : ∀ e, e < f → g (l.getD e 0) ≠ g (l.getD f 0)
    · rw [ncT_t h]; omega
    · rw [ncT_f h]; omega
/-- the look: which of the first n minutes, and how many unlike there -/
noncomputable def loR (U : Nat → Nat) : Nat → Int32 × Nat
  | 0 => (-1, 0)
  | n + 1 => if (loR U n).2 < U n then (Int32.ofNat n, U n) else loR U n
theorem loR_le {U : Nat → Nat} (h : ∀ n, U n ≤ 50) : ∀ n, (loR U n).2 ≤ 50
  | 0 => Nat.zero_le _
  | n + 1 => by
    rw [loR]
    split
    · exact h n
    · exact loR_le h n
/-- by how many MINUTES, of the LEAKS that fit -/
noncomputable def lkU (p : Nat → Prop) (h : Nat → Nat → Int32) (n : Nat) : Nat := ncT (fun v => h v n) (fL p 50) (fL p 50).length
section
variable {M : Gm}
theorem c_isNew {l : List Nat} {h : Nat → Nat → Int32} (hM : Ky M) (hF : FsK M) (hl : l.length ≤ 50) (hh : ∀ f i, f < l.length → i ≤ 20 → M.1 303 (21 * f + i) = h (l.getD f 0) i) {f n : Nat} (hf : f < l.length) (hn : n ≤ 20) : sh_X3_isNewHeat 302 (Int32.ofNat f) (Int32.ofNat n) M = some (bI (∀ e, e < f → h (l.getD e 0) n ≠ h (l.getD f 0) n)) := by
  have key : ∃ r, lp (X3_isNewHeat_B2 302 (Int32.ofNat f) (Int32.ofNat n) M) FU 0 = some r ∧ Sum.elim (fun _ => (zck 1).bind fun z4 => some z4) (fun _ => (zck 0).bind fun z7 => some z7) r = some (bI (∀ e, e < f → h (l.getD e 0) n ≠ h (l.getD f 0) n)) := by
    refine lp_inv (fun j q => q = Int32.ofNat j ∧ ∀ e, e < j → h (l.getD e 0) n ≠ h (l.getD f 0) n) _ f ?_ ?_ ⟨rfl, fun e q => absurd q (Nat.not_lt_zero _)⟩ (by omega)
    · rintro j q hj ⟨h1, h2⟩
      subst h1
      have e : X3_isNewHeat_B2 302 (Int32.ofNat f) (Int32.ofNat n) M (Int32.ofNat j) = if h (l.getD j 0) n = h (l.getD f 0) n then some (.inr (.inr ())) else some (.inl (Int32.ofNat (j + 1))) := by
        unfold X3_isNewHeat_B2
        simp (disch := omega) only [le_n, f_heats hM hF, ml21, ad_n, ld303 hM, hh j n (by omega) hn, hh f n hf hn, Option.bind_some, suc_n]
        rw [if_neg (by omega)]
      by_cases d : h (l.getD j 0) n = h (l.getD f 0) n
      · exact Or.inr ⟨_, e.trans (if_pos d), by rw [bI_f (fun q => q j hj d)]; rfl⟩
      · refine Or.inl ⟨_, e.trans (if_neg d), rfl, fun e he => ?_⟩
        by_cases ee : e = j
        · rw [ee]; exact d
        · exact h2 e (by omega)
    · rintro q ⟨h1, h2⟩
      subst h1
      refine ⟨.inl (), ?_, by rw [bI_t h2]; rfl⟩
      unfold X3_isNewHeat_B2
      simp (disch := omega) only [le_n]
      rw [if_pos (Nat.le_refl _)]
  obtain ⟨r, k1, k2⟩ := key
  unfold sh_X3_isNewHeat X3_isNewHeat_F
  simp only [f_O hM, Option.bind_some, k1]
  exact k2
theorem c_unlike {l : List Nat} {h : Nat → Nat → Int32} (hM : Ky M) (hF : FsK M) (hl : l.length ≤ 50) (hc : M.1 302 1 = Int32.ofNat l.length) (hh : ∀ f i, f < l.length → i ≤ 20 → M.1 303 (21 * f + i) = h (l.getD f 0) i) {n : Nat} (hn : n ≤ 20) : sh_X3_countUnlike 302 (Int32.ofNat n) M = some (Int32.ofNat (ncT (fun v => h v n) l l.length)) := by
  have key : lp (X3_countUnlike_B4 302 (Int32.ofNat n) M) FU (0, 0) = some (Int32.ofNat (ncT (fun v => h v n) l l.length)) := by
    refine lp_for (fun j => (Int32.ofNat (ncT (fun v => h v n) l j), Int32.ofNat j)) _ l.length (fun j hj => ?_) ?_ (by omega)
    · unfold X3_countUnlike_B4 X3_countUnlike_J27
      simp (disch := omega) only [f_I hM, hc, le_n, c_isNew hM hF hl hh hj hn, Option.bind_some, suc_n]
      rw [if_neg (by omega)]
      by_cases d : ∀ e, e < j → h (l.getD e 0) n ≠ h (l.getD j 0) n
      · rw [bI_t d, if_neg (by decide), ncT_t (g := fun v => h v n) d]
      · rw [bI_f d, if_pos rfl, ncT_f (g := fun v => h v n) d, Int32.add_zero]
    · unfold X3_countUnlike_B4
      simp (disch := omega) only [f_I hM, hc, le_n, Option.bind_some]
      rw [if_pos (Nat.le_refl _)]
  unfold sh_X3_countUnlike X3_countUnlike_F
  simp only [f_O hM, Option.bind_some, key]
theorem c_findLook {l : List Nat} {h : Nat → Nat → Int32} (hM : Ky M) (hF : FsK M) (hl : l.length ≤ 50) (hc : M.1 302 1 = Int32.ofNat l.length) (hh : ∀ f i, f < l.length → i ≤ 20 → M.1 303 (21 * f + i) = h (l.getD f 0) i) : ∃ M', sh_X3_findLook 302 M = some M' ∧ Ft M M' ∧ M'.1 302 3 = (loR (fun n => ncT (fun v => h v n) l l.length) 21).1 ∧ M'.1 302 4 = Int32.ofNat (loR (fun n => ncT (fun v => h v n) l l.length) 21).2 := by
  have hU : ∀ n, (fun n => ncT (fun v => h v n) l l.length) n ≤ 50 := fun n => Nat.le_trans (ncT_le _ _ _) hl
  generalize hUe : (fun n => ncT (fun v => h v n) l l.length) = U at hU
  have b0 : Ft M (sI (sI M 302 3 (-1)) 302 4 0) := ((Ft.rfl' M).set (by omega) _ _).set (by omega) _ _
  have key : ∃ M', lp (X3_findLook_B12 302) FU (0, sI (sI M 302 3 (-1)) 302 4 0) = some M' ∧ (Ft M M' ∧ M'.1 302 3 = (loR U 21).1 ∧ M'.1 302 4 = Int32.ofNat (loR U 21).2) := by
    refine lp_inv (fun j q => q.1 = Int32.ofNat j ∧ Ft M q.2 ∧ q.2.1 302 3 = (loR U j).1 ∧ q.2.1 302 4 = Int32.ofNat (loR U j).2 ∧ q.2.1 302 1 = M.1 302 1 ∧ q.2.1 303 = M.1 303 ∧ q.2.2 = M.2) _ 21 ?_ ?_ ⟨rfl, b0, ?_, ?_, ?_, ?_, rfl⟩ (by omega)
    · rintro j ⟨i, M1⟩ hj ⟨h1, h2, h3, h4, h5, h6, h7⟩
      replace h1 : i = _ := h1
      subst h1
      replace h2 : Ft M M1 := h2
      replace h3 : M1.1 302 3 = (loR U j).1 := h3
      replace h4 : M1.1 302 4 = Int32.ofNat (loR U j).2 := h4
      replace h5 : M1.1 302 1 = M.1 302 1 := h5
      replace h6 : M1.1 303 = M.1 303 := h6
      replace h7 : M1.2 = M.2 := h7
      have hM1 := hM.eq h7
      have hF1 : FsK M1 := by unfold FsK; rw [h7]; exact hF
      have cu := c_unlike hM1 hF1 hl (h5.trans hc) (fun f i a b => by rw [h6]; exact hh f i a b) (n := j) (by omega)
      rw [show ncT (fun v => h v j) l l.length = U j from congrFun hUe j] at cu
      have hUj := hU j
      have hlo := loR_le hU j
      have c20 : ¬ (20 : Int32) < Int32.ofNat j := by rw [show (20 : Int32) = Int32.ofNat 20 from rfl, lt_n (by omega) (by omega)]; omega
      have e : X3_findLook_B12 302 (Int32.ofNat j, M1) = if U j ≤ (loR U j).2 then some (.inl (Int32.ofNat (j + 1), M1)) else some (.inl (Int32.ofNat (j + 1), sI (sI M1 302 3 (Int32.ofNat j)) 302 4 (Int32.ofNat (U j)))) := by
        unfold X3_findLook_B12 X3_findLook_J42
        simp (disch := omega) only [cu, f_I hM1, h4, le_n, f_P hM1, f_P (hM1.sI _ _ _), Option.bind_some, suc_n]
        rw [if_neg c20]
      by_cases d : U j ≤ (loR U j).2
      · refine Or.inl ⟨_, e.trans (if_pos d), rfl, h2, ?_, ?_, h5, h6, h7⟩
        · rw [loR, if_neg (by omega)]; exact h3
        · rw [loR, if_neg (by omega)]; exact h4
      · refine Or.inl ⟨_, e.trans (if_neg d), rfl, (h2.set (by omega) _ _).set (by omega) _ _, ?_, ?_, ?_, ?_, h7⟩
        · rw [loR, if_pos (by omega), sI_own, ud_ne _ _ (by decide), sI_own, ud_at]
        · rw [loR, if_pos (by omega), sI_own, ud_at]
        · rw [sI_own, ud_ne _ _ (by decide), sI_own, ud_ne _ _ (by decide)]; exact h5
        · rw [sI_ne _ _ _ (by decide), sI_ne _ _ _ (by decide)]; exact h6
    · rintro ⟨i, M1⟩ ⟨h1, h2, h3, h4, -⟩
      replace h1 : i = Int32.ofNat 21 := h1
      subst h1
      exact ⟨M1, rfl, h2, h3, h4⟩
    · rw [sI_own, ud_ne _ _ (by decide), sI_own, ud_at]; rfl
    · rw [sI_own, ud_at]; rfl
    · rw [sI_own, ud_ne _ _ (by decide), sI_own, ud_ne _ _ (by decide)]
    · rw [sI_ne _ _ _ (by decide), sI_ne _ _ _ (by decide)]
  obtain ⟨M', k1, k2⟩ := key
  refine ⟨M', ?_, k2⟩
  unfold sh_X3_findLook X3_findLook_F
  simp only [f_O hM, f_P hM, f_P (hM.sI _ _ _), k1, Option.bind_some]
/-! the reference -/
theorem m_fitsL {p : Nat → Prop} (hM : Ky M) (h7 : ∀ v, 1 ≤ v → v ≤ 50 → M.1 337 v = bI (p v)) (x : Int32) : lp (X12_fits_B42 319 x M) FU (0, -1, 50) = some (Int32.ofNat (fL p 50).length, hdI (fL p 50)) := by
  rw [← fD_50]
  refine lp_for (fun j => (Int32.ofNat (fD p j).length, hdI (fD p j), Int32.ofNat (50 - j))) _ 50 (fun j hj => ?_) ?_ (by omega)
  · obtain ⟨u, hu⟩ : ∃ u, 50 - j = u + 1 := ⟨49 - j, by omega⟩
    have e7 : ldA M 2 337 (Int32.ofNat (50 - j)) = some (bI (p (50 - j))) := by rw [ld337 hM (by omega), h7 _ (by omega) (by omega)]
    have c0 : ¬ Int32.ofNat (50 - j) ≤ 0 := by rw [show (0 : Int32) = Int32.ofNat 0 from rfl, le_n (by omega) (by omega)]; omega
    have em : Int32.ofNat (50 - j) + (-1) = Int32.ofNat (50 - (j + 1)) := by rw [hu, pm1, show 50 - (j + 1) = u by omega]
    unfold X12_fits_B42 X12_fits_J67
    simp only [m_fitting hM, e7, Option.bind_some, em, suc_n]
    rw [if_neg c0]
    by_cases d : p (50 - j)
    · rw [bI_t d, if_neg (by decide), fD_t d]; rfl
    · rw [bI_f d, if_pos rfl, fD_f d]
  · rfl
theorem m_new {p : Nat → Prop} {h : Nat → Nat → Int32} (hM : Ky M) (h7 : ∀ v, 1 ≤ v → v ≤ 50 → M.1 337 v = bI (p v)) (h8 : ∀ v n, 1 ≤ v → v ≤ 50 → n ≤ 20 → M.1 338 (21 * v + n) = h v n) {v n : Nat} (v1 : 1 ≤ v) (v2 : v ≤ 50) (hn : n ≤ 20) (x : Int32) (A : Prop) : lp (X12_unlike_B21 319 (Int32.ofNat n) x (Int32.ofNat v) M) FU (bI A, 1) = some (bI (A ∧ ∀ o, 1 ≤ o → o < v → p o → h o n ≠ h v n)) := by
  have key : ∃ e, lp (X12_unlike_B21 319 (Int32.ofNat n) x (Int32.ofNat v) M) FU (bI A, 1) = some e ∧ e = bI (A ∧ ∀ o, 1 ≤ o → o < v → p o → h o n ≠ h v n) := by
    refine lp_inv (fun j q => q.1 = bI (A ∧ ∀ o, 1 ≤ o → o < j + 1 → p o → h o n ≠ h v n) ∧ q.2 = Int32.ofNat (j + 1)) _ (v - 1) ?_ ?_ ⟨bI_c ⟨fun q => ⟨q, fun o a b => by omega⟩, fun q => q.1⟩, rfl⟩ (by omega)
    · rintro j ⟨b, i⟩ hj ⟨h1, h2⟩
      replace h1 : b = _ := h1
      replace h2 : i = _ := h2
      subst h1 h2
      by_cases c : A ∧ ∀ o, 1 ≤ o → o < j + 1 → p o → h o n ≠ h v n
      · refine Or.inl ⟨(bI (A ∧ ∀ o, 1 ≤ o → o < j + 1 + 1 → p o → h o n ≠ h v n), Int32.ofNat (j + 1 + 1)), ?_, rfl, rfl⟩
        unfold X12_unlike_B21 X12_unlike_J68 X12_unlike_J73
        simp (disch := omega) only [le_n, m_fitting hM, ld337 hM, h7 (j + 1) (by omega) (by omega), m_heatsOf hM, mu21, ad_n, ld338 hM, h8 (j + 1) n (by omega) (by omega) hn, h8 v n v1 v2 hn, Option.bind_some, suc_n]
        rw [if_neg (by omega), bI_t c, if_neg (by decide)]
        have up : (p (j + 1) → h (j + 1) n ≠ h v n) → (A ∧ ∀ o, 1 ≤ o → o < j + 1 + 1 → p o → h o n ≠ h v n) := fun q => ⟨c.1, fun o a b => by
          by_cases eo : o = j + 1
          · rw [eo]; exact q
          · exact c.2 o a (by omega)⟩
        by_cases d : p (j + 1)
        · rw [bI_t d, if_neg (by decide)]
          by_cases d2 : h (j + 1) n = h v n
          · rw [if_pos d2, bI_f (fun q => q.2 (j + 1) (by omega) (by omega) d d2)]
          · rw [if_neg d2, bI_t (up (fun _ => d2))]
        · rw [bI_f d, if_pos rfl, bI_t (up (fun q => absurd q d))]
      · refine Or.inr ⟨_, ?_, rfl⟩
        unfold X12_unlike_B21
        simp (disch := omega) only [le_n]
        rw [if_neg (by omega), bI_f c, if_pos rfl, bI_f (fun q => c ⟨q.1, fun o a b => q.2 o a (by omega)⟩)]
    · rintro ⟨b, i⟩ ⟨h1, h2⟩
      rw [show v - 1 + 1 = v by omega] at h1 h2
      replace h1 : b = _ := h1
      replace h2 : i = _ := h2
      subst h1 h2
      refine ⟨_, ?_, rfl⟩
      unfold X12_unlike_B21
      simp (disch := omega) only [le_n]
      rw [if_pos (Nat.le_refl _)]
  obtain ⟨e, k1, k2⟩ := key
  rw [k1, k2]
theorem fL_pre (p : Nat → Prop) {v n : Nat} (h : v ≤ n) : ∃ l, fL p n = fL p v ++ l := by
  induction n with
  | zero => rw [show v = 0 by omega]; exact ⟨[], rfl⟩
  | succ n ih =>
    by_cases e : v = n + 1
    · rw [e]; exact ⟨[], (List.append_nil _).symm⟩
    · obtain ⟨l, hl⟩ := ih (by omega)
      by_cases d : p (n + 1)
      · rw [fL_t d, hl]; exact ⟨l ++ [n + 1], List.append_assoc _ _ _⟩
      · rw [fL_f d]; exact ⟨l, hl⟩
theorem fL_mem (p : Nat → Prop) (o : Nat) : ∀ v, o ∈ fL p v ↔ 1 ≤ o ∧ o ≤ v ∧ p o := by
  intro v
  induction v with
  | zero => exact ⟨fun h => absurd h List.not_mem_nil, fun h => by omega⟩
  | succ v ih =>
    by_cases d : p (v + 1)
    · rw [fL_t d, List.mem_append, ih, List.mem_singleton]
      refine ⟨?_, fun h => ?_⟩
      · rintro (h | h)
        · exact ⟨h.1, by omega, h.2.2⟩
        · subst h; exact ⟨by omega, Nat.le_refl _, d⟩
      · by_cases e : o = v + 1
        · exact Or.inr e
        · exact Or.inl ⟨h.1, by omega, h.2.2⟩
    · rw [fL_f d, ih]
      refine ⟨fun h => ⟨h.1, by omega, h.2.2⟩, fun h => ⟨h.1, ?_, h.2.2⟩⟩
      have : o ≠ v + 1 := fun e => d (e ▸ h.2.2)
      omega
theorem getD_pre {l m : List Nat} {f : Nat} (h : f < l.length) : (l ++ m).getD f 0 = l.getD f 0 := by
  rw [List.getD_eq_getElem?_getD, List.getD_eq_getElem?_getD, List.getElem?_append_left h]
theorem new_iff (p : Nat → Prop) (g : Nat → Int32) {v : Nat} (hv : v < 50) (d : p (v + 1)) : (∀ e, e < (fL p v).length → g ((fL p 50).getD e 0) ≠ g ((fL p 50).getD (fL p v).length 0)) ↔ ∀ o, 1 ≤ o → o < v + 1 → p o → g o ≠ g (v + 1) := by
  obtain ⟨l, hl⟩ := fL_pre p (v := v + 1) (n := 50) (by omega)
  have el : (fL p 50).getD (fL p v).length 0 = v + 1 := by rw [hl, getD_pre (by rw [fL_t d]; simp), fL_t d, getD_last]
  have ee : ∀ e, e < (fL p v).length → (fL p 50).getD e 0 = (fL p v).getD e 0 := fun e he => by rw [hl, getD_pre (by rw [fL_t d]; simp; omega), fL_t d, getD_snoc he]
  rw [el]
  refine ⟨fun h o a b c => ?_, fun h e he => ?_⟩
  · have hm : o ∈ fL p v := (fL_mem p o v).mpr ⟨a, by omega, c⟩
    obtain ⟨e, he, eq⟩ := List.getElem_of_mem hm
    have := h e he
    rw [ee e he, List.getD_eq_getElem?_getD, List.getElem?_eq_getElem he] at this
    rw [← eq]
    exact this
  · rw [ee e he]
    have hm : (fL p v).getD e 0 ∈ fL p v := by
      rw [List.getD_eq_getElem?_getD, List.getElem?_eq_getElem he]
      exact List.getElem_mem he
    obtain ⟨a, b, c⟩ := (fL_mem p _ v).mp hm
    exact h _ a (by omega) c
theorem m_unlike {p : Nat → Prop} {h : Nat → Nat → Int32} (hM : Ky M) (h7 : ∀ v, 1 ≤ v → v ≤ 50 → M.1 337 v = bI (p v)) (h8 : ∀ v n, 1 ≤ v → v ≤ 50 → n ≤ 20 → M.1 338 (21 * v + n) = h v n) {n : Nat} (hn : n ≤ 20) : sh_X12_unlike 319 (Int32.ofNat n) M = some (Int32.ofNat (lkU p h n)) := by
  have key : lp (X12_unlike_B4 319 (Int32.ofNat n) M) FU (0, 1) = some (Int32.ofNat (lkU p h n)) := by
    refine lp_for (fun j => (Int32.ofNat (ncT (fun v => h v n) (fL p 50) (fL p j).length), Int32.ofNat (j + 1))) _ 50 (fun j hj => ?_) rfl (by omega)
    have c50 : ¬ (50 : Int32) < Int32.ofNat (j + 1) := by rw [show (50 : Int32) = Int32.ofNat 50 from rfl, lt_n (by omega) (by omega)]; omega
    unfold X12_unlike_B4 X12_unlike_J81 X12_unlike_J92
    simp (disch := omega) only [m_fitting hM, ld337 hM, h7 (j + 1) (by omega) (by omega), m_new hM h7 h8 (show 1 ≤ j + 1 by omega) (show j + 1 ≤ 50 by omega) hn, Option.bind_some, suc_n]
    rw [if_neg c50]
    by_cases d : p (j + 1)
    · have ni := new_iff p (fun v => h v n) hj d
      rw [fL_t d, List.length_append]
      show _ = some (Sum.inl (Int32.ofNat (ncT (fun v => h v n) (fL p 50) ((fL p j).length + 1)), _))
      by_cases q : ∀ o, 1 ≤ o → o < j + 1 → p o → h o n ≠ h (j + 1) n
      · rw [bI_t ⟨d, q⟩, if_neg (by decide), ncT_t (ni.mpr q)]
      · rw [bI_f (fun x => q x.2), if_pos rfl, ncT_f (fun x => q (ni.mp x)), Int32.add_zero]
    · rw [bI_f (fun x => d x.1), if_pos rfl, fL_f d, Int32.add_zero]
  unfold sh_X12_unlike X12_unlike_F
  simp only [m_O hM, Option.bind_some, key]
theorem m_lookL {p : Nat → Prop} {h : Nat → Nat → Int32} (hM : Ky M) (h7 : ∀ v, 1 ≤ v → v ≤ 50 → M.1 337 v = bI (p v)) (h8 : ∀ v n, 1 ≤ v → v ≤ 50 → n ≤ 20 → M.1 338 (21 * v + n) = h v n) (x : Int32) : lp (X12_look_B41 319 x M) FU (-1, 0, 0) = some ((loR (lkU p h) 21).1, Int32.ofNat (loR (lkU p h) 21).2) := by
  have hU : ∀ n, lkU p h n ≤ 50 := fun n => Nat.le_trans (ncT_le _ _ _) (fL_len p 50)
  refine lp_for (fun j => ((loR (lkU p h) j).1, Int32.ofNat (loR (lkU p h) j).2, Int32.ofNat j)) _ 21 (fun j hj => ?_) rfl (by omega)
  have c20 : ¬ (20 : Int32) < Int32.ofNat j := by rw [show (20 : Int32) = Int32.ofNat 20 from rfl, lt_n (by omega) (by omega)]; omega
  have a := hU j
  have b := loR_le hU j
  unfold X12_look_B41 X12_look_J73
  simp (disch := omega) only [m_unlike hM h7 h8 (show j ≤ 20 by omega), lt_n, Option.bind_some, suc_n]
  rw [if_neg c20, loR]
  split <;> rfl
end
