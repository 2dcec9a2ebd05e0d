/-! ===== PURE 15: the class's asked ===== -/
theorem di_ok {T : Nat → Int32} (hT : TOk T) {t i : Nat} (ht : t < 10) (hi : i < (dl T t).length) : di T t i < td T ∧ wn T t (di T t i) ≠ 0 ∧ di T t i < 6 := by
  have hm : di T t i ∈ dl T t := by
    unfold di
    rw [List.getD_eq_getElem?_getD, List.getElem?_eq_getElem hi]
    exact List.getElem_mem hi
  have a := ((dl_ok hT ht).2 _).mp hm
  exact ⟨((hT.wN ht a.1).2.2 a.2).2, a.2, a.1⟩
/-- a sum over the first so many bound DEVICES -/
def dS (T : Nat → Int32) (t : Nat) (f : Nat → Nat) : Nat → Nat
  | 0 => 0
  | j + 1 => dS T t f j + f (di T t j)
theorem dS_take (T : Nat → Int32) (t : Nat) (f : Nat → Nat) : ∀ j, j ≤ (dl T t).length → (((dl T t).take j).map f).sum = dS T t f j := by
  intro j
  induction j with
  | zero => intro _; simp [dS]
  | succ j ih =>
    intro hj
    have e : (dl T t).take (j + 1) = (dl T t).take j ++ [di T t j] := by
      unfold di
      rw [List.take_add_one, List.getD_eq_getElem?_getD, List.getElem?_eq_getElem (show j < (dl T t).length by omega)]
      rfl
    rw [e, List.map_append, List.sum_append_nat, ih (by omega)]
    simp [dS]
theorem dS_all {T : Nat → Int32} (hT : TOk T) {t : Nat} (ht : t < 10) (f : Nat → Nat) : dS T t f (dl T t).length = fS T t f (td T) := by
  rw [← dS_take T t f _ (Nat.le_refl _), List.take_length, (dl_ok hT ht).sum hT ht]
theorem dS_le {T : Nat → Int32} {t : Nat} {f : Nat → Nat} (h : ∀ i, i < (dl T t).length → f (di T t i) ≤ 9) : ∀ j, j ≤ (dl T t).length → dS T t f j ≤ 9 * j := by
  intro j
  induction j with
  | zero => intro _; exact Nat.le_refl _
  | succ j ih =>
    intro hj
    have a := ih (by omega)
    have b := h j (by omega)
    show dS T t f j + f (di T t j) ≤ _
    omega
section Ask
variable {M : Gm} {S P : Nat} {N T : Nat → Int32}
/-- what the plan holds of a BIND -/
theorem bind_at (hP : PlK M P) (hT : TOk T) (pv : PlV M P T) {t i : Nat} (ht : t < tt T) (hi : i < (dl T t).length) : fb T t + i < 60 ∧ gfI M (M.2.1 (P + 4) (fb T t + i)) 0 1 = some (Int32.ofNat (di T t i)) ∧ gfI M (M.2.1 (P + 4) (fb T t + i)) 0 2 = some (T (79 + 6 * t + di T t i)) ∧ gfI M (M.2.1 (P + 4) (fb T t + i)) 0 0 = some (Int32.ofNat t) ∧ gfI M (P + 21 + di T t i) 2 2 = some (T (67 + di T t i)) := by
  have a : fb T (t + 1) = fb T t + (dl T t).length := rfl
  have b := fb_mono T (show t + 1 ≤ tt T by omega)
  have c := fb_60 hT
  have ht10 := hT.t.2
  have h60 : fb T t + i < 60 := by omega
  have v := pv.2.2.2.2.1 t i ht hi
  have d := di_ok hT (t := t) (i := i) (by omega) hi
  refine ⟨h60, ?_, ?_, ?_, ?_⟩
  · rw [pb_I hP h60, v.2.1]
  · rw [pb_I hP h60, v.2.2]
  · rw [pb_I hP h60, v.1]
  · rw [pd_I hP d.2.2, (pv.2.2.2.1 _ d.1).2.2]
theorem c_asked (hS : StK M S P) (hP : PlK M P) (hT : TOk T) (pv : PlV M P T) (sv : StV M S N T) (hN : NOk N T) {t : Nat} (ht : t < tt T) : sh_X7_asked S (Int32.ofNat t) M = some (mAsked T N t) := by
  have ht10 : t < 10 := by have := hT.t.2; omega
  have hz5 := hT.z.2
  obtain ⟨⟨z, hz, ez⟩, -, hat, -⟩ := hT.2.2.1 t ht
  have nz : (T (15 + t)).toNatClampNeg = z := by rw [ez]; exact nn z (by omega)
  obtain ⟨p0, p1, p2, -, p4, p5⟩ := pv.2.2.1 t ht
  rw [ez] at p0
  have von := (sv.2.2.2.1 t ht).1
  have vtemp := (sv.2.1 z hz).2.2.2.1
  have f0 : fb T (t + 1) = fb T t + (dl T t).length := rfl
  have f1 := fb_mono T (show t + 1 ≤ tt T by omega)
  have f2 := fb_60 hT
  have hmost : ∀ i, i < (dl T t).length → T (67 + di T t i) = Int32.ofNat (mn T (di T t i)) ∧ mn T (di T t i) ≤ 9 := fun i hi => by
    have := hT.mN (di_ok hT ht10 hi).1
    exact ⟨this.1, this.2.2⟩
  have hl : lp (X7_asked_B37 S (P + 11 + t) M) FU (0, Int32.ofNat (fb T t)) = some (mostS T t (td T)) := by
    rw [mostS_n hT ht10 _ (Nat.le_refl _), mS_fS, ← dS_all hT ht10]
    refine lp_for (s := fun j => (Int32.ofNat (dS T t (mn T) j), Int32.ofNat (fb T t + j))) _ (dl T t).length (fun j hj => ?_) ?_ (by omega)
    · obtain ⟨h60, g1, -, -, g2⟩ := bind_at hP hT pv ht hj
      have d := di_ok hT ht10 hj
      have hm := hmost j hj
      unfold X7_asked_B37
      simp (disch := omega) only [pt_I hP, p5, Option.bind_some, le_n, s_plan hS, p_devices hP, p_binds hP, p_bind hP, g1, p_device hP, g2, hm.1, ad_n, suc_n]
      rw [if_neg (by omega)]
      rfl
    · unfold X7_asked_B37
      simp (disch := omega) only [pt_I hP, p5, Option.bind_some, le_n]
      rw [if_pos (by omega)]
  have hq := (isN_sub (hN.1 z hz).2.2.1 hat (by decide) (by decide)).2
  unfold sh_X7_asked X7_asked_F mAsked X7_asked_J27
  simp (disch := omega) only [s_O hS, s_plan hS, p_trips hP, p_trip hP, pt_I hP, p1, Option.bind_some, s_on hS, sl8 hS, von, p4, hl, s_temp hS, p0, sl4 hS, vtemp, p2, nz, c_quot (show isN 10 1 1000 from ⟨10, rfl, by decide, by decide⟩) hq.1 hq.2, m_max, m_min]
  by_cases c : T (25 + t) = 1
  · rw [if_pos c, if_pos c]
    by_cases c' : N (50 + t) = 0
    · rw [if_pos c', if_pos c']
    · rw [if_neg c', if_neg c']
  · rw [if_neg c, if_neg c]
end Ask

