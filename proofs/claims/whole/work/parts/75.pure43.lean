/-! ===== PURE 43: refusals; zone, trip, device, bind, log ===== -/
/-- one of the first n -/
def vl (x : Int32) (n : Nat) : Prop := ∃ m, m < n ∧ x = Int32.ofNat m
theorem vl_iff {x : Int32} {n : Nat} (hn : n < 100000) : vl x n ↔ 0 ≤ x.toInt ∧ x.toInt < n := by
  refine ⟨fun ⟨m, a, b⟩ => ?_, fun ⟨a, b⟩ => ⟨x.toInt.toNat, by omega, ofNat_tI a⟩⟩
  rw [b, tn m (by omega)]
  omega
theorem vl_ne {x : Int32} {n : Nat} (h : ¬ vl x n) {m : Nat} (hm : m < n) : x ≠ Int32.ofNat m := fun e => h ⟨m, hm, e⟩
theorem vl_lt {x : Int32} {n : Nat} (hn : n < 100000) (h : ¬ x < 0) (g : ¬ Int32.ofNat n ≤ x) : vl x n := by
  rw [vl_iff hn]
  rw [tI_lt] at h
  rw [tI_le, tn n (by omega)] at g
  have h0 : (0 : Int32).toInt = 0 := rfl
  omega
theorem vl_no {x : Int32} {n : Nat} (hn : n < 100000) (h : vl x n) : ¬ x < 0 ∧ ¬ Int32.ofNat n ≤ x := by
  rw [vl_iff hn] at h
  rw [tI_lt, tI_le, tn n (by omega)]
  have h0 : (0 : Int32).toInt = 0 := rfl
  omega
section
variable {M : Gm} {P D k : Nat} {N T : Nat → Int32}
theorem o_O (h : Ky M) : isO M 64 11 = some () := i_O ((h.1 64 (by decide)).trans rfl)
theorem o_I (h : Ky M) (k : Nat) : gfI M 64 11 k = some (M.1 64 k) := g_I k ((h.1 64 (by decide)).trans rfl)
theorem o_P (h : Ky M) (k : Nat) (x : Int32) : pfI M 64 11 k x = some (sI M 64 k x) := p_I k x ((h.1 64 (by decide)).trans rfl)
theorem o_tape (h : Ky M) (o : ObK M P D) : gfR M 64 11 0 = some 65 := (g_R 0 ((h.1 64 (by decide)).trans rfl)).trans (congrArg some o.1.1)
theorem o_reader (h : Ky M) (o : ObK M P D) : gfR M 64 11 3 = some 66 := (g_R 3 ((h.1 64 (by decide)).trans rfl)).trans (congrArg some o.1.2.1)
theorem o_plan (h : Ky M) (o : ObK M P D) : gfR M 64 11 4 = some P := (g_R 4 ((h.1 64 (by decide)).trans rfl)).trans (congrArg some o.1.2.2.1)
theorem o_draft (h : Ky M) (o : ObK M P D) : gfR M 64 11 5 = some D := (g_R 5 ((h.1 64 (by decide)).trans rfl)).trans (congrArg some o.1.2.2.2.1)
theorem o_mem (h : Ky M) (o : ObK M P D) : gfR M 64 11 6 = some 257 := (g_R 6 ((h.1 64 (by decide)).trans rfl)).trans (congrArg some o.1.2.2.2.2.1)
theorem o_img (h : Ky M) (o : ObK M P D) : gfR M 64 11 7 = some 278 := (g_R 7 ((h.1 64 (by decide)).trans rfl)).trans (congrArg some o.1.2.2.2.2.2.1)
theorem o_clock (h : Ky M) (o : ObK M P D) : gfR M 64 11 9 = some 299 := (g_R 9 ((h.1 64 (by decide)).trans rfl)).trans (congrArg some o.1.2.2.2.2.2.2.1)
theorem o_fs (h : Ky M) (o : ObK M P D) : gfR M 64 11 10 = some 302 := (g_R 10 ((h.1 64 (by decide)).trans rfl)).trans (congrArg some o.1.2.2.2.2.2.2.2.1)
theorem st345_0 (h : Ky M) (x : Int32) : stA M 3 345 0 x = some (sI M 345 0 x) := st345 (j := 0) h x (by decide)
theorem m_isIn (x a b : Int32) : sh_X12_isIn x a b M = some (bI (a.toInt ≤ x.toInt ∧ x.toInt ≤ b.toInt)) := by
  unfold sh_X12_isIn X12_isIn_F X12_isIn_J14 X12_isIn_J15
  by_cases c1 : x < a
  · rw [if_pos c1, bI_f (fun q => by rw [tI_lt] at c1; omega)]; rfl
  · rw [if_neg c1]
    by_cases c2 : b < x
    · rw [if_pos c2, bI_f (fun q => by rw [tI_lt] at c2; omega)]; rfl
    · rw [if_neg c2, bI_t (by rw [tI_lt] at c1 c2; omega)]; rfl
theorem m_fail (h : Ky M) (x : Int32) : sh_X12_fail 319 x M = some (0, sI M 319 4 x) := by
  unfold sh_X12_fail X12_fail_F
  simp only [m_O h, m_P h, Option.bind_some]
theorem c_what_y {x : Int32} {m : Nat} (hm : m < 1000) (h : vl x (m + 1)) : sh_X11_needWhat x (Int32.ofNat m) M = some (.inl ()) := by
  rw [vl_iff (by omega)] at h
  have h0 : (0 : Int32).toInt = 0 := rfl
  unfold sh_X11_needWhat X11_needWhat_F
  rw [if_neg (by rw [tI_lt]; omega), if_pos (by rw [tI_le, tn m (by omega)]; omega)]
theorem c_what_n {x : Int32} {m : Nat} (hm : m < 1000) (h : ¬ vl x (m + 1)) : sh_X11_needWhat x (Int32.ofNat m) M = some (.inr (1, nwM M (13, 0))) := by
  rw [vl_iff (by omega)] at h
  have h0 : (0 : Int32).toInt = 0 := rfl
  unfold sh_X11_needWhat X11_needWhat_F X11_needWhat_J9
  by_cases c : x < 0
  · rw [if_pos c]
  · rw [if_neg c, if_neg (by rw [tI_lt] at c; rw [tI_le, tn m (by omega)]; omega)]
theorem c_min_y {x a b : Int32} (h : a.toInt ≤ x.toInt ∧ x.toInt ≤ b.toInt) : sh_X11_needMinutes x a b M = some (.inl ()) := by
  unfold sh_X11_needMinutes X11_needMinutes_F
  rw [if_neg (by rw [tI_lt]; omega), if_pos (by rw [tI_le]; omega)]
theorem c_min_n {x a b : Int32} (h : ¬ (a.toInt ≤ x.toInt ∧ x.toInt ≤ b.toInt)) : sh_X11_needMinutes x a b M = some (.inr (2, nwM M (14, 0))) := by
  unfold sh_X11_needMinutes X11_needMinutes_F X11_needMinutes_J10
  by_cases c : x < a
  · rw [if_pos c]
  · rw [if_neg c, if_neg (by rw [tI_lt] at c; rw [tI_le]; omega)]

theorem c_hasZone (hP : PlK M P) {n : Nat} (hn : n < 1000) (e : M.1 P 5 = Int32.ofNat n) (x : Int32) : sh_X5_hasZone P x M = some (bI (vl x n)) := by
  unfold sh_X5_hasZone X5_hasZone_F X5_hasZone_J16 X5_hasZone_J17
  simp only [p_O hP, pg_I hP, e, Option.bind_some]
  by_cases c1 : x < 0
  · rw [if_pos c1, bI_f (fun q => (vl_no (by omega) q).1 c1)]; rfl
  · rw [if_neg c1]
    by_cases c2 : Int32.ofNat n ≤ x
    · rw [if_pos c2, bI_f (fun q => (vl_no (by omega) q).2 c2)]; rfl
    · rw [if_neg c2, bI_t (vl_lt (by omega) c1 c2)]; rfl
theorem c_needZone_y (w : Wd M P T) (o : ObK M P D) {x : Int32} (h : vl x (tz T)) : sh_X11_needZone 64 x M = some (.inl ()) := by
  obtain ⟨hM, -, -, hP, -, hT, pv⟩ := w
  have hz := hT.z
  unfold sh_X11_needZone X11_needZone_F
  simp only [o_O hM, o_plan hM o, c_hasZone hP (n := tz T) (by omega) (pv.1.1.trans hz.1), Option.bind_some, bI_t h]
  rfl
theorem c_needZone_n (w : Wd M P T) (o : ObK M P D) {x : Int32} (h : ¬ vl x (tz T)) : sh_X11_needZone 64 x M = some (.inr (1, nwM M (13, 0))) := by
  obtain ⟨hM, -, -, hP, -, hT, pv⟩ := w
  have hz := hT.z
  unfold sh_X11_needZone X11_needZone_F
  simp only [o_O hM, o_plan hM o, c_hasZone hP (n := tz T) (by omega) (pv.1.1.trans hz.1), Option.bind_some, bI_f h]
  rfl
theorem m_isZone (hM : Ky M) (hT : TOk T) (eT : M.1 325 = T) (x : Int32) : sh_X12_isZone 319 x M = some (bI (vl x (tz T))) := by
  have hz := hT.z
  have e1 : (M.1 325 163 - 1).toInt = tz T - 1 := by
    rw [eT, hz.1, tI_sub (by rw [tn _ (by omega), show (1 : Int32).toInt = 1 from rfl]; omega) (by rw [tn _ (by omega), show (1 : Int32).toInt = 1 from rfl]; omega), tn _ (by omega)]
    rfl
  unfold sh_X12_isZone X12_isZone_F
  simp only [m_O hM, m_zones hM, m_isIn, Option.bind_some, zck_b]
  congr 1
  apply bI_c
  rw [vl_iff (by omega), e1, show (0 : Int32).toInt = 0 from rfl]
  omega

theorem c_hasTrip (hP : PlK M P) {n : Nat} (hn : n < 1000) (e : M.1 P 6 = Int32.ofNat n) (x : Int32) : sh_X5_hasTrip P x M = some (bI (vl x n)) := by
  unfold sh_X5_hasTrip X5_hasTrip_F X5_hasTrip_J16 X5_hasTrip_J17
  simp only [p_O hP, pg_I hP, e, Option.bind_some]
  by_cases c1 : x < 0
  · rw [if_pos c1, bI_f (fun q => (vl_no (by omega) q).1 c1)]; rfl
  · rw [if_neg c1]
    by_cases c2 : Int32.ofNat n ≤ x
    · rw [if_pos c2, bI_f (fun q => (vl_no (by omega) q).2 c2)]; rfl
    · rw [if_neg c2, bI_t (vl_lt (by omega) c1 c2)]; rfl
theorem c_needTrip_y (w : Wd M P T) (o : ObK M P D) {x : Int32} (h : vl x (tt T)) : sh_X11_needTrip 64 x M = some (.inl ()) := by
  obtain ⟨hM, -, -, hP, -, hT, pv⟩ := w
  have hz := hT.t
  unfold sh_X11_needTrip X11_needTrip_F
  simp only [o_O hM, o_plan hM o, c_hasTrip hP (n := tt T) (by omega) (pv.1.2.1.trans hz.1), Option.bind_some, bI_t h]
  rfl
theorem c_needTrip_n (w : Wd M P T) (o : ObK M P D) {x : Int32} (h : ¬ vl x (tt T)) : sh_X11_needTrip 64 x M = some (.inr (1, nwM M (13, 0))) := by
  obtain ⟨hM, -, -, hP, -, hT, pv⟩ := w
  have hz := hT.t
  unfold sh_X11_needTrip X11_needTrip_F
  simp only [o_O hM, o_plan hM o, c_hasTrip hP (n := tt T) (by omega) (pv.1.2.1.trans hz.1), Option.bind_some, bI_f h]
  rfl
theorem m_isTrip (hM : Ky M) (hT : TOk T) (eT : M.1 325 = T) (x : Int32) : sh_X12_isTrip 319 x M = some (bI (vl x (tt T))) := by
  have hz := hT.t
  have e1 : (M.1 325 164 - 1).toInt = tt T - 1 := by
    rw [eT, hz.1, tI_sub (by rw [tn _ (by omega), show (1 : Int32).toInt = 1 from rfl]; omega) (by rw [tn _ (by omega), show (1 : Int32).toInt = 1 from rfl]; omega), tn _ (by omega)]
    rfl
  unfold sh_X12_isTrip X12_isTrip_F
  simp only [m_O hM, m_trips hM, m_isIn, Option.bind_some, zck_b]
  congr 1
  apply bI_c
  rw [vl_iff (by omega), e1, show (0 : Int32).toInt = 0 from rfl]
  omega

theorem c_hasDevice (hP : PlK M P) {n : Nat} (hn : n < 1000) (e : M.1 P 7 = Int32.ofNat n) (x : Int32) : sh_X5_hasDevice P x M = some (bI (vl x n)) := by
  unfold sh_X5_hasDevice X5_hasDevice_F X5_hasDevice_J16 X5_hasDevice_J17
  simp only [p_O hP, pg_I hP, e, Option.bind_some]
  by_cases c1 : x < 0
  · rw [if_pos c1, bI_f (fun q => (vl_no (by omega) q).1 c1)]; rfl
  · rw [if_neg c1]
    by_cases c2 : Int32.ofNat n ≤ x
    · rw [if_pos c2, bI_f (fun q => (vl_no (by omega) q).2 c2)]; rfl
    · rw [if_neg c2, bI_t (vl_lt (by omega) c1 c2)]; rfl
theorem c_needDevice_y (w : Wd M P T) (o : ObK M P D) {x : Int32} (h : vl x (td T)) : sh_X11_needDevice 64 x M = some (.inl ()) := by
  obtain ⟨hM, -, -, hP, -, hT, pv⟩ := w
  have hz := hT.d
  unfold sh_X11_needDevice X11_needDevice_F
  simp only [o_O hM, o_plan hM o, c_hasDevice hP (n := td T) (by omega) (pv.1.2.2.1.trans hz.1), Option.bind_some, bI_t h]
  rfl
theorem c_needDevice_n (w : Wd M P T) (o : ObK M P D) {x : Int32} (h : ¬ vl x (td T)) : sh_X11_needDevice 64 x M = some (.inr (1, nwM M (13, 0))) := by
  obtain ⟨hM, -, -, hP, -, hT, pv⟩ := w
  have hz := hT.d
  unfold sh_X11_needDevice X11_needDevice_F
  simp only [o_O hM, o_plan hM o, c_hasDevice hP (n := td T) (by omega) (pv.1.2.2.1.trans hz.1), Option.bind_some, bI_f h]
  rfl
theorem m_isDevice (hM : Ky M) (hT : TOk T) (eT : M.1 325 = T) (x : Int32) : sh_X12_isDevice 319 x M = some (bI (vl x (td T))) := by
  have hz := hT.d
  have e1 : (M.1 325 165 - 1).toInt = td T - 1 := by
    rw [eT, hz.1, tI_sub (by rw [tn _ (by omega), show (1 : Int32).toInt = 1 from rfl]; omega) (by rw [tn _ (by omega), show (1 : Int32).toInt = 1 from rfl]; omega), tn _ (by omega)]
    rfl
  unfold sh_X12_isDevice X12_isDevice_F
  simp only [m_O hM, m_devices hM, m_isIn, Option.bind_some, zck_b]
  congr 1
  apply bI_c
  rw [vl_iff (by omega), e1, show (0 : Int32).toInt = 0 from rfl]
  omega

/-- what the reference stands for when a question comes to it -/
theorem CV.rf {M1 : Gm} (cv : CV M M.1 P D k) (hl : 346 ≤ M.2.2.length) (sc : Sc M M1) (e4 : M1.1 324 = M.1 324) (e5 : M1.1 325 = M.1 325) : Rf M1 (M.1 325) (M.1 324) k := by
  obtain ⟨⟨o, w, -, -⟩, -, ⟨n, c, -, -, a3⟩, -⟩ := cv
  exact ⟨(sc.wd hl w).1, w.2.2.2.2.2.1, a3.1.2.2.2.1, a3.1.2.2.2.2, e5, e4⟩
theorem Rf.z {x : Int32} (r : Rf M T N k) : Rf (sI M 319 4 x) T N k := by
  obtain ⟨a, b, c, d, e, f⟩ := r
  exact ⟨a.sI _ _ _, b, c, d, by rw [sI_ne _ _ _ (by decide)]; exact e, by rw [sI_ne _ _ _ (by decide)]; exact f⟩
theorem Rq.z (M : Gm) (x : Int32) : Rq M (sI M 319 4 x) := ⟨rfl, fun b hb => sI_ne _ _ _ (fun e => hb (by rw [e]; decide)), fun k h _ _ => by rw [sI_own, ud_ne _ _ h]⟩
/-- a question that changes nothing -/
theorem q_pure {f g : Gm → Option (Int32 × Gm)} {v : Int32} {j : Nat} (h : Inv M j) (cv : CV M M.1 P D (1300 * j)) (hf : f M = some (0, sI M 345 0 v)) (hg : ∀ M1, Rf M1 (M.1 325) (M.1 324) (1300 * j) → M1.1 319 = M.1 319 → M1.1 328 = M.1 328 → g M1 = some (v, sI M1 319 4 0)) : Ans f g M j := by
  have hl := h.2.1
  refine q_ok h hf (Ft.rfl' M) (hg _ (cv.rf hl (Sc.set (by omega) _ _) (sI_ne _ _ _ (by decide)) (sI_ne _ _ _ (by decide))) (sI_ne _ _ _ (by decide)) (sI_ne _ _ _ (by decide))) (Rq.z _ _) (by rw [sI_own, ud_at])
/-- a question that is refused at once -/
theorem q_ref {f g : Gm → Option (Int32 × Gm)} {e : Int32} {q : Nat} {j : Nat} (h : Inv M j) (cv : CV M M.1 P D (1300 * j)) (he : e ≠ 0) (hq : q = 13 ∨ q = 14) (hf : f M = some (e, nwM M (q, 0))) (hg : ∀ M1, Rf M1 (M.1 325) (M.1 324) (1300 * j) → g M1 = some (0, sI (sI M1 319 4 0) 319 4 e)) : Ans f g M j := by
  have hl := h.2.1
  have rr : ∀ a, a < 346 → (nwM M (q, 0)).1 a = M.1 a := fun a ha => by
    funext k
    show (if a = M.2.2.length then 0 else M.1 a k) = _
    rw [if_neg (by omega)]
  refine q_no h hf he ?_ (hg _ (cv.rf hl (Sc.new _ _) (rr 324 (by omega)) (rr 325 (by omega)))) ((Rq.z _ _).trans (Rq.z _ _)) (by rw [sI_own, ud_at])
  rcases hq with e | e <;> rw [e] <;> decide
end
