/-! ===== PURE 27: wantAll as a loop; the class's minute ===== -/
section
variable {M : Gm} {S P : Nat} {N T : Nat → Int32}
theorem c_want1 (hM : Ky M) (hS : StK M S P) (hP : PlK M P) (hT : TOk T) (pv : PlV M P T) (sv : StV M S N T) (hN : NOk N T) (so : SOk S) (po : POk P) {t : Nat} (ht : t < tt T) : ∃ M', X1_wantAll_B2 299 S (Int32.ofNat t, M) = some (.inl (Int32.ofNat (t + 1), M')) ∧ Fm [S + 13] M M' ∧ StV M' S (mWant T N t) T := by
  have ht' := hT.t
  have e15 : M.1 P 6 = Int32.ofNat (tt T) := pv.1.2.1.trans ht'.1
  have e1 : M.1 (P + 11 + t) 1 = T (25 + t) := (pv.2.2.1 t ht).2.1
  unfold X1_wantAll_B2 mWant X1_wantAll_J72
  simp (disch := omega) only [s_plan hS, pg_I hP, e15, Option.bind_some, le_n, p_trips hP, p_trip hP, pt_I hP, e1]
  rw [if_neg (by omega)]
  by_cases c0 : T (25 + t) = 0
  · rw [if_pos c0, if_pos c0]
    obtain ⟨M', a1, a2, a3⟩ := c_wantStep hM hS hP hT pv sv hN so po ht
    exact ⟨M', by rw [a1]; simp only [Option.bind_some, suc_n], a2, a3⟩
  · rw [if_neg c0, if_neg c0]
    by_cases c1 : T (25 + t) = 1
    · rw [if_pos c1, if_pos c1]
      obtain ⟨M', a1, a2, a3⟩ := c_wantShares hM hS hP hT pv sv so po ht
      exact ⟨M', by rw [c_asked hS hP hT pv sv hN ht]; simp only [Option.bind_some, a1, suc_n], a2, a3⟩
    · rw [if_neg c1, if_neg c1]
      exact ⟨M, by rw [suc_n], Fm.rfl' _ _, sv⟩
theorem c_wantAll (hM : Ky M) (hS : StK M S P) (hP : PlK M P) (hT : TOk T) (pv : PlV M P T) (sv : StV M S N T) (hN : NOk N T) (so : SOk S) (po : POk P) : ∃ M', sh_X1_wantAll 299 S M = some M' ∧ Fm [S + 13] M M' ∧ StV M' S (itR (mWant T) N (tt T)) T := by
  have hd := hT.t
  have so' := so
  unfold SOk at so'
  have key : ∃ M', lp (X1_wantAll_B2 299 S) FU (0, M) = some M' ∧ (Fm [S + 13] M M' ∧ StV M' S (itR (mWant T) N (tt T)) T) := by
    refine lp_inv (fun j q => q.1 = Int32.ofNat j ∧ Fm [S + 13] M q.2 ∧ StV q.2 S (itR (mWant T) N j) T) _ (tt T) ?_ ?_ ⟨rfl, Fm.rfl' _ _, sv⟩ (by omega)
    · rintro j ⟨i, M1⟩ hj ⟨h1, h2, h3⟩
      replace h1 : i = Int32.ofNat j := h1
      subst h1
      obtain ⟨M2, a1, a2, a3⟩ := c_want1 (hM.fm h2) (hS.fm h2) (hP.fm h2) hT (pv.fm' hP hT po h2 (by simp <;> omega)) h3 (hN.wantsAll hT j (by omega)) so po hj
      exact Or.inl ⟨_, a1, rfl, h2.trans a2 (fun _ q => q) (fun _ q => q), a3⟩
    · rintro ⟨i, M1⟩ ⟨h1, h2, h3⟩
      replace h1 : i = Int32.ofNat (tt T) := h1
      subst h1
      refine ⟨M1, ?_, h2, h3⟩
      have hP1 := hP.fm h2
      have e15 : M1.1 P 6 = Int32.ofNat (tt T) := (pv.fm' hP hT po h2 (by simp <;> omega)).1.2.1.trans hd.1
      unfold X1_wantAll_B2
      simp (disch := omega) only [s_plan (hS.fm h2), pg_I hP1, e15, Option.bind_some, le_n]
      rw [if_pos (Nat.le_refl _)]
  obtain ⟨M', k1, k2, k3⟩ := key
  refine ⟨M', ?_, k2, k3⟩
  unfold sh_X1_wantAll X1_wantAll_F
  simp only [k_O hM, Option.bind_some, k1]
/-- all cells of a State, and the clock's two rows -/
def cl (S : Nat) : List Nat := [S, S + 1, S + 4, S + 5, S + 6, S + 7, S + 8, S + 9, S + 10, S + 13, S + 14, 300, 301]
theorem cl_mem {S a : Nat} (h : a ∈ cl S) : (S ≤ a ∧ a ≤ S + 14) ∨ a = 300 ∨ a = 301 := by
  unfold cl at h
  simp only [List.mem_cons, List.not_mem_nil, or_false] at h
  omega
theorem StV.minute (sv : StV M S N T) (hT : TOk T) (x : Int32) : StV (sI M S 1 x) S (ud N 142 x) T := by
  have h10 := hT.t.2
  have h5 := hT.z.2
  have h6 := hT.d.2
  have eL : lg (ud N 142 x) = lg N := by unfold lg; rw [ud_ne _ _ (by decide)]
  have f : ∀ b, b ≠ S → (sI M S 1 x).1 b = M.1 b := fun b hb => sI_ne M 1 x hb
  obtain ⟨⟨a1, a2, a3, a4, a5⟩, b, c, d, e, g, i⟩ := sv
  refine ⟨⟨?_, ?_, ?_, ?_, ?_⟩, fun z hz => ?_, fun z i hz hi => ?_, fun t ht => ?_, fun d' hd => ?_, fun t i' ht hi => ?_, fun j hj => ?_⟩
  · rw [sI_own, ud_at, ud_at]
  · rw [sI_own, ud_ne _ _ (by decide), ud_ne _ _ (by decide)]; exact a2
  · rw [sI_own, ud_ne _ _ (by decide), eL]; exact a3
  · rw [sI_own, ud_ne _ _ (by decide), eL]; exact a4
  · rw [sI_own, ud_ne _ _ (by decide), ud_ne _ _ (by decide)]; exact a5
  · rw [f _ (by omega), f _ (by omega), f _ (by omega), f _ (by omega), f _ (by omega), f _ (by omega), ud_ne _ _ (by omega), ud_ne _ _ (by omega), ud_ne _ _ (by omega), ud_ne _ _ (by omega), ud_ne _ _ (by omega)]
    exact b z hz
  · rw [f _ (by omega), ud_ne _ _ (by omega)]; exact c z i hz hi
  · rw [f _ (by omega), f _ (by omega), ud_ne _ _ (by omega), ud_ne _ _ (by omega)]; exact d t ht
  · rw [f _ (by omega), f _ (by omega), f _ (by omega), ud_ne _ _ (by omega), ud_ne _ _ (by omega)]; exact e d' hd
  · have := (di_ok hT (by omega) hi).2.2
    rw [f _ (by omega), ud_ne _ _ (by omega)]; exact g t i' ht hi
  · rw [eL] at hj
    rw [f _ (by omega), ud_ne _ _ (by omega)]; exact i j hj
theorem NOk.uk {N T : Nat → Int32} (hT : TOk T) (h : NOk N T) {k : Nat} (x : Int32) (hk : k = 142 ∨ 144 ≤ k ∨ (60 ≤ k ∧ k < 70)) : NOk (ud N k x) T := by
  have h10 := hT.t.2
  have h5 := hT.z.2
  have h6 := hT.d.2
  obtain ⟨a, b, c, d, e, f⟩ := h
  refine ⟨fun z hz => ?_, fun z i hz hi => ?_, fun u hu => ?_, fun d' hd => ?_, fun u d' hu hd => ?_, ?_⟩
  · rw [ud_ne _ _ (by omega), ud_ne _ _ (by omega), ud_ne _ _ (by omega), ud_ne _ _ (by omega), ud_ne _ _ (by omega), ud_ne _ _ (by omega)]; exact a z hz
  · rw [ud_ne _ _ (by omega)]; exact b z i hz hi
  · rw [ud_ne _ _ (by omega)]; exact c u hu
  · rw [ud_ne _ _ (by omega), ud_ne _ _ (by omega)]; exact d d' hd
  · rw [ud_ne _ _ (by omega)]; exact e u d' hu hd
  · rw [ud_ne _ _ (by omega)]; exact f
theorem NOk.minute {N T : Nat → Int32} (hT : TOk T) (h : NOk N T) : NOk (mMinute T N) T := by
  have a1 := (h.heats hT).reads hT (tz T) (Nat.le_refl _)
  have a2 := a1.turns hT (tt T) (Nat.le_refl _)
  have a3 := a2.wantsAll hT (tt T) (Nat.le_refl _)
  have a4 := a3.moves hT (td T) (Nat.le_refl _)
  have a5 := a4.shuts hT (tt T) (Nat.le_refl _)
  exact NOk.uk hT a5 _ (Or.inl rfl)
theorem c_passMinute (hM : Ky M) (hC : CkK M) (hS : StK M S P) (hP : PlK M P) (hT : TOk T) (pv : PlV M P T) (sv : StV M S N T) (hN : NOk N T) (so : SOk S) (po : POk P) {k : Nat} (hL : LgOk N k) (hk : k < 2147483400) : ∃ M', sh_X1_passMinute 299 S M = some M' ∧ Fm (cl S) M M' ∧ StV M' S (mMinute T N) T := by
  have so' := so
  unfold SOk at so'
  have h5 := hT.z.2
  have sub : ∀ (L : List Nat) (M1 M2 : Gm), (∀ a, a ∈ L → a ∈ cl S) → Fm (cl S) M M1 → Fm L M1 M2 → Fm (cl S) M M2 := fun L M1 M2 h f g => f.trans g (fun _ q => q) h
  have c257 : ∀ a, a ∈ cl S → 257 ≤ a := fun a ha => by have := cl_mem ha; omega
  obtain ⟨M1, a1, a2, a3⟩ := c_moveHeats hM hC hS hP hT pv sv hN so po (fb_60 hT) (fun t ht => fb_mono T (by omega))
  have n1 := hN.heats hT
  have f1 := sub _ _ _ (by unfold cl; simp) (Fm.rfl' _ _) a2
  obtain ⟨M2, b1, b2, b3⟩ := c_readSensors (hM.fm f1) (hC.fm f1) (hS.fm f1) (hP.fm f1) hT (pv.fm' hP hT po f1 c257) a3 n1 so po
  have n2 := n1.reads hT (tz T) (Nat.le_refl _)
  have f2 := sub _ _ _ (by unfold cl; simp) f1 b2
  have l2 : LgOk (mReads T (mHeats T N) (tz T)) k := hL.same ((mReads_ne (by omega) _ h5).trans (mHeats_ne hT (by omega)))
  obtain ⟨M3, d1, d2, d3⟩ := c_flipTrips (hM.fm f2) (hS.fm f2) (hP.fm f2) hT (pv.fm' hP hT po f2 c257) b3 so po l2 (by omega)
  have n3 := n2.turns hT (tt T) (Nat.le_refl _)
  have f3 := sub _ _ _ (by unfold cl; simp) f2 d2
  have l3 := Lg_turns hT l2 (by omega) (tt T) (Nat.le_refl _)
  obtain ⟨M4, e1, e2, e3⟩ := c_wantAll (hM.fm f3) (hS.fm f3) (hP.fm f3) hT (pv.fm' hP hT po f3 c257) d3 n3 so po
  have n4 := n3.wantsAll hT (tt T) (Nat.le_refl _)
  have f4 := sub _ _ _ (by unfold cl; simp) f3 e2
  have l4 := Lg_wants hT l3 (tt T) (Nat.le_refl _)
  obtain ⟨M5, g1, g2, g3⟩ := c_moveDevices (hM.fm f4) (hS.fm f4) (hP.fm f4) hT (pv.fm' hP hT po f4 c257) e3 n4 so po
  have n5 := n4.moves hT (td T) (Nat.le_refl _)
  have f5 := sub _ _ _ (by unfold cl; simp) f4 g2
  have l5 := Lg_moves hT l4 (td T) (Nat.le_refl _)
  have h10 := hT.t.2
  obtain ⟨M6, i1, i2, i3⟩ := c_shutZones (hM.fm f5) (hS.fm f5) (hP.fm f5) hT (pv.fm' hP hT po f5 c257) g3 n5 so po l5 (by omega)
  have f6 := sub _ _ _ (by unfold cl; simp) f5 i2
  refine ⟨sI M6 S 1 (M6.1 S 1 + 1), ?_, f6.set (by unfold cl; simp) _ _, ?_⟩
  · unfold sh_X1_passMinute X1_passMinute_F
    simp only [k_O hM, Option.bind_some, a1, b1, d1, e1, g1, i1, s_I (hS.fm f6), s_P (hS.fm f6)]
  · have := StV.minute i3 hT (M6.1 S 1 + 1)
    rw [i3.1.1] at this ⊢
    exact this
end
