/-! ===== PURE 51: acts: refused, load, hold, start, foresee, minutes ===== -/
section
variable {M M1 M2 : Gm} {S P D k k' n c j : Nat} {N N' T pa nz nm nh st : Nat → Int32}
theorem MmV.stt (mv : MmV M 257 P T k N pa nz nm nh st n c) (ak : AcK M) {i : Nat} (hi : i < 3) (x : Int32) : MmV (sI M 262 i x) 257 P T k N pa nz nm nh (ud st i x) n c := by
  obtain ⟨a, b, g, d, e⟩ := mv
  refine ⟨⟨a.1.sI _ _ _, a.2.1, a.2.2.1.ext (fun a _ _ => sI_ne _ _ _ (by omega)), a.2.2.2⟩, b.ext ak (Or.inl rfl) rfl ⟨by rw [sI_ne _ _ _ (by decide)], by rw [sI_ne _ _ _ (by decide)]⟩ (fun a ha => sI_ne _ _ _ (by omega)), ?_, d, fun q hq => ?_⟩
  · unfold NtV at *
    rw [sI_ne _ _ _ (by decide), sI_ne _ _ _ (by decide), sI_ne _ _ _ (by decide), sI_ne _ _ _ (by decide)]
    exact g
  · show (sI M 262 i x).1 262 q = _
    rw [sI_own]
    unfold ud
    by_cases cq : q = i
    · rw [if_pos cq, if_pos cq]
    · rw [if_neg cq, if_neg cq]; exact e q hq
theorem c_refuse (hM : Ky M) (o : ObK M P D) (mk : MmK M 257) (x : Int32) : sh_X11_refuseAct 64 x M = some (x, sI M 262 1 (M.1 262 1 + 1)) := by
  have l1 : ldA M 0 (257 + 5) 1 = some (M.1 262 1) := l_A (j := 1) (mm_kd hM mk).2.2.2.2.2 (by decide) (by decide)
  have s1 : ∀ y, stA M 0 (257 + 5) 1 y = some (sI M 262 1 y) := fun y => s_A (j := 1) y (mm_kd hM mk).2.2.2.2.2 (by decide) (by decide)
  unfold sh_X11_refuseAct X11_refuseAct_F
  rw [o_O hM, bs, o_mem hM o, bs, mm_st hM mk, bs, l1, bs, s1, bs]
theorem m_refuse (hM : Ky M) {i : Nat} (hi : i < 3) : sh_X12_refuse 319 (Int32.ofNat i) M = some (-1, sI M 328 i (M.1 328 i + 1)) := by
  unfold sh_X12_refuse X12_refuse_F
  rw [m_O hM, bs, m_status hM, bs, ld328 hM hi, bs, st328 hM _ hi, bs]
/-- a refused act on both sides -/
theorem act_ref {f g : Gm → Option (Int32 × Gm)} {b : Int32} {i : Nat} (h : Inv M j) (cv : CV M M.1 P D (1300 * j)) (hi : i < 3) (hf : f M = some (b, sI M 262 i (M.1 262 i + 1))) (hg : ∀ M0, Rf M0 (M.1 325) (M.1 324) (1300 * j) → Rs M.1 M0.1 → g M0 = some (b, sI (sI M0 319 4 0) 328 i ((sI M0 319 4 0).1 328 i + 1))) : An2 f g M j := by
  have rm := h.2
  have hl := rm.1
  obtain ⟨⟨o, w, -, -⟩, ⟨mk, -, -, -, ak⟩, ⟨n, c, c1, c2, c3⟩, -⟩ := id cv
  have f1 : Fg 257 M (sI M 262 i (M.1 262 i + 1)) := Fg.same rfl (fun a h1 h2 => sI_ne _ _ _ (by omega))
  have ak1 : AcK (sI M 262 i (M.1 262 i + 1)) := ak.ext rfl
  have rs : Rs M.1 (sI M 262 i (M.1 262 i + 1)).1 := by
    refine ⟨fun a ha => ?_, fun k hk => by rw [sI_ne _ _ _ (by decide)]⟩
    simp only [List.mem_cons, List.not_mem_nil, or_false] at ha
    exact sI_ne _ _ _ (by omega)
  have rf : Rf (sI M 262 i (M.1 262 i + 1)) (M.1 325) (M.1 324) (1300 * j) := ⟨w.1.sI _ _ _, w.2.2.2.2.2.1, c3.1.2.2.2.1, c3.1.2.2.2.2, rs.1 325 (by decide), rs.1 324 (by decide)⟩
  have run := hg _ rf rs
  have mv := c3.stt ak hi (M.1 262 i + 1)
  have es : M.1 262 i = M.1 328 i := c3.2.2.2.2 i hi
  generalize hM1 : sI M 262 i (M.1 262 i + 1) = M1 at *
  have e0 : ∀ a, a ≠ 319 → a ≠ 328 → (sI (sI M1 319 4 0) 328 i ((sI M1 319 4 0).1 328 i + 1)).1 a = M1.1 a := fun a h1 h2 => by rw [sI_ne _ _ _ h2, sI_ne _ _ _ h1]
  have eM : ∀ a, a ≠ 262 → M1.1 a = M.1 a := fun a ha => by rw [← hM1, sI_ne _ _ _ ha]
  have e9 : ∀ q, q ≠ 4 → (sI (sI M1 319 4 0) 328 i ((sI M1 319 4 0).1 328 i + 1)).1 319 q = M.1 319 q := fun q hq => by rw [sI_ne _ _ _ (by decide), sI_own, ud_ne _ _ hq, eM 319 (by decide)]
  have e8 : (sI (sI M1 319 4 0) 328 i ((sI M1 319 4 0).1 328 i + 1)).1 328 = ud (M.1 328) i (M.1 262 i + 1) := by rw [sI_own, sI_ne _ _ _ (by decide), eM 328 (by decide), es]
  refine ⟨b, M1, _, hf, run, ?_⟩
  refine act_inv rm cv f1 ak1 (Nr.same (by rw [← hM1]; rfl) 40) rfl (fun a ha => e0 a (by omega) (by omega)) (fun a ha => ?_) (fun q hq => e9 q ?_) ⟨n, c, (e9 26 (by decide)).trans c1, (e9 28 (by decide)).trans c2, ?_⟩
  · simp only [List.mem_cons, List.not_mem_nil, or_false] at ha
    rw [e0 a (by omega) (by omega), eM a (by omega)]
  · simp only [List.mem_cons, List.not_mem_nil, or_false] at hq; omega
  · rw [e8, e0 324 (by decide) (by decide), e0 333 (by decide) (by decide), e0 334 (by decide) (by decide), e0 335 (by decide) (by decide), e0 336 (by decide) (by decide), eM 324 (by decide), eM 333 (by decide), eM 334 (by decide), eM 335 (by decide), eM 336 (by decide)]
    exact mv.le (by omega)
/-- a kept act on both sides: X the class when the act is kept, M1 when it is through, M2 when the reference is -/
theorem act_kept {X : Gm} (rm : Rm M j) (cv : CV M M.1 P D (1300 * j)) (mv : MmV M 257 P (M.1 325) (1300 * j) (M.1 324) pa nz nm nh (M.1 328) n c)
    (c28 : M.1 319 28 = Int32.ofNat c) (hnt : pa = M.1 333 ∧ nz = M.1 334 ∧ nm = M.1 335 ∧ nh = M.1 336)
    (f : Fg 257 M X) (akX : AcK X) (avX : ActV X 257 P (M.1 325) (1300 * j) (keepR pa (M.1 324) n) (min (n + 1) 40)) (xr : ∀ b, b < 346 → b ≠ 257 → X.1 b = M.1 b) (x7 : X.1 257 7 = M.1 257 7) (nr : Nr M X 1)
    (e1 : M1.2 = X.2) (r1 : ∀ b, (b < 263 ∨ (277 < b ∧ b < 300) ∨ 301 < b) → M1.1 b = X.1 b) (s1 : Sd M1 263 P N' (M.1 325) (1300 * (j + 1)))
    (e2 : M2.2 = M1.2) (ei : ∀ a, a < 319 ∨ 345 < a → M2.1 a = M1.1 a) (h24 : M2.1 324 = N') (h33 : M2.1 333 = keepR (M.1 333) (M.1 324) n) (h26 : M2.1 319 26 = Int32.ofNat (min (n + 1) 40))
    (hB : ∀ i, i ∈ [11, 20, 28, 35, 36, 37] → M2.1 319 i = M.1 319 i) (hA : ∀ a, a ∈ [325, 328, 329, 334, 335, 336, 339, 340, 341, 342, 343, 344] → M2.1 a = M.1 a) : Inv M2 (j + 1) ∧ Ky M2 := by
  obtain ⟨q1, q2, q3, q4⟩ := hnt
  subst q1 q2 q3 q4
  have f2 : Fg 257 X M1 := Fg.same e1 (fun a h1 h2 => r1 a (by omega))
  have ak1 : AcK M1 := akX.ext e1
  refine act_inv rm cv (f.trans f2) ak1 ?_ e2 ei (fun a ha => hA a ?_) (fun i hi => hB i ?_) ⟨min (n + 1) 40, c, h26, (hB 28 (by decide)).trans c28, by rw [h24]; exact s1, ?_, ?_, by rw [hA 334 (by decide), hA 335 (by decide)]; exact mv.2.2.2.1, fun i hi => ?_⟩
  · have : M1.2.2 = X.2.2 := by rw [e1]
    unfold Nr at *
    rw [this]
    omega
  · simp only [List.mem_cons, List.not_mem_nil, or_false] at ha ⊢; omega
  · simp only [List.mem_cons, List.not_mem_nil, or_false] at hi ⊢; omega
  · rw [h33]
    have := avX.ext akX (Or.inl rfl) e1 ⟨by rw [r1 257 (by omega)], by rw [r1 257 (by omega)]⟩ (fun a ha => r1 a (by omega))
    obtain ⟨x, b1, b2, b3, b4, b5⟩ := this
    exact ⟨x, b1, b2, b3, b4, fun i hi => ⟨(b5 i hi).1, (b5 i hi).2.sd (by omega)⟩⟩
  · have nv := mv.2.2.1
    unfold NtV at *
    rw [r1 257 (by omega), x7, r1 (257 + 2) (by omega), r1 (257 + 3) (by omega), r1 (257 + 4) (by omega), xr (257 + 2) (by omega) (by omega), xr (257 + 3) (by omega) (by omega), xr (257 + 4) (by omega) (by omega), hA 334 (by decide), hA 335 (by decide), hA 336 (by decide)]
    exact nv
  · rw [r1 (257 + 5) (by omega), xr (257 + 5) (by omega) (by omega), hA 328 (by decide)]
    exact mv.2.2.2.2 i hi
end
