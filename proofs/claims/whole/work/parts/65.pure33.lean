/-! ===== PURE 33: FIRST of the reference; NEEDED ===== -/
def Rf (M : Gm) (T N : Nat → Int32) (k : Nat) : Prop := Ky M ∧ TOk T ∧ NOk N T ∧ LgOk N k ∧ M.1 325 = T ∧ M.1 324 = N
/-- what a question leaves of the reference -/
def Rq (M M' : Gm) : Prop := M'.2 = M.2 ∧ (∀ b, b ∉ [319, 330, 331, 332, 337, 338] → M'.1 b = M.1 b) ∧ ∀ k, k ≠ 4 → k ≠ 25 → k ≠ 34 → M'.1 319 k = M.1 319 k
theorem Rq.rfl' (M : Gm) : Rq M M := ⟨rfl, fun _ _ => rfl, fun _ _ _ _ => rfl⟩
theorem Rq.trans {M M' M2 : Gm} (h : Rq M M') (g : Rq M' M2) : Rq M M2 := ⟨g.1.trans h.1, fun b e => (g.2.1 b e).trans (h.2.1 b e), fun k a b c => (g.2.2 k a b c).trans (h.2.2 k a b c)⟩
theorem Rf.q {M M' : Gm} {T N : Nat → Int32} {k : Nat} (r : Rf M T N k) (h : Rq M M') : Rf M' T N k := by
  obtain ⟨hM, hT, hN, hL, eT, eN⟩ := r
  exact ⟨hM.eq h.1, hT, hN, hL, (h.2.1 325 (by decide)).trans eT, (h.2.1 324 (by decide)).trans eN⟩
theorem m_min1 {M : Gm} {T N : Nat → Int32} {k : Nat} (hM : Ky M) (eT : M.1 325 = T) (eN : M.1 324 = N) (hT : TOk T) (hL : LgOk N k) (hk : k + 20 < 2147483647) : ∃ M', sh_X12_minute 319 M = some M' ∧ Fm [324, 330, 331] M M' ∧ M'.1 324 = mMinute T N := by
  subst eT eN
  exact m_minute hM hT hL hk
theorem mLogs_hi {N : Nat → Int32} {a b c : Int32} {k : Nat} (h : 305 ≤ k) : mLogs N a b c k = N k := by
  have := Nat.mod_lt (lg N) (show 0 < 40 by omega)
  unfold mLogs
  rw [ud_ne _ _ (by omega), ud_ne _ _ (by omega), ud_ne _ _ (by omega), ud_ne _ _ (by omega), ud_ne _ _ (by omega)]
theorem mTurn_hi {T N : Nat → Int32} {t k : Nat} (ht : t < 10) (h : 305 ≤ k) : mTurn T N t k = N k := by
  unfold mTurn
  split
  · rw [mLogs_hi h, ud_ne _ _ (by omega), ud_ne _ _ (by omega)]
  · split
    · rw [mLogs_hi h, ud_ne _ _ (by omega)]
    · rfl
theorem mShut_hi {T N : Nat → Int32} (hT : TOk T) {t k : Nat} (ht : t < tt T) (h : 305 ≤ k) : mShut T N t k = N k := by
  have hzn := (hT.zn ht).2
  have hz5 := hT.z.2
  unfold mShut
  split
  · split
    · rfl
    · split
      · rfl
      · unfold shutNow
        rw [mLogs_hi h, ud_ne _ _ (by omega), ud_ne _ _ (by omega)]
  · rfl
theorem mMinute_hi {T N : Nat → Int32} (hT : TOk T) {k : Nat} (h : 305 ≤ k) : mMinute T N k = N k := by
  have h10 := hT.t.2
  have h6 := hT.d.2
  have h5 := hT.z.2
  unfold mMinute
  show ud _ 142 _ k = _
  rw [ud_ne _ _ (by omega), itR_ne _ (fun R j hj => mShut_hi hT hj h), itR_ne _ (fun R j hj => mMove_ne (by omega)), itR_ne _ (fun R j hj => mWant_ne hT (by omega) (by omega)), itR_ne _ (fun R j hj => mTurn_hi (by omega) h), mReads_ne (by omega) _ h5, mHeats_ne hT (by omega)]
/-- in the midst of trying -/
def Tr (M M' : Gm) (N : Nat → Int32) : Prop := Fm [319, 324, 330, 331, 332, 337, 338] M M' ∧ M'.1 332 = mixR 305 N (M.1 332) ∧ (∀ k, k ≠ 25 → k ≠ 34 → M'.1 319 k = M.1 319 k) ∧ ∀ k, 305 ≤ k → M'.1 324 k = N k
theorem Tr.ky {M M' : Gm} {N : Nat → Int32} (h : Tr M M' N) (hM : Ky M) : Ky M' := hM.fm h.1
theorem Tr.told {M M' : Gm} {N : Nat → Int32} (h : Tr M M' N) : M'.1 325 = M.1 325 := h.1.2 325 (by decide)
theorem Tr.set {M M' : Gm} {N : Nat → Int32} (h : Tr M M' N) {k : Nat} (x : Int32) (hk : k = 25 ∨ k = 34) : Tr M (sI M' 319 k x) N :=
  ⟨h.1.set (by simp) _ _, by rw [sI_ne M' k x (by decide)]; exact h.2.1, fun j a b => by rw [sI_own, ud_ne _ _ (by omega)]; exact h.2.2.1 j a b, by rw [sI_ne M' k x (by decide)]; exact h.2.2.2⟩
theorem Tr.setN {M M' : Gm} {N : Nat → Int32} (h : Tr M M' N) {k : Nat} (x : Int32) (hk : k < 305) : Tr M (sI M' 324 k x) N :=
  ⟨h.1.set (by simp) _ _, by rw [sI_ne M' k x (by decide)]; exact h.2.1, fun j a b => by rw [sI_ne M' k x (by decide)]; exact h.2.2.1 j a b, fun j hj => by rw [sI_own, ud_ne _ _ (by omega)]; exact h.2.2.2 j hj⟩
theorem Tr.begin {M : Gm} {N : Nat → Int32} (eN : M.1 324 = N) : Tr M (wR M 332 (mixR 305 (M.1 324) (M.1 332))) N :=
  ⟨⟨rfl, fun b hb => wR_ne _ _ (fun e => hb (by rw [e]; decide))⟩, by rw [wR_own, eN], fun j _ _ => by rw [wR_ne _ _ (by decide)], fun j _ => by rw [wR_ne _ _ (by decide), eN]⟩
theorem Tr.min2 {M M' : Gm} {T N R : Nat → Int32} {k : Nat} (h : Tr M M' N) (hM : Ky M) (eT : M.1 325 = T) (hT : TOk T) (eR : M'.1 324 = R) (hL : LgOk R k) (hk : k + 20 < 2147483647) : ∃ M2, sh_X12_minute 319 M' = some M2 ∧ Tr M M2 N ∧ M2.1 324 = mMinute T R ∧ M2.1 319 = M'.1 319 ∧ M2.1 337 = M'.1 337 ∧ M2.1 338 = M'.1 338 := by
  obtain ⟨M2, b1, b2, b3⟩ := m_min1 (h.ky hM) (h.told.trans eT) eR hT hL hk
  have e9 : M2.1 319 = M'.1 319 := b2.2 319 (by decide)
  refine ⟨M2, b1, ⟨h.1.trans b2 (fun _ q => q) (by simp), (b2.2 332 (by decide)).trans h.2.1, fun j p q => by rw [e9]; exact h.2.2.1 j p q, fun j hj => ?_⟩, b3, e9, b2.2 337 (by decide), b2.2 338 (by decide)⟩
  rw [b3, mMinute_hi hT hj, ← eR]
  exact h.2.2.2 j hj
theorem Tr.min {M M' : Gm} {T N R : Nat → Int32} {k : Nat} (h : Tr M M' N) (hM : Ky M) (eT : M.1 325 = T) (hT : TOk T) (eR : M'.1 324 = R) (hL : LgOk R k) (hk : k + 20 < 2147483647) : ∃ M2, sh_X12_minute 319 M' = some M2 ∧ Tr M M2 N ∧ M2.1 324 = mMinute T R ∧ M2.1 319 = M'.1 319 := by
  obtain ⟨M2, b1, b2, b3, b4, -⟩ := h.min2 hM eT hT eR hL hk
  exact ⟨M2, b1, b2, b3, b4⟩
theorem Tr.setH {M M' : Gm} {N : Nat → Int32} (h : Tr M M' N) {a : Nat} (k : Nat) (x : Int32) (ha : a = 337 ∨ a = 338) : Tr M (sI M' a k x) N :=
  ⟨h.1.set (by rcases ha with e | e <;> subst e <;> simp) _ _, by rw [sI_ne M' k x (by omega)]; exact h.2.1, fun j p q => by rw [sI_ne M' k x (by omega)]; exact h.2.2.1 j p q, by rw [sI_ne M' k x (by omega)]; exact h.2.2.2⟩
theorem Tr.back2 {M M' : Gm} {N : Nat → Int32} (h : Tr M M' N) (hM : Ky M) (eN : M.1 324 = N) : ∃ M2, sh_X12_laysBack 319 M' = some M2 ∧ Rq M M2 ∧ M2.1 319 = M'.1 319 ∧ M2.1 337 = M'.1 337 ∧ M2.1 338 = M'.1 338 := by
  refine ⟨_, m_laysBack (h.ky hM), ⟨?_, fun b hb => ?_, fun k _ a b => ?_⟩, wR_ne _ _ (by decide), wR_ne _ _ (by decide), wR_ne _ _ (by decide)⟩
  · exact h.1.1
  · by_cases c : b = 324
    · subst c
      rw [wR_own, eN]
      funext k
      by_cases hk : k < 305
      · rw [mixR_lt hk, h.2.1, mixR_lt hk]
      · rw [mixR_ge (by omega)]; exact h.2.2.2 k (by omega)
    · rw [wR_ne _ _ c]
      exact h.1.2 b (fun e => hb (by simp only [List.mem_cons, List.not_mem_nil, or_false] at e ⊢; omega))
  · rw [wR_ne _ _ (by decide)]; exact h.2.2.1 k a b
theorem Tr.back {M M' : Gm} {N : Nat → Int32} (h : Tr M M' N) (hM : Ky M) (eN : M.1 324 = N) : ∃ M2, sh_X12_laysBack 319 M' = some M2 ∧ Rq M M2 ∧ M2.1 319 = M'.1 319 := by
  obtain ⟨M2, a, b, c, -⟩ := h.back2 hM eN
  exact ⟨M2, a, b, c⟩
theorem m_first {M : Gm} {T N : Nat → Int32} {k : Nat} (r : Rf M T N k) (hk : k < 2147470000) : ∃ e n M', sh_X12_first 319 M = some (e, M') ∧ Rq M M' ∧ Fst (more T N) e n ∧ FstZ (sb (mRun T N n)) (sb N) (tz T) (M'.1 319 25) ∧ M'.1 319 4 = M.1 319 4 := by
  obtain ⟨hM, hT, hN, hL, eT, eN⟩ := r
  have h5 := hT.z.2
  have t0 : Tr M (wR M 332 (mixR 305 (M.1 324) (M.1 332))) N := Tr.begin eN
  have e0 : (wR M 332 (mixR 305 (M.1 324) (M.1 332))).1 324 = N := (wR_ne _ _ (by decide)).trans eN
  have s0 := m_shutSet (t0.ky hM) hT (t0.told.trans eT) e0 hN
  have t1 := t0.set (k := 25) (-1) (Or.inl rfl)
  have e1 : (sI (wR M 332 (mixR 305 (M.1 324) (M.1 332))) 319 25 (-1)).1 324 = N := (sI_ne _ _ _ (by decide)).trans e0
  have z1 : (sI (wR M 332 (mixR 305 (M.1 324) (M.1 332))) 319 25 (-1)).1 319 25 = -1 := by rw [sI_own, ud_at]
  have p1 := m_P (t0.ky hM) 25 (-1)
  have tr := m_tries hM
  generalize wR M 332 (mixR 305 (M.1 324) (M.1 332)) = M0 at t0 e0 s0 t1 e1 z1 p1 tr
  generalize sI M0 319 25 (-1) = M1 at t1 e1 z1 p1
  have key : ∃ q, lp (X12_first_B18 319 (mkB (sb N) (tz T))) FU (-1, 1, M1) = some q ∧ ∃ n, Tr M q.2 N ∧ Fst (more T N) q.1 n ∧ FstZ (sb (mRun T N n)) (sb N) (tz T) (q.2.1 319 25) := by
    refine lp_inv (fun j q => (q.1 = -1 ∧ q.2.1 = Int32.ofNat (j + 1) ∧ Tr M q.2.2 N ∧ q.2.2.1 324 = mRun T N j ∧ q.2.2.1 319 25 = -1 ∧ ∀ i, 1 ≤ i → i ≤ j → ¬ more T N i) ∨
        (∃ n, (1 ≤ n ∧ n ≤ 200) ∧ q.1 = Int32.ofNat n ∧ Tr M q.2.2 N ∧ more T N n ∧ (∀ i, 1 ≤ i → i < n → ¬ more T N i) ∧ FstZ (sb (mRun T N n)) (sb N) (tz T) (q.2.2.1 319 25))) _ 200 ?_ ?_ (Or.inl ⟨rfl, rfl, t1, e1, z1, fun i h1 h2 => by omega⟩) (by omega)
    · rintro j ⟨f, i, Mj⟩ hj (⟨h1, h2, h3, h4, h5', h6⟩ | ⟨n, hn, h1, h2, h3, h4, h5'⟩)
      · replace h1 : f = -1 := h1
        replace h2 : i = Int32.ofNat (j + 1) := h2
        subst h1 h2
        obtain ⟨M2, b1, t2, b3, b9⟩ := h3.min hM eT hT h4 (Lg_run hT hL j (by omega)) (by omega)
        have b4 : M2.1 324 = mRun T N (j + 1) := b3
        have s2 := m_shutSet (t2.ky hM) hT (t2.told.trans eT) b4 (hN.run hT (j + 1))
        have c200 : ¬ (200 : Int32) < Int32.ofNat (j + 1) := by rw [show (200 : Int32) = Int32.ofNat 200 from rfl, lt_n (by omega) (by omega)]; omega
        by_cases c : more T N (j + 1)
        · have c' := (more_iff hT (j + 1)).mp c
          obtain ⟨z, g1, g2⟩ := mk_fst h5 M2 c'
          refine Or.inl ⟨(Int32.ofNat (j + 1), Int32.ofNat (j + 2), sI M2 319 25 z), ?_, Or.inr ⟨j + 1, by omega, rfl, t2.set (k := 25) z (Or.inl rfl), c, fun i g1 g2 => h6 i g1 (by omega), ?_⟩⟩
          · unfold X12_first_B18 X12_first_J63
            show (if (200 : Int32) < Int32.ofNat (j + 1) then _ else if (-1 : Int32) = -1 then _ else _) = _
            rw [if_neg c200, if_pos rfl]
            simp only [b1, s2, Option.bind_some]
            rw [if_neg c']
            simp only [g1, Option.bind_some, m_P (t2.ky hM), suc_n]
          · show FstZ _ _ _ ((sI M2 319 25 z).1 319 25)
            rw [sI_own, ud_at]
            exact g2
        · have c' : mkB (sb (mRun T N (j + 1))) (tz T) &&& (mkB (sb N) (tz T) ^^^ (-1)) = 0 := Classical.byContradiction fun q => c ((more_iff hT (j + 1)).mpr q)
          refine Or.inl ⟨(-1, Int32.ofNat (j + 2), M2), ?_, Or.inl ⟨rfl, rfl, t2, b4, ?_, fun i g1 g2 => ?_⟩⟩
          · unfold X12_first_B18 X12_first_J63
            show (if (200 : Int32) < Int32.ofNat (j + 1) then _ else if (-1 : Int32) = -1 then _ else _) = _
            rw [if_neg c200, if_pos rfl]
            simp only [b1, s2, Option.bind_some]
            rw [if_pos c']
            simp only [suc_n]
          · show M2.1 319 25 = -1
            rw [b9]; exact h5'
          · by_cases ei : i = j + 1
            · rw [ei]; exact c
            · exact h6 i g1 (by omega)
      · replace h1 : f = Int32.ofNat n := h1
        subst h1
        refine Or.inr ⟨(Int32.ofNat n, Mj), ?_, n, h2, Or.inr ⟨rfl, hn.1, hn.2, h3, h4⟩, h5'⟩
        unfold X12_first_B18
        show (if (200 : Int32) < i then some (Sum.inr (Int32.ofNat n, Mj)) else if Int32.ofNat n = -1 then _ else some (Sum.inr (Int32.ofNat n, Mj))) = _
        have : Int32.ofNat n ≠ -1 := fun q => by
          have := congrArg Int32.toInt q
          rw [tn n (by omega), show (-1 : Int32).toInt = -1 from rfl] at this
          omega
        rw [if_neg this, ite_self]
    · rintro ⟨f, i, Mj⟩ (⟨h1, h2, h3, h4, h5', h6⟩ | ⟨n, hn, h1, h2, h3, h4, h5'⟩)
      · replace h1 : f = -1 := h1
        replace h2 : i = Int32.ofNat 201 := h2
        subst h1 h2
        refine ⟨(-1, Mj), rfl, 200, h3, Or.inl ⟨rfl, rfl, h6⟩, Or.inl ⟨h5', ?_⟩⟩
        have := h6 200 (by omega) (by omega)
        rw [more_iff hT, Classical.not_not, mk_new h5] at this
        exact this
      · replace h1 : f = Int32.ofNat n := h1
        subst h1
        refine ⟨(Int32.ofNat n, Mj), ?_, n, h2, Or.inr ⟨rfl, hn.1, hn.2, h3, h4⟩, h5'⟩
        unfold X12_first_B18
        show (if (200 : Int32) < i then some (Sum.inr (Int32.ofNat n, Mj)) else if Int32.ofNat n = -1 then _ else some (Sum.inr (Int32.ofNat n, Mj))) = _
        have : Int32.ofNat n ≠ -1 := fun q => by
          have := congrArg Int32.toInt q
          rw [tn n (by omega), show (-1 : Int32).toInt = -1 from rfl] at this
          omega
        rw [if_neg this, ite_self]
  obtain ⟨⟨e, Mx⟩, k1, n, k2, k3, k4⟩ := key
  obtain ⟨M', b1, b2, b3⟩ := k2.back hM eN
  refine ⟨e, n, M', ?_, b2, k3, ?_, ?_⟩
  · unfold sh_X12_first X12_first_F X12_first_J69
    simp only [m_O hM, tr, s0, p1, k1, b1, Option.bind_some]
  · rw [b3]; exact k4
  · rw [b3]; exact k2.2.2.1 4 (by decide) (by decide)
/-! NEEDED -/
noncomputable def fstE (T N : Nat → Int32) : Int32 := haveI := Classical.propDecidable (∃ e n, Fst (more T N) e n); if h : ∃ e n, Fst (more T N) e n then Classical.choose h else -1
theorem Fst.e {T N : Nat → Int32} {e : Int32} {n : Nat} (h : Fst (more T N) e n) : e = fstE T N ∧ (e = -1 ∨ ∃ n, e = Int32.ofNat n ∧ n ≤ 200) := by
  refine ⟨?_, ?_⟩
  · unfold fstE
    rw [dif_pos ⟨e, n, h⟩]
    obtain ⟨n', h'⟩ := Classical.choose_spec (⟨e, n, h⟩ : ∃ e n, Fst (more T N) e n)
    exact (h.uq h').1
  · rcases h with ⟨a, -⟩ | ⟨a, -, b, -⟩
    · exact Or.inl a
    · exact Or.inr ⟨n, a, b⟩
/-- the told row with a DEVICE that doesn't cool -/
def coolless (T : Nat → Int32) (d : Nat) : Nat → Int32 := ud T (73 + d) 0
noncomputable def bestD (T N : Nat → Int32) : Nat → Int32 × Int32
  | 0 => (-1, 201)
  | d + 1 => if fstE (coolless T d) N = -1 then bestD T N d else if (bestD T N d).2 ≤ fstE (coolless T d) N then bestD T N d else (Int32.ofNat d, fstE (coolless T d) N)
theorem coolless_q (T : Nat → Int32) {d : Nat} (hd : d < 6) : Tq T (coolless T d) := fun k h1 h2 h3 => ud_ne _ _ (by omega)
theorem TOk.coolless {T : Nat → Int32} (hT : TOk T) {d : Nat} (hd : d < td T) : TOk (coolless T d) := by
  have h5 := hT.z.2
  have h6 := hT.d.2
  refine hT.q (coolless_q T (by omega)) (fun z hz => ?_) (fun d' hd' => ?_)
  · show isN (ud T (73 + d) 0 z) 1 50
    rw [ud_ne _ _ (by omega)]; exact (hT.2.1 z hz).1
  · show isN (ud T (73 + d) 0 (73 + d')) 0 30
    by_cases e : d' = d
    · rw [e, ud_at]; exact ⟨0, rfl, by omega, by omega⟩
    · rw [ud_ne _ _ (by omega)]; exact (hT.2.2.2.1 d' hd').2.2.2
theorem c_needed {M : Gm} {P P' k : Nat} {N T : Nat → Int32} (w : Wd M P T) (s : Sd M 263 P N T k) (t : StK M 304 P') (hk : k < 2147470000) : ∃ M', sh_X3_neededDevice 302 263 M = some ((bestD T N (td T)).1, M') ∧ Ft M M' := by
  have hT := w.2.2.2.2.2.1
  have h6 := hT.d
  have key : ∃ r, lp (X3_neededDevice_B9 302 263) FU (-1, 201, 0, M) = some r ∧ r.1 = (bestD T N (td T)).1 ∧ Ft M r.2 := by
    refine lp_inv (fun j q => (q.1 = (bestD T N j).1 ∧ q.2.1 = (bestD T N j).2 ∧ q.2.2.1 = Int32.ofNat j) ∧ Ft M q.2.2.2 ∧ ∃ P', StK q.2.2.2 304 P') _ (td T) ?_ ?_ ⟨⟨rfl, rfl, rfl⟩, Ft.rfl' _, P', t⟩ (by omega)
    · rintro j ⟨b, l, i, M1⟩ hj ⟨⟨h1, h2, h3⟩, h4, P1, h5⟩
      replace h1 : b = (bestD T N j).1 := h1
      replace h2 : l = (bestD T N j).2 := h2
      replace h3 : i = Int32.ofNat j := h3
      subst h1 h2 h3
      replace h4 : Ft M M1 := h4
      replace h5 : StK M1 304 P1 := h5
      have w1 := w.ft h4
      have s1 := s.ft h4 (by decide)
      obtain ⟨M2, a1, a2, a3⟩ := c_try w1 s1 (by decide) h5
      have w2 := w1.ft a2
      have f3 : Ft M2 (sI M2 316 j 0) := (Ft.rfl' M2).set (by omega) _ _
      have w3 := w2.ft f3
      have hT' := hT.coolless hj
      have w4 : Wd (sI M2 316 j 0) P (coolless T j) := ⟨w3.1, w3.2.1, w3.2.2.1, w3.2.2.2.1, w3.2.2.2.2.1, hT', w3.2.2.2.2.2.2.q hT (coolless_q T (by omega))⟩
      have sv : StV (sI M2 316 j 0) 304 N T ∨ True := Or.inr trivial
      have s4 : Sd (sI M2 316 j 0) 304 P N (coolless T j) k := by
        obtain ⟨q1, q2, q3, q4, q5⟩ := a3
        refine ⟨q1.sI _ _ _, q2, ?_, q4.q hT (coolless_q T (by omega)) (fun _ _ => rfl), q5⟩
        have hz5 := hT.z.2
        have g : ∀ b, b ≠ 316 → (sI M2 316 j 0).1 b = M2.1 b := fun b hb => sI_ne _ _ _ hb
        obtain ⟨c1, c2, c3, c4, c5, c6, c7⟩ := q3
        have Q := coolless_q T (d := j) (by omega)
        unfold StV
        rw [tq_tz Q, tq_tt Q, tq_td Q]
        refine ⟨?_, fun z hz => ?_, fun z i hz hi => ?_, fun u hu => ?_, fun d hd => ?_, fun u i hu hi => ?_, fun i hi => ?_⟩
        · rw [g 304 (by decide)]; exact c1
        · rw [g _ (by decide), g _ (by decide), g _ (by decide), g _ (by decide), g _ (by decide), g _ (by decide), show coolless T j z = T z from ud_ne _ _ (by omega)]; exact c2 z hz
        · rw [g _ (by decide)]; exact c3 z i hz hi
        · rw [g _ (by decide), g _ (by decide)]; exact c4 u hu
        · rw [g _ (by decide), g _ (by decide)]
          refine ⟨(c5 d hd).1, (c5 d hd).2.1, ?_⟩
          show (sI M2 316 j 0).1 316 d = ud T (73 + j) 0 (73 + d)
          rw [sI_own]
          by_cases e : d = j
          · rw [e, ud_at, ud_at]
          · rw [ud_ne _ _ e, ud_ne _ _ (by omega)]; exact (c5 d hd).2.2
        · have h10 := hT.t.2
          rw [tq_dl Q (by omega)] at hi
          rw [g _ (by decide), tq_fb Q _ (by omega), tq_di Q (by omega)]; exact c6 u i hu hi
        · rw [g _ (by decide)]; exact c7 i hi
      obtain ⟨e, n, M5, b1, b2, b3, b4⟩ := c_until w4 s4 hk
      have fe := b4.e
      have hP1 : StK M5 304 P := b3.1
      have e7 : M1.1 P 7 = Int32.ofNat (td T) := w1.2.2.2.2.2.2.1.2.2.1.trans h6.1
      have stp : X3_neededDevice_B9 302 263 ((bestD T N j).1, (bestD T N j).2, Int32.ofNat j, M1) = some (.inl ((bestD T N (j + 1)).1, (bestD T N (j + 1)).2, Int32.ofNat (j + 1), M5)) := by
        unfold X3_neededDevice_B9 X3_neededDevice_J64
        have st : stA M2 0 (304 + 12) (Int32.ofNat j) 0 = some (sI M2 316 j 0) := ss12 a3.1 0 (by omega)
        simp (disch := omega) only [s_plan s1.1, pg_I w1.2.2.2.1, e7, Option.bind_some, le_n, f_trial w1.1 w1.2.2.1, a1, f_trial w2.1 w2.2.2.1, s_cool a3.1, st, b1, suc_n]
        rw [if_neg (by omega), fe.1]
        show _ = some (Sum.inl ((if fstE (coolless T j) N = -1 then bestD T N j else if (bestD T N j).2 ≤ fstE (coolless T j) N then bestD T N j else (Int32.ofNat j, fstE (coolless T j) N)).1, (if fstE (coolless T j) N = -1 then bestD T N j else if (bestD T N j).2 ≤ fstE (coolless T j) N then bestD T N j else (Int32.ofNat j, fstE (coolless T j) N)).2, _, _))
        split
        · rfl
        · split <;> rfl
      exact Or.inl ⟨_, stp, ⟨rfl, rfl, rfl⟩, h4.trans (a2.trans (f3.trans b2)), P, hP1⟩
    · rintro ⟨b, l, i, M1⟩ ⟨⟨h1, h2, h3⟩, h4, P1, h5⟩
      replace h3 : i = Int32.ofNat (td T) := h3
      subst h3
      replace h4 : Ft M M1 := h4
      have w1 := w.ft h4
      have s1 := s.ft h4 (by decide)
      have e7 : M1.1 P 7 = Int32.ofNat (td T) := w1.2.2.2.2.2.2.1.2.2.1.trans h6.1
      refine ⟨(b, M1), ?_, h1, h4⟩
      unfold X3_neededDevice_B9
      simp (disch := omega) only [s_plan s1.1, pg_I w1.2.2.2.1, e7, Option.bind_some, le_n]
      rw [if_pos (Nat.le_refl _)]
  obtain ⟨⟨b, M'⟩, k1, k2, k3⟩ := key
  replace k2 : b = _ := k2
  subst k2
  refine ⟨M', ?_, k3⟩
  unfold sh_X3_neededDevice X3_neededDevice_F
  simp only [f_O w.1, Option.bind_some, k1]
theorem m_needed {M : Gm} {T N : Nat → Int32} {k : Nat} (r : Rf M T N k) (hk : k < 2147470000) : ∃ M', sh_X12_neededNow 319 M = some ((bestD T N (td T)).1, M') ∧ Rq M M' ∧ M'.1 319 4 = M.1 319 4 := by
  have r0 := r
  obtain ⟨hM, hT, hN, hL, eT, eN⟩ := r
  have h6 := hT.d
  have h5 := hT.z.2
  have key : ∃ q, lp (X12_neededNow_B6 319) FU (-1, 0, 0, M) = some q ∧ q.1 = (bestD T N (td T)).1 ∧ Rq M q.2 ∧ q.2.1 319 4 = M.1 319 4 := by
    refine lp_inv (fun j q => (q.1 = (bestD T N j).1 ∧ q.2.2.1 = Int32.ofNat j ∧ ((q.1 = -1 ∧ (bestD T N j).2 = 201) ∨ (q.1 ≠ -1 ∧ q.2.1 = (bestD T N j).2))) ∧ Rq M q.2.2.2 ∧ q.2.2.2.1 319 4 = M.1 319 4) _ (td T) ?_ ?_ ⟨⟨rfl, rfl, Or.inl ⟨rfl, rfl⟩⟩, Rq.rfl' _, rfl⟩ (by omega)
    · rintro j ⟨b, l, i, M1⟩ hj ⟨⟨h1, h3, h2⟩, h4, h4'⟩
      replace h1 : b = (bestD T N j).1 := h1
      replace h3 : i = Int32.ofNat j := h3
      subst h3
      replace h4 : Rq M M1 := h4
      replace h4' : M1.1 319 4 = M.1 319 4 := h4'
      have r1 := r0.q h4
      have hM1 := r1.1
      have eT1 : M1.1 325 = T := r1.2.2.2.2.1
      have hT' := hT.coolless hj
      have r2 : Rf (sI M1 325 (73 + j) 0) (coolless T j) N k := ⟨hM1.sI _ _ _, hT', hN.q hT (coolless_q T (by omega)) (fun _ _ => rfl), hL, by rw [sI_own, eT1]; rfl, by rw [sI_ne _ _ _ (by decide)]; exact r1.2.2.2.2.2⟩
      obtain ⟨e, n, M3, b1, b2, b3, b4, b5⟩ := m_first r2 hk
      have fe := b3.e
      have hM3 : Ky M3 := (hM1.sI _ _ _).eq b2.1
      have e3 : M3.1 325 = coolless T j := (b2.2.1 325 (by decide)).trans (by rw [sI_own, eT1]; rfl)
      have q4 : Rq M (sI M3 325 (73 + j) (T (73 + j))) := by
        refine h4.trans ⟨b2.1, fun c hc => ?_, fun m p1 p2 p3 => ?_⟩
        · by_cases ec : c = 325
          · subst ec
            rw [sI_own, e3, eT1]
            funext m
            unfold coolless ud
            by_cases em : m = 73 + j
            · rw [if_pos em, em]
            · rw [if_neg em, if_neg em]
          · rw [sI_ne _ _ _ ec, b2.2.1 c hc, sI_ne _ _ _ ec]
        · rw [sI_ne _ _ _ (by decide), b2.2.2 m p1 p2 p3, sI_ne _ _ _ (by decide)]
      have q5 : (sI M3 325 (73 + j) (T (73 + j))).1 319 4 = M.1 319 4 := by rw [sI_ne _ _ _ (by decide), b5, sI_ne _ _ _ (by decide)]; exact h4'
      have stp : ∃ l', X12_neededNow_B6 319 (b, l, Int32.ofNat j, M1) = some (.inl ((bestD T N (j + 1)).1, l', Int32.ofNat (j + 1), sI M3 325 (73 + j) (T (73 + j)))) ∧ (((bestD T N (j + 1)).1 = -1 ∧ (bestD T N (j + 1)).2 = 201) ∨ ((bestD T N (j + 1)).1 ≠ -1 ∧ l' = (bestD T N (j + 1)).2)) := by
        have e5 : M1.1 325 165 = Int32.ofNat (td T) := by rw [eT1]; exact h6.1
        have st1 : stA M1 0 325 (Int32.ofNat (73 + j)) 0 = some (sI M1 325 (73 + j) 0) := st325 hM1 0 (by omega)
        have st2 : ∀ x, stA M3 0 325 (Int32.ofNat (73 + j)) x = some (sI M3 325 (73 + j) x) := fun x => st325 hM3 x (by omega)
        have nj : Int32.ofNat j ≠ -1 := fun q => by
          have := congrArg Int32.toInt q
          rw [tn j (by omega), show (-1 : Int32).toInt = -1 from rfl] at this
          omega
        unfold X12_neededNow_B6 X12_neededNow_J72 X12_neededNow_J77
        simp (disch := omega) only [m_devices hM1, e5, Option.bind_some, le_n, m_told hM1, ix73, ld325 hM1, st1, b1, m_told hM3, st2, suc_n, eT1]
        rw [if_neg (by omega), fe.1]
        have eB : bestD T N (j + 1) = if fstE (coolless T j) N = -1 then bestD T N j else if (bestD T N j).2 ≤ fstE (coolless T j) N then bestD T N j else (Int32.ofNat j, fstE (coolless T j) N) := rfl
        rw [eB]
        by_cases c1 : fstE (coolless T j) N = -1
        · rw [if_pos c1, if_pos c1]
          exact ⟨l, by rw [h1], by rw [← h1]; exact h2⟩
        · rw [if_neg c1, if_neg c1]
          rcases h2 with ⟨g1, g2⟩ | ⟨g1, g2⟩
          · replace g1 : b = -1 := g1
            rw [if_pos g1, g2, if_neg]
            · exact ⟨_, rfl, Or.inr ⟨nj, rfl⟩⟩
            · rcases fe.2 with q | ⟨m, q1, q2⟩
              · exact absurd (fe.1.symm.trans q) c1
              · rw [← fe.1, q1, show (201 : Int32) = Int32.ofNat 201 from rfl, le_n (by omega) (by omega)]; omega
          · replace g1 : b ≠ -1 := g1
            replace g2 : l = (bestD T N j).2 := g2
            rw [if_neg g1, g2]
            by_cases c2 : fstE (coolless T j) N < (bestD T N j).2
            · rw [if_pos c2, if_neg (by rw [tI_lt] at c2; rw [tI_le]; omega)]
              exact ⟨_, rfl, Or.inr ⟨nj, rfl⟩⟩
            · rw [if_neg c2, if_pos (by rw [tI_lt] at c2; rw [tI_le]; omega)]
              exact ⟨_, by rw [h1], Or.inr ⟨by rw [← h1]; exact g1, rfl⟩⟩
      obtain ⟨l', g1, g2⟩ := stp
      exact Or.inl ⟨_, g1, ⟨rfl, rfl, g2⟩, q4, q5⟩
    · rintro ⟨b, l, i, M1⟩ ⟨⟨h1, h3, h2⟩, h4, h4'⟩
      replace h3 : i = Int32.ofNat (td T) := h3
      subst h3
      replace h4 : Rq M M1 := h4
      have r1 := r0.q h4
      have e5 : M1.1 325 165 = Int32.ofNat (td T) := by rw [r1.2.2.2.2.1]; exact h6.1
      refine ⟨(b, M1), ?_, h1, h4, h4'⟩
      unfold X12_neededNow_B6
      simp (disch := omega) only [m_devices r1.1, e5, Option.bind_some, le_n]
      rw [if_pos (Nat.le_refl _)]
  obtain ⟨⟨b, M'⟩, k1, k2, k3, k4⟩ := key
  replace k2 : b = _ := k2
  subst k2
  refine ⟨M', ?_, k3, k4⟩
  unfold sh_X12_neededNow X12_neededNow_F
  simp only [m_O hM, Option.bind_some, k1]
