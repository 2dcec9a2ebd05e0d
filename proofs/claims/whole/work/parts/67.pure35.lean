/-! ===== PURE 35: AGAIN of the reference ===== -/
/-- a loop that gathers whether all hold -/
theorem lp_and {B : Int32 × Int32 → Option ((Int32 × Int32) ⊕ Int32)} (p : Nat → Prop) (a n : Nat) (A : Prop)
    (hs : ∀ j A', j < n → B (bI A', Int32.ofNat (a + j)) = some (.inl (bI (A' ∧ p j), Int32.ofNat (a + j + 1)))) (hE : ∀ A', B (bI A', Int32.ofNat (a + n)) = some (.inr (bI A'))) (hn : n < 20000) : lp B FU (bI A, Int32.ofNat a) = some (bI (A ∧ ∀ j, j < n → p j)) := by
  have h0 : (bI A, Int32.ofNat a) = (fun j => (bI (A ∧ ∀ i, i < j → p i), Int32.ofNat (a + j))) 0 := by
    show _ = (bI (A ∧ ∀ i, i < 0 → p i), Int32.ofNat (a + 0))
    rw [bI_c (show A ↔ (A ∧ ∀ i, i < 0 → p i) from ⟨fun h => ⟨h, fun i hi => by omega⟩, fun h => h.1⟩)]
    rfl
  rw [h0]
  refine lp_for (fun j => (bI (A ∧ ∀ i, i < j → p i), Int32.ofNat (a + j))) _ n (fun j hj => ?_) (hE _) hn
  show B (bI _, Int32.ofNat (a + j)) = some (.inl (bI _, Int32.ofNat (a + (j + 1))))
  rw [hs j _ hj, bI_c (show ((A ∧ ∀ i, i < j → p i) ∧ p j) ↔ (A ∧ ∀ i, i < j + 1 → p i) from ⟨fun h => ⟨h.1.1, fun i hi => ?_⟩, fun h => ⟨⟨h.1, fun i hi => h.2 i (by omega)⟩, h.2 j (by omega)⟩⟩)]
  · rfl
  · by_cases e : i = j
    · rw [e]; exact h.2
    · exact h.1.2 i (by omega)
theorem and_if {p q : Prop} [Decidable q] : (if bI p = 0 then (0 : Int32) else if q then 1 else 0) = bI (p ∧ q) := by
  by_cases hp : p
  · rw [bI_t hp, if_neg (by decide)]
    by_cases hq : q
    · rw [if_pos hq, bI_t ⟨hp, hq⟩]
    · rw [if_neg hq, bI_f (fun x => hq x.2)]
  · rw [bI_f hp, if_pos rfl, bI_f (fun x => hp x.1)]
section
variable {M : Gm} {T N R X : Nat → Int32}
/-- what the reference compares of a ZONE's readings -/
def rdA (T N R : Nat → Int32) (z k : Nat) : Prop := (T (5 + z) = 3 ∧ 0 < k) ∨ R (30 + 4 * z + k) = N (30 + 4 * z + k)
theorem rdA_win (hT : TOk T) {z : Nat} (hz : z < tz T) : (∀ k, k < (T (10 + z)).toNatClampNeg → rdA T N R z k) ↔ ∀ i, i < win T z → R (30 + 4 * z + i) = N (30 + 4 * z + i) := by
  obtain ⟨-, b2, b3, b4⟩ := hT.2.1 z hz
  have b3' := isN_nn b3 (by omega)
  have c3 : (T (5 + z) = 1 ∨ T (5 + z) = 2) → ¬ T (5 + z) = 3 := by rintro (q | q) <;> rw [q] <;> decide
  unfold rdA win
  by_cases c : T (5 + z) = 1 ∨ T (5 + z) = 2
  · rw [if_pos c]
    exact ⟨fun h i hi => (h i hi).resolve_left (fun q => c3 c q.1), fun h k hk => Or.inr (h k hk)⟩
  · rw [if_neg c]
    have c0 : T (5 + z) = 0 ∨ T (5 + z) = 3 := by
      obtain ⟨n, e, -, h3⟩ := b2
      rw [e] at c ⊢
      match n, h3 with
      | 0, _ => exact Or.inl rfl
      | 1, _ => exact absurd (Or.inl rfl) c
      | 2, _ => exact absurd (Or.inr rfl) c
      | 3, _ => exact Or.inr rfl
      | n + 4, h => omega
    refine ⟨fun h i hi => ?_, fun h k hk => ?_⟩
    · have := h i (by omega)
      exact this.resolve_left (fun q => by omega)
    · rcases c0 with c0 | c0
      · have h1 : (T (10 + z)).toNatClampNeg = 1 := by rw [b4 c0]; rfl
        exact Or.inr (h k (by omega))
      · by_cases e : k = 0
        · exact Or.inr (h k (by omega))
        · exact Or.inl ⟨c0, by omega⟩
theorem m_agR (hM : Ky M) (hT : TOk T) (eT : M.1 325 = T) (eR : M.1 324 = R) (eN : M.1 332 = mixR 305 N X) {z : Nat} (hz : z < tz T) (A : Prop) : lp (X12_isAgain_B85 319 (Int32.ofNat z) M) FU (bI A, 0) = some (bI (A ∧ ∀ k, k < (T (10 + z)).toNatClampNeg → rdA T N R z k)) := by
  have h5 := hT.z.2
  have hd := isN_nn (hT.2.1 z hz).2.2.1 (by omega)
  refine lp_and (rdA T N R z) 0 (T (10 + z)).toNatClampNeg A (fun j A' hj => ?_) (fun A' => ?_) (by omega)
  · unfold X12_isAgain_B85 X12_isAgain_J118 X12_isAgain_J144 X12_isAgain_J140 X12_isAgain_J145
    have e0 : (0 : Int32) < Int32.ofNat j ↔ 0 < j := by rw [show (0 : Int32) = Int32.ofNat 0 from rfl, lt_n (by omega) (by omega)]
    rw [Nat.zero_add]
    simp (disch := omega) only [m_told hM, m_then hM, ix10, ix5, ld325 hM, Option.bind_some, eT, mu4, ix30, ad_n, m_read hM, ld332 hM, suc_n, eR, eN, mixR_lt, e0]
    rw [if_neg (show ¬ T (10 + z) ≤ Int32.ofNat j by rw [hd.1, le_n (by omega) (by omega)]; omega)]
    by_cases hA : A'
    · rw [bI_t hA, if_neg (by decide)]
      by_cases c3 : T (5 + z) = 3
      · rw [if_pos c3]
        by_cases cj : 0 < j
        · rw [if_pos cj, bI_t ⟨hA, Or.inl ⟨c3, cj⟩⟩]
        · rw [if_neg cj]
          by_cases cr : R (30 + 4 * z + j) = N (30 + 4 * z + j)
          · rw [if_pos cr, bI_t ⟨hA, Or.inr cr⟩]
          · rw [if_neg cr, bI_f (fun q => q.2.elim (fun x => cj x.2) cr)]
      · rw [if_neg c3]
        by_cases cr : R (30 + 4 * z + j) = N (30 + 4 * z + j)
        · rw [if_pos cr, bI_t ⟨hA, Or.inr cr⟩]
        · rw [if_neg cr, bI_f (fun q => q.2.elim (fun x => c3 x.1) cr)]
    · rw [bI_f hA, if_pos rfl, bI_f (fun q => hA q.1)]
  · unfold X12_isAgain_B85
    rw [Nat.zero_add]
    simp (disch := omega) only [m_told hM, ix10, ld325 hM, Option.bind_some, eT]
    rw [← hd.1, if_pos (Int32.le_refl _)]
def agZ (T N R : Nat → Int32) (z : Nat) : Prop := (R z = N z ∧ R (10 + z) = N (10 + z) ∧ R (20 + z) = N (20 + z)) ∧ ∀ k, k < (T (10 + z)).toNatClampNeg → rdA T N R z k
theorem m_agZ (hM : Ky M) (hT : TOk T) (eT : M.1 325 = T) (eR : M.1 324 = R) (eN : M.1 332 = mixR 305 N X) : lp (X12_isAgain_B4 319 M) FU (1, 0) = some (bI (∀ z, z < tz T → agZ T N R z)) := by
  have h5 := hT.z
  have key := lp_and (B := X12_isAgain_B4 319 M) (agZ T N R) 0 (tz T) True (fun j A' hj => ?_) (fun A' => ?_) (by omega)
  · rw [bI_t trivial] at key
    rw [show ((1, 0) : Int32 × Int32) = (1, Int32.ofNat 0) from rfl, key, bI_c (show (True ∧ ∀ j, j < tz T → agZ T N R j) ↔ _ from ⟨fun h => h.2, fun h => ⟨trivial, h⟩⟩)]
  · have hR : ∀ A, lp (X12_isAgain_B85 319 (Int32.ofNat j) M) FU (bI A, 0) = some (bI (A ∧ ∀ k, k < (T (10 + j)).toNatClampNeg → rdA T N R j k)) := fun A => m_agR hM hT eT eR eN hj A
    have r0 := hR False
    have r1 := hR True
    rw [bI_f (fun q => q), bI_f (fun q => q.1)] at r0
    rw [bI_t trivial] at r1
    unfold X12_isAgain_B4 X12_isAgain_J81 X12_isAgain_J82
    rw [Nat.zero_add]
    simp (disch := omega) only [m_zones hM, eT, h5.1, le_n, m_now hM, m_then hM, ix0, ix10, ix20, ld324 hM, ld332 hM, Option.bind_some, eR, eN, mixR_lt, suc_n, Nat.zero_add, r0, r1]
    rw [if_neg (by omega)]
    by_cases hA : A'
    · rw [bI_t hA, if_neg (by decide)]
      by_cases c1 : R j = N j
      · rw [if_pos c1]
        by_cases c2 : R (10 + j) = N (10 + j)
        · rw [if_pos c2]
          by_cases c3 : R (20 + j) = N (20 + j)
          · rw [if_pos c3, bI_c (show (True ∧ ∀ k, k < (T (10 + j)).toNatClampNeg → rdA T N R j k) ↔ (A' ∧ agZ T N R j) from ⟨fun h => ⟨hA, ⟨c1, c2, c3⟩, h.2⟩, fun h => ⟨trivial, h.2.2⟩⟩)]
          · rw [if_neg c3, bI_f (fun q => c3 q.2.1.2.2)]
        · rw [if_neg c2, bI_f (fun q => c2 q.2.1.2.1)]
      · rw [if_neg c1, bI_f (fun q => c1 q.2.1.1)]
    · rw [bI_f hA, if_pos rfl, bI_f (fun q => hA q.1)]
  · unfold X12_isAgain_B4
    rw [Nat.zero_add]
    simp (disch := omega) only [m_zones hM, eT, h5.1, le_n, Option.bind_some]
    rw [if_pos (Nat.le_refl _)]
theorem m_agT (hM : Ky M) (hT : TOk T) (eT : M.1 325 = T) (eR : M.1 324 = R) (eN : M.1 332 = mixR 305 N X) (A : Prop) : lp (X12_isAgain_B160 319 M) FU (bI A, 0) = some (bI (A ∧ ∀ t, t < tt T → R (50 + t) = N (50 + t))) := by
  have h5 := hT.t
  refine lp_and (fun t => R (50 + t) = N (50 + t)) 0 (tt T) A (fun j A' hj => ?_) (fun A' => ?_) (by omega)
  · unfold X12_isAgain_B160 X12_isAgain_J197 X12_isAgain_J198
    rw [Nat.zero_add]
    simp (disch := omega) only [m_trips hM, eT, h5.1, le_n, m_now hM, m_then hM, ix50, ld324 hM, ld332 hM, Option.bind_some, eR, eN, mixR_lt, suc_n]
    rw [if_neg (by omega), ← and_if]
    split
    · rfl
    · split <;> rfl
  · unfold X12_isAgain_B160
    rw [Nat.zero_add]
    simp (disch := omega) only [m_trips hM, eT, h5.1, le_n, Option.bind_some]
    rw [if_pos (Nat.le_refl _)]
theorem m_agD (hM : Ky M) (hT : TOk T) (eT : M.1 325 = T) (eR : M.1 324 = R) (eN : M.1 332 = mixR 305 N X) (A : Prop) : lp (X12_isAgain_B207 319 M) FU (bI A, 0) = some (bI (A ∧ ∀ t, t < td T → R (70 + t) = N (70 + t))) := by
  have h5 := hT.d
  refine lp_and (fun t => R (70 + t) = N (70 + t)) 0 (td T) A (fun j A' hj => ?_) (fun A' => ?_) (by omega)
  · unfold X12_isAgain_B207 X12_isAgain_J244 X12_isAgain_J245
    rw [Nat.zero_add]
    simp (disch := omega) only [m_devices hM, eT, h5.1, le_n, m_now hM, m_then hM, ix70, ld324 hM, ld332 hM, Option.bind_some, eR, eN, mixR_lt, suc_n]
    rw [if_neg (by omega), ← and_if]
    split
    · rfl
    · split <;> rfl
  · unfold X12_isAgain_B207
    rw [Nat.zero_add]
    simp (disch := omega) only [m_devices hM, eT, h5.1, le_n, Option.bind_some]
    rw [if_pos (Nat.le_refl _)]
theorem m_agW (hM : Ky M) (eR : M.1 324 = R) (eN : M.1 332 = mixR 305 N X) (A : Prop) : lp (X12_isAgain_B255 319 M) FU (bI A, 82) = some (bI (A ∧ ∀ t, t < 60 → R (82 + t) = N (82 + t))) := by
  have key : ∃ e, lp (X12_isAgain_B255 319 M) FU (bI A, 82) = some e ∧ e = bI (A ∧ ∀ t, t < 60 → R (82 + t) = N (82 + t)) := by
    refine lp_inv (fun j q => q.1 = bI (A ∧ ∀ t, t < j → R (82 + t) = N (82 + t)) ∧ q.2 = Int32.ofNat (82 + j)) _ 60 ?_ ?_ ⟨bI_c ⟨fun h => ⟨h, fun t ht => by omega⟩, fun h => h.1⟩, rfl⟩ (by omega)
    · rintro j ⟨b, i⟩ hj ⟨h1, h2⟩
      replace h1 : b = _ := h1
      replace h2 : i = _ := h2
      subst h1 h2
      by_cases c : A ∧ ∀ t, t < j → R (82 + t) = N (82 + t)
      · refine Or.inl ⟨(bI (A ∧ ∀ t, t < j + 1 → R (82 + t) = N (82 + t)), Int32.ofNat (82 + (j + 1))), ?_, rfl, rfl⟩
        unfold X12_isAgain_B255 X12_isAgain_J286
        rw [show (142 : Int32) = Int32.ofNat 142 from rfl]
        simp (disch := omega) only [le_n, m_now hM, m_then hM, ld324 hM, ld332 hM, Option.bind_some, eR, eN, mixR_lt, suc_n]
        rw [if_neg (by omega), bI_t c, if_neg (by decide)]
        by_cases d : R (82 + j) = N (82 + j)
        · have d' : A ∧ ∀ t, t < j + 1 → R (82 + t) = N (82 + t) := ⟨c.1, fun t ht => by
            by_cases e : t = j
            · rw [e]; exact d
            · exact c.2 t (by omega)⟩
          rw [if_pos d, bI_t d']
          rfl
        · rw [if_neg d, bI_f (fun q => d (q.2 j (by omega)))]
          rfl
      · refine Or.inr ⟨bI (A ∧ ∀ t, t < 60 → R (82 + t) = N (82 + t)), ?_, rfl⟩
        unfold X12_isAgain_B255
        rw [show (142 : Int32) = Int32.ofNat 142 from rfl]
        simp (disch := omega) only [le_n]
        rw [if_neg (by omega), bI_f c, if_pos rfl, bI_f (fun q => c ⟨q.1, fun t ht => q.2 t (by omega)⟩)]
    · rintro ⟨b, i⟩ ⟨h1, h2⟩
      replace h1 : b = _ := h1
      replace h2 : i = _ := h2
      subst h1 h2
      exact ⟨_, rfl, rfl⟩
  obtain ⟨e, k1, k2⟩ := key
  rw [k1, k2]
theorem m_isAgain (hM : Ky M) (hT : TOk T) (eT : M.1 325 = T) (eR : M.1 324 = R) (eN : M.1 332 = mixR 305 N X) (hN : NOk N T) (hR : NOk R T) : sh_X12_isAgain 319 M = some (bI (lk T N R)) := by
  have ht := hT.t.2
  have hd := hT.d.2
  unfold sh_X12_isAgain X12_isAgain_F X12_isAgain_J293
  simp only [m_O hM, m_agZ hM hT eT eR eN, m_agT hM hT eT eR eN, m_agD hM hT eT eR eN, m_agW hM eR eN, Option.bind_some, zck_b]
  congr 1
  apply bI_c
  unfold lk
  have z1 : (∀ z, z < tz T → agZ T N R z) ↔ (∀ z, z < tz T → R z = N z) ∧ (∀ z, z < tz T → R (20 + z) = N (20 + z)) ∧ ∀ z, z < tz T → lkZ T N R z := by
    have sbE : ∀ z, z < tz T → (R (10 + z) = N (10 + z) ↔ sb R z = sb N z) := fun z hz => by
      refine ⟨fun h => by unfold sb; rw [h], fun h => by rw [hR.sh hz, hN.sh hz, h]⟩
    refine ⟨fun h => ⟨fun z hz => (h z hz).1.1, fun z hz => (h z hz).1.2.2, fun z hz => ⟨(sbE z hz).mp (h z hz).1.2.1, (rdA_win hT hz).mp (h z hz).2⟩⟩, fun h z hz => ⟨⟨h.1 z hz, (sbE z hz).mpr (h.2.2 z hz).1, h.2.1 z hz⟩, (rdA_win hT hz).mpr (h.2.2 z hz).2⟩⟩
  have w1 : (∀ t, t < 60 → R (82 + t) = N (82 + t)) ↔ ∀ t i, t < tt T → i < (dl T t).length → R (82 + 6 * t + di T t i) = N (82 + 6 * t + di T t i) := by
    refine ⟨fun h t i h1 h2 => ?_, fun h b hb => ?_⟩
    · have := di_ok hT (t := t) (by omega) h2
      rw [Nat.add_assoc]
      exact h _ (by omega)
    · have e : 82 + b = 82 + 6 * (b / 6) + b % 6 := by omega
      rw [e]
      by_cases c : wn T (b / 6) (b % 6) = 0
      · rw [(hR.2.2.2.2.1 (b / 6) (b % 6) (by omega) (by omega)).2.1 c, (hN.2.2.2.2.1 (b / 6) (b % 6) (by omega) (by omega)).2.1 c]
      · have hm : b % 6 ∈ dl T (b / 6) := ((dl_ok hT (by omega)).2 _).mpr ⟨by omega, c⟩
        obtain ⟨i, hi, ei⟩ := List.getElem_of_mem hm
        have ed : di T (b / 6) i = b % 6 := (di_get hi).trans ei
        have hw : T (79 + 6 * (b / 6) + b % 6) ≠ 0 := fun q => c (by unfold wn; rw [q]; rfl)
        have := h (b / 6) i ((hT.2.2.2.2.1 (b / 6) (b % 6) (by omega) (by omega)).2 hw).1 hi
        rw [ed] at this
        exact this
  rw [z1, w1]
  simp only [and_assoc]
theorem m_again {k : Nat} (r : Rf M T N k) (hk : k < 2147470000) : ∃ e n M', sh_X12_again 319 M = some (e, M') ∧ Rq M M' ∧ Fst (fun n => lk T N (mRun T N n)) e n ∧ M'.1 319 4 = M.1 319 4 := by
  obtain ⟨hM, hT, hN, hL, eT, eN⟩ := r
  have h5 := hT.z.2
  have t0 : Tr M (wR M 332 (mixR 305 (M.1 324) (M.1 332))) N := Tr.begin eN
  have e0 : (wR M 332 (mixR 305 (M.1 324) (M.1 332))).1 324 = N := (wR_ne _ _ (by decide)).trans eN
  have tr := m_tries hM
  generalize wR M 332 (mixR 305 (M.1 324) (M.1 332)) = M1 at t0 e0 tr
  have nne : ∀ n, n ≤ 200 → Int32.ofNat n ≠ -1 := fun n hn q => by
    have := congrArg Int32.toInt q
    rw [tn n (by omega), show (-1 : Int32).toInt = -1 from rfl] at this
    omega
  have key : ∃ q, lp (X12_again_B8 319) FU (-1, 1, M1) = some q ∧ ∃ n, Tr M q.2 N ∧ Fst (fun n => lk T N (mRun T N n)) q.1 n := by
    refine lp_inv (fun j q => (q.1 = -1 ∧ q.2.1 = Int32.ofNat (j + 1) ∧ Tr M q.2.2 N ∧ q.2.2.1 324 = mRun T N j ∧ ∀ i, 1 ≤ i → i ≤ j → ¬ lk T N (mRun T N i)) ∨
        (∃ n, (1 ≤ n ∧ n ≤ 200) ∧ q.1 = Int32.ofNat n ∧ Tr M q.2.2 N ∧ lk T N (mRun T N n) ∧ (∀ i, 1 ≤ i → i < n → ¬ lk T N (mRun T N i)))) _ 200 ?_ ?_ (Or.inl ⟨rfl, rfl, t0, e0, fun i h1 h2 => by omega⟩) (by omega)
    · rintro j ⟨f, i, Mj⟩ hj (⟨h1, h2, h3, h4, h6⟩ | ⟨n, hn, h1, h2, h3, h4⟩)
      · replace h1 : f = -1 := h1
        replace h2 : i = Int32.ofNat (j + 1) := h2
        subst h1 h2
        obtain ⟨M2, b1, t2, b3, b9⟩ := h3.min hM eT hT h4 (Lg_run hT hL j (by omega)) (by omega)
        have b4 : M2.1 324 = mRun T N (j + 1) := b3
        have s2 := m_isAgain (t2.ky hM) hT (t2.told.trans eT) b4 t2.2.1 hN (hN.run hT (j + 1))
        have c200 : ¬ (200 : Int32) < Int32.ofNat (j + 1) := by rw [show (200 : Int32) = Int32.ofNat 200 from rfl, lt_n (by omega) (by omega)]; omega
        by_cases c : lk T N (mRun T N (j + 1))
        · refine Or.inl ⟨(Int32.ofNat (j + 1), Int32.ofNat (j + 2), M2), ?_, Or.inr ⟨j + 1, by omega, rfl, t2, c, fun i g1 g2 => h6 i g1 (by omega)⟩⟩
          unfold X12_again_B8 X12_again_J33
          show (if (200 : Int32) < Int32.ofNat (j + 1) then _ else if (-1 : Int32) = -1 then _ else _) = _
          rw [if_neg c200, if_pos rfl]
          simp only [b1, s2, Option.bind_some]
          rw [bI_t c, if_neg (by decide)]
          simp only [suc_n]
        · refine Or.inl ⟨(-1, Int32.ofNat (j + 2), M2), ?_, Or.inl ⟨rfl, rfl, t2, b4, fun i g1 g2 => ?_⟩⟩
          · unfold X12_again_B8 X12_again_J33
            show (if (200 : Int32) < Int32.ofNat (j + 1) then _ else if (-1 : Int32) = -1 then _ else _) = _
            rw [if_neg c200, if_pos rfl]
            simp only [b1, s2, Option.bind_some]
            rw [bI_f c, if_pos rfl]
            simp only [suc_n]
          · by_cases ei : i = j + 1
            · rw [ei]; exact c
            · exact h6 i g1 (by omega)
      · replace h1 : f = Int32.ofNat n := h1
        subst h1
        refine Or.inr ⟨(Int32.ofNat n, Mj), ?_, n, h2, Or.inr ⟨rfl, hn.1, hn.2, h3, h4⟩⟩
        unfold X12_again_B8
        show (if (200 : Int32) < i then some (Sum.inr (Int32.ofNat n, Mj)) else if Int32.ofNat n = -1 then _ else some (Sum.inr (Int32.ofNat n, Mj))) = _
        rw [if_neg (nne n hn.2), ite_self]
    · rintro ⟨f, i, Mj⟩ (⟨h1, h2, h3, h4, h6⟩ | ⟨n, hn, h1, h2, h3, h4⟩)
      · replace h1 : f = -1 := h1
        replace h2 : i = Int32.ofNat 201 := h2
        subst h1 h2
        exact ⟨(-1, Mj), rfl, 200, h3, Or.inl ⟨rfl, rfl, h6⟩⟩
      · replace h1 : f = Int32.ofNat n := h1
        subst h1
        refine ⟨(Int32.ofNat n, Mj), ?_, n, h2, Or.inr ⟨rfl, hn.1, hn.2, h3, h4⟩⟩
        unfold X12_again_B8
        show (if (200 : Int32) < i then some (Sum.inr (Int32.ofNat n, Mj)) else if Int32.ofNat n = -1 then _ else some (Sum.inr (Int32.ofNat n, Mj))) = _
        rw [if_neg (nne n hn.2), ite_self]
  obtain ⟨⟨e, Mx⟩, k1, n, k2, k3⟩ := key
  obtain ⟨M', b1, b2, b3⟩ := k2.back hM eN
  refine ⟨e, n, M', ?_, b2, k3, ?_⟩
  · unfold sh_X12_again X12_again_F X12_again_J39
    simp only [m_O hM, tr, k1, b1, Option.bind_some]
  · rw [b3]; exact k2.2.2.1 4 (by decide) (by decide)
end
