/-! ===== PURE 5: what is left is dealt out in rounds ===== -/
/-- a comes ahead of b as SHARES are dealt out -/
def bfr (T : Nat → Int32) (t a b : Nat) : Prop := wn T t b < wn T t a ∨ (wn T t a = wn T t b ∧ a < b)
/-- the bound DEVICES of a TRIP, as SHARES are dealt out -/
def SrL (T : Nat → Int32) (t : Nat) (L : List Nat) : Prop := L.Pairwise (bfr T t) ∧ ∀ d, d ∈ L ↔ d < 6 ∧ wn T t d ≠ 0
def dl (T : Nat → Int32) (t : Nat) : List Nat := (List.range 9).flatMap fun i => (List.range 6).filter fun d => decide (wn T t d = 9 - i)
theorem dl_ok {T : Nat → Int32} (hT : TOk T) {t : Nat} (ht : t < 10) : SrL T t (dl T t) := by
  constructor
  · unfold dl
    rw [List.pairwise_flatMap]
    constructor
    · intro i _
      refine List.Pairwise.imp_of_mem (R := fun a b => a < b) (fun {a b} ha hb hab => ?_) (List.Pairwise.filter _ List.pairwise_lt_range)
      have h1 := of_decide_eq_true (List.mem_filter.mp ha).2
      have h2 := of_decide_eq_true (List.mem_filter.mp hb).2
      exact Or.inr ⟨by omega, hab⟩
    · refine List.Pairwise.imp_of_mem (R := fun a b => a < b) (fun {i j} hi hj hij => ?_) List.pairwise_lt_range
      intro a ha b hb
      have h1 := of_decide_eq_true (List.mem_filter.mp ha).2
      have h2 := of_decide_eq_true (List.mem_filter.mp hb).2
      have h3 := List.mem_range.mp hj
      exact Or.inl (by omega)
  · intro d
    unfold dl
    rw [List.mem_flatMap]
    constructor
    · rintro ⟨i, hi, hd⟩
      have h1 := List.mem_filter.mp hd
      have h2 := of_decide_eq_true h1.2
      have h3 := List.mem_range.mp hi
      exact ⟨List.mem_range.mp h1.1, by omega⟩
    · rintro ⟨h1, h2⟩
      have h3 := (hT.wN ht h1).2.1
      exact ⟨9 - wn T t d, List.mem_range.mpr (by omega), List.mem_filter.mpr ⟨List.mem_range.mpr h1, decide_eq_true (by omega)⟩⟩
theorem SrL.nodup {T : Nat → Int32} {t : Nat} {L : List Nat} (h : SrL T t L) : L.Nodup :=
  List.Pairwise.imp (fun {a b} hab e => by subst e; rcases hab with q | q <;> omega) h.1
theorem SrL.uniq {T : Nat → Int32} {t : Nat} {L L' : List Nat} (h : SrL T t L) (h' : SrL T t L') : L = L' := by
  refine List.Perm.eq_of_pairwise (le := bfr T t) ?_ h.1 h'.1 ((List.perm_ext_iff_of_nodup h.nodup h'.nodup).mpr fun d => (h.2 d).trans (h'.2 d).symm)
  intro a b _ _ hab hba
  rcases hab with q | q <;> rcases hba with r | r <;> omega
/-- one is given to d, if one is left and it has fewer than its MOST -/
def giveOne (T : Nat → Int32) (t : Nat) (q : Nat × (Nat → Int32)) (d : Nat) : Nat × (Nat → Int32) :=
  if 0 < q.1 ∧ q.2 (82 + 6 * t + d) < T (67 + d) then (q.1 - 1, ud q.2 (82 + 6 * t + d) (q.2 (82 + 6 * t + d) + 1)) else q
def giveAll (T : Nat → Int32) (t : Nat) (L : List Nat) : Nat → Nat × (Nat → Int32) → Nat × (Nat → Int32)
  | 0, q => q
  | n + 1, q => giveAll T t L n (L.foldl (giveOne T t) q)
theorem give_none (T : Nat → Int32) (t : Nat) (N : Nat → Int32) (L : List Nat) : L.foldl (giveOne T t) (0, N) = (0, N) := by
  induction L with
  | nil => rfl
  | cons d L ih =>
    show L.foldl (giveOne T t) (giveOne T t (0, N) d) = _
    rw [show giveOne T t (0, N) d = (0, N) from if_neg (fun q => absurd q.1 (Nat.lt_irrefl 0)), ih]
def canG (T N g : Nat → Int32) (t d : Nat) : Prop := wn T t d ≠ 0 ∧ g d = 0 ∧ N (82 + 6 * t + d) < T (67 + d)
theorem m_nextGiven {M : Gm} (hM : Ky M) (hT : TOk (M.1 325)) {t : Nat} (ht : t < 10) : ∃ e, sh_X12_nextGiven 319 (Int32.ofNat t) M = some e ∧
    ((e = -1 ∧ ∀ d, d < td (M.1 325) → ¬ canG (M.1 325) (M.1 324) (M.1 331) t d) ∨ ∃ b, b < td (M.1 325) ∧ e = Int32.ofNat b ∧ canG (M.1 325) (M.1 324) (M.1 331) t b ∧ ∀ d, d < td (M.1 325) → canG (M.1 325) (M.1 324) (M.1 331) t d → d = b ∨ bfr (M.1 325) t b d) := by
  have hd := hT.d
  have key : ∃ e, lp (X12_nextGiven_B4 319 (Int32.ofNat t) M) FU (-1, 0) = some e ∧ ((e = -1 ∧ ∀ d, d < td (M.1 325) → ¬ canG (M.1 325) (M.1 324) (M.1 331) t d) ∨ ∃ b, b < td (M.1 325) ∧ e = Int32.ofNat b ∧ canG (M.1 325) (M.1 324) (M.1 331) t b ∧ ∀ d, d < td (M.1 325) → canG (M.1 325) (M.1 324) (M.1 331) t d → d = b ∨ bfr (M.1 325) t b d) := by
    refine lp_inv (fun j q => q.2 = Int32.ofNat j ∧ ((q.1 = -1 ∧ ∀ d, d < j → ¬ canG (M.1 325) (M.1 324) (M.1 331) t d) ∨ ∃ b, b < j ∧ q.1 = Int32.ofNat b ∧ canG (M.1 325) (M.1 324) (M.1 331) t b ∧ ∀ d, d < j → canG (M.1 325) (M.1 324) (M.1 331) t d → d = b ∨ bfr (M.1 325) t b d)) _ (td (M.1 325)) ?_ ?_ ⟨rfl, Or.inl ⟨rfl, fun d h => absurd h (Nat.not_lt_zero d)⟩⟩ (by omega)
    · rintro j ⟨e, i⟩ hj ⟨h1, h2⟩
      replace h1 : i = Int32.ofNat j := h1
      subst h1
      have hw := hT.wN ht (d := j) (by omega)
      have hn := n_le0 (a := wn (M.1 325) t j) (by omega)
      have h52 : X12_nextGiven_J52 319 (Int32.ofNat t) e (Int32.ofNat j) M = some (.inl (e, Int32.ofNat (j + 1))) := by
        unfold X12_nextGiven_J52 X12_nextGiven_J53 X12_nextGiven_J82
        rw [if_pos rfl, suc_n]
      have h80 : X12_nextGiven_J80 319 (Int32.ofNat t) (Int32.ofNat j) M = some (.inl (Int32.ofNat j, Int32.ofNat (j + 1))) := by
        unfold X12_nextGiven_J80 X12_nextGiven_J82
        rw [suc_n]
      have h82 : X12_nextGiven_J82 319 (Int32.ofNat t) e (Int32.ofNat j) M = some (.inl (e, Int32.ofNat (j + 1))) := by
        unfold X12_nextGiven_J82
        rw [suc_n]
      have keep : ¬ canG (M.1 325) (M.1 324) (M.1 331) t j → (Int32.ofNat (j + 1) = Int32.ofNat (j + 1) ∧ ((e = -1 ∧ ∀ d, d < j + 1 → ¬ canG (M.1 325) (M.1 324) (M.1 331) t d) ∨ ∃ b, b < j + 1 ∧ e = Int32.ofNat b ∧ canG (M.1 325) (M.1 324) (M.1 331) t b ∧ ∀ d, d < j + 1 → canG (M.1 325) (M.1 324) (M.1 331) t d → d = b ∨ bfr (M.1 325) t b d)) := fun hc => by
        refine ⟨rfl, ?_⟩
        rcases h2 with ⟨g1, g2⟩ | ⟨b, g1, g2, g3, g4⟩
        · exact Or.inl ⟨g1, fun d hdj => by
            by_cases q : d = j
            · subst q; exact hc
            · exact g2 d (by omega)⟩
        · exact Or.inr ⟨b, by omega, g2, g3, fun d hdj hcd => by
            by_cases q : d = j
            · subst q; exact absurd hcd hc
            · exact g4 d (by omega) hcd⟩
      refine Or.inl ?_
      by_cases hc : canG (M.1 325) (M.1 324) (M.1 331) t j
      · have hB : X12_nextGiven_B4 319 (Int32.ofNat t) M (e, Int32.ofNat j) = X12_nextGiven_J53 319 (Int32.ofNat t) e (Int32.ofNat j) 1 M := by
          unfold X12_nextGiven_B4
          simp (disch := omega) only [m_devices hM, hd.1, Option.bind_some, le_n, m_weight hM, hw.1, m_given hM, ld331 hM, m_wanted hM, m_told hM, ix67, ld325 hM]
          rw [if_neg (by omega), if_neg (fun q => hc.1 (hn.mp q)), if_pos hc.2.1, if_neg (by rw [Int32.not_le]; exact hc.2.2)]
        rw [hB]
        unfold X12_nextGiven_J53
        rw [if_neg (by decide)]
        rcases h2 with ⟨g1, g2⟩ | ⟨b, g1, g2, g3, g4⟩
        · replace g1 : e = -1 := g1
          subst g1
          rw [if_pos rfl, h80]
          exact ⟨_, rfl, rfl, Or.inr ⟨j, by omega, rfl, hc, fun d hdj hcd => by
            by_cases q : d = j
            · exact Or.inl q
            · exact absurd hcd (g2 d (by omega))⟩⟩
        · replace g2 : e = Int32.ofNat b := g2
          subst g2
          have hb := hT.wN ht (d := b) (by omega)
          rw [if_neg (by
            intro q
            have q1 := congrArg Int32.toInt q
            rw [tn b (by omega)] at q1
            have : (-1 : Int32).toInt = -1 := rfl
            omega)]
          simp (disch := omega) only [m_weight hM, Option.bind_some, hw.1, hb.1]
          have hle := le_n (a := wn (M.1 325) t j) (b := wn (M.1 325) t b) (by omega) (by omega)
          by_cases c : wn (M.1 325) t j ≤ wn (M.1 325) t b
          · rw [if_pos (hle.mpr c), h82]
            exact ⟨_, rfl, rfl, Or.inr ⟨b, by omega, rfl, g3, fun d hdj hcd => by
              by_cases q : d = j
              · subst q
                right
                unfold bfr
                omega
              · exact g4 d (by omega) hcd⟩⟩
          · rw [if_neg (fun q => c (hle.mp q)), h80]
            exact ⟨_, rfl, rfl, Or.inr ⟨j, by omega, rfl, hc, fun d hdj hcd => by
              by_cases q : d = j
              · exact Or.inl q
              · right
                rcases g4 d (by omega) hcd with r | r
                · subst r; unfold bfr; omega
                · unfold bfr at r ⊢; omega⟩⟩
      · have hB : X12_nextGiven_B4 319 (Int32.ofNat t) M (e, Int32.ofNat j) = some (.inl (e, Int32.ofNat (j + 1))) := by
          unfold X12_nextGiven_B4
          simp (disch := omega) only [m_devices hM, hd.1, Option.bind_some, le_n, m_weight hM, hw.1, m_given hM, ld331 hM, m_wanted hM, m_told hM, ix67, ld325 hM, h52]
          rw [if_neg (by omega)]
          by_cases c1 : wn (M.1 325) t j = 0
          · rw [if_pos (hn.mpr c1)]
          · rw [if_neg (fun q => c1 (hn.mp q))]
            by_cases c2 : M.1 331 j = 0
            · rw [if_pos c2]
              by_cases c3 : M.1 325 (67 + j) ≤ M.1 324 (82 + 6 * t + j)
              · rw [if_pos c3]
              · exact absurd ⟨c1, c2, by rw [Int32.not_le] at c3; exact c3⟩ hc
            · rw [if_neg c2]
        exact ⟨_, hB, keep hc⟩
    · rintro ⟨e, i⟩ ⟨h1, h2⟩
      replace h1 : i = Int32.ofNat (td (M.1 325)) := h1
      subst h1
      refine ⟨e, ?_, h2⟩
      unfold X12_nextGiven_B4
      simp (disch := omega) only [m_devices hM, hd.1, Option.bind_some, le_n]
      rw [if_pos (Nat.le_refl _)]
  obtain ⟨e, k1, k2⟩ := key
  refine ⟨e, ?_, k2⟩
  unfold sh_X12_nextGiven X12_nextGiven_F
  rw [m_O hM]
  simp only [Option.bind_some, k1]
/-! one round of the reference, from a place in the list on -/
theorem m_round {T : Nat → Int32} (hT : TOk T) {t : Nat} (ht : t < 10) {L : List Nat} (hL : SrL T t L) : ∀ (s p : List Nat) (left : Nat) (M : Gm), L = p ++ s → left ≤ 54 → Ky M → M.1 325 = T →
    (∀ d, d ∈ L → M.1 324 (82 + 6 * t + d) < T (67 + d) → (M.1 331 d = 0 ∧ d ∉ p) ∨ (M.1 331 d = 1 ∧ d ∈ p)) →
    ∃ M' k, k ≤ s.length ∧ Fm [324, 331] M M' ∧ M'.1 324 = (s.foldl (giveOne T t) (left, M.1 324)).2 ∧ (s.foldl (giveOne T t) (left, M.1 324)).1 ≤ left ∧
      (0 < (s.foldl (giveOne T t) (left, M.1 324)).1 → ∀ d, d ∈ L → M'.1 324 (82 + 6 * t + d) < T (67 + d) → M'.1 331 d = 1) ∧
      ∀ m e, lp (X12_shares_B137 319 (Int32.ofNat t)) m (Int32.ofNat (s.foldl (giveOne T t) (left, M.1 324)).1, M') = some e → lp (X12_shares_B137 319 (Int32.ofNat t)) (m + k) (Int32.ofNat left, M) = some e := by
  intro s
  induction s with
  | nil =>
    intro p left M hp hl hM eT hg
    refine ⟨M, 0, Nat.le_refl _, Fm.rfl' _ _, rfl, Nat.le_refl _, fun _ d hd hw => ?_, fun m e h => h⟩
    rcases hg d hd hw with q | q
    · rw [List.append_nil] at hp
      rw [hp] at hd
      exact absurd hd q.2
    · exact q.1
  | cons d s ih =>
    intro p left M hp hl hM eT hg
    have hp' : L = (p ++ [d]) ++ s := by rw [hp]; simp
    have hdL : d ∈ L := by rw [hp]; simp
    have hd6 := ((hL.2 d).mp hdL)
    have hT' : TOk (M.1 325) := by rw [eT]; exact hT
    have hdt : d < td T := ((hT.wN ht hd6.1).2.2 hd6.2).2
    have hnd := hL.nodup
    have hdp : d ∉ p := fun q => by
      rw [hp, List.nodup_append] at hnd
      exact hnd.2.2 d q d (by simp) rfl
    rcases Nat.eq_zero_or_pos left with e0 | e0
    · subst e0
      rw [give_none]
      exact ⟨M, 0, Nat.zero_le _, Fm.rfl' _ _, rfl, Nat.le_refl _, fun q => absurd q (Nat.lt_irrefl 0), fun m e h => h⟩
    · show ∃ M' k, k ≤ s.length + 1 ∧ Fm [324, 331] M M' ∧ M'.1 324 = (s.foldl (giveOne T t) (giveOne T t (left, M.1 324) d)).2 ∧ (s.foldl (giveOne T t) (giveOne T t (left, M.1 324) d)).1 ≤ left ∧
        (0 < (s.foldl (giveOne T t) (giveOne T t (left, M.1 324) d)).1 → ∀ d, d ∈ L → M'.1 324 (82 + 6 * t + d) < T (67 + d) → M'.1 331 d = 1) ∧
        ∀ m e, lp (X12_shares_B137 319 (Int32.ofNat t)) m (Int32.ofNat (s.foldl (giveOne T t) (giveOne T t (left, M.1 324) d)).1, M') = some e → lp (X12_shares_B137 319 (Int32.ofNat t)) (m + k) (Int32.ofNat left, M) = some e
      by_cases c : M.1 324 (82 + 6 * t + d) < T (67 + d)
      · have hgv : giveOne T t (left, M.1 324) d = (left - 1, ud (M.1 324) (82 + 6 * t + d) (M.1 324 (82 + 6 * t + d) + 1)) := if_pos ⟨e0, c⟩
        rw [hgv]
        have hng : sh_X12_nextGiven 319 (Int32.ofNat t) M = some (Int32.ofNat d) := by
          obtain ⟨e, k1, k2⟩ := m_nextGiven hM hT' ht
          rw [eT] at k2
          have hcd : canG T (M.1 324) (M.1 331) t d := ⟨hd6.2, by
            rcases hg d hdL c with q | q
            · exact q.1
            · exact absurd q.2 hdp, c⟩
          rw [k1]
          rcases k2 with ⟨-, g2⟩ | ⟨b, g1, g2, g3, g4⟩
          · exact absurd hcd (g2 d hdt)
          · have hbL : b ∈ L := (hL.2 b).mpr ⟨by have := hT.d.2; omega, g3.1⟩
            have hbp : b ∉ p := by
              rcases hg b hbL g3.2.2 with q | q
              · exact q.2
              · have := g3.2.1
                rw [q.1] at this
                exact absurd this (by decide)
            have : b = d := by
              rw [hp, List.mem_append, List.mem_cons] at hbL
              rcases hbL with q | q | q
              · exact absurd q hbp
              · exact q
              · have hs := hL.1
                rw [hp, List.pairwise_append] at hs
                have h1 := (List.pairwise_cons.mp hs.2.1).1 b q
                rcases g4 d hdt hcd with r | r
                · exact r.symm
                · unfold bfr at h1 r; omega
            rw [g2, this]
        have hM1 : Ky (sI M 331 d 1) := hM.sI _ _ _
        have hstep : X12_shares_B137 319 (Int32.ofNat t) (Int32.ofNat left, M) = some (.inl (Int32.ofNat (left - 1), sI (sI M 331 d 1) 324 (82 + 6 * t + d) (M.1 324 (82 + 6 * t + d) + 1))) := by
          unfold X12_shares_B137
          rw [if_neg (by rw [n_le0 (by omega)]; omega)]
          simp only [hng, Option.bind_some]
          rw [if_neg (by
            intro q
            have q1 := congrArg Int32.toInt q
            rw [tn d (by omega)] at q1
            have : (-1 : Int32).toInt = -1 := rfl
            omega)]
          simp (disch := omega) only [m_given hM, Option.bind_some, st331 hM, show ((1 : Int32) &&& 1) = 1 from rfl, m_wanted hM1, sI_ne, m_wants hM1]
          rw [show Int32.ofNat left + (-1) = Int32.ofNat (left - 1) by
            rw [Int32.ofNat_sub _ _ (by omega), Int32.sub_eq_add_neg]; rfl]
        obtain ⟨M', k, g1, g2, g3, g4, g5, g6⟩ := ih (p ++ [d]) (left - 1) (sI (sI M 331 d 1) 324 (82 + 6 * t + d) (M.1 324 (82 + 6 * t + d) + 1)) hp' (by omega) (hM1.sI _ _ _) (by rw [sI_ne _ _ _ (by decide), sI_ne _ _ _ (by decide)]; exact eT) (fun d' hd' hw' => by
          rw [sI_own, sI_ne _ _ _ (by decide)] at hw'
          rw [sI_ne _ _ _ (by decide), sI_own]
          by_cases q : d' = d
          · subst q
            right
            rw [ud_at]
            exact ⟨rfl, by simp⟩
          · rw [ud_ne _ _ (by omega)] at hw'
            rw [ud_ne _ _ q]
            rcases hg d' hd' hw' with r | r
            · exact Or.inl ⟨r.1, by simp [r.2, q]⟩
            · exact Or.inr ⟨r.1, by simp [r.2]⟩)
        rw [sI_own, sI_ne _ _ _ (by decide)] at g3 g4 g5 g6
        refine ⟨M', k + 1, by omega, ?_, g3, by omega, g5, fun m e h => ?_⟩
        · exact (((Fm.rfl' [324, 331] M).set (by decide) _ _).set (by decide) _ _).trans g2 (fun _ q => q) (fun _ q => q)
        · have := g6 m e h
          rw [show m + (k + 1) = (m + k) + 1 by omega, lp_succ, hstep]
          exact this
      · have hgv : giveOne T t (left, M.1 324) d = (left, M.1 324) := if_neg (fun q => c q.2)
        rw [hgv]
        obtain ⟨M', k, g1, g2, g3, g4, g5, g6⟩ := ih (p ++ [d]) left M hp' hl hM eT (fun d' hd' hw' => by
          have q : d' ≠ d := fun q => c (q ▸ hw')
          rcases hg d' hd' hw' with r | r
          · exact Or.inl ⟨r.1, by simp [r.2, q]⟩
          · exact Or.inr ⟨r.1, by simp [r.2]⟩)
        exact ⟨M', k, by omega, g2, g3, g4, g5, g6⟩

