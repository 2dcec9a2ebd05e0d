/-! ===== PURE 6: all rounds, shares, a minute of the reference ===== -/
/-- a sum over the bound DEVICES ahead of the j-th -/
def fS (T : Nat → Int32) (t : Nat) (f : Nat → Nat) : Nat → Nat
  | 0 => 0
  | j + 1 => fS T t f j + (if wn T t j = 0 then 0 else f j)
theorem mS_fS (T : Nat → Int32) (t : Nat) : ∀ j, mS T t j = fS T t (mn T) j := by
  intro j
  induction j with
  | zero => rfl
  | succ j ih => show mS T t j + _ = fS T t (mn T) j + _; rw [ih]
theorem vS_fS (T : Nat → Int32) (t a : Nat) : ∀ j, vS T t a j = fS T t (shV T t a) j := by
  intro j
  induction j with
  | zero => rfl
  | succ j ih => show vS T t a j + _ = fS T t (shV T t a) j + _; rw [ih]
theorem SrL.perm {T : Nat → Int32} (hT : TOk T) {t : Nat} (ht : t < 10) {L : List Nat} (hL : SrL T t L) : List.Perm L ((List.range (td T)).filter fun d => decide (wn T t d ≠ 0)) := by
  refine (List.perm_ext_iff_of_nodup hL.nodup (List.Pairwise.filter _ List.nodup_range)).mpr fun d => ?_
  rw [hL.2 d, List.mem_filter, List.mem_range]
  constructor
  · rintro ⟨h1, h2⟩
    exact ⟨((hT.wN ht h1).2.2 h2).2, decide_eq_true h2⟩
  · rintro ⟨h1, h2⟩
    have := hT.d.2
    exact ⟨by omega, of_decide_eq_true h2⟩
theorem fS_sum (T : Nat → Int32) (t : Nat) (f : Nat → Nat) : ∀ j, (((List.range j).filter fun d => decide (wn T t d ≠ 0)).map f).sum = fS T t f j := by
  intro j
  induction j with
  | zero => rfl
  | succ j ih =>
    rw [List.range_succ, List.filter_append, List.map_append, List.sum_append_nat, ih]
    show fS T t f j + _ = fS T t f j + (if wn T t j = 0 then 0 else f j)
    by_cases c : wn T t j = 0
    · simp [c]
    · simp [c]
theorem SrL.sum {T : Nat → Int32} (hT : TOk T) {t : Nat} (ht : t < 10) {L : List Nat} (hL : SrL T t L) (f : Nat → Nat) : (L.map f).sum = fS T t f (td T) := by
  rw [((hL.perm hT ht).map f).sum_nat, fS_sum]
theorem SrL.len {T : Nat → Int32} (hT : TOk T) {t : Nat} (ht : t < 10) {L : List Nat} (hL : SrL T t L) : L.length ≤ 6 := by
  rw [(hL.perm hT ht).length_eq]
  refine Nat.le_trans (List.length_filter_le _ _) ?_
  rw [List.length_range]
  exact hT.d.2
theorem sum_up {f g : Nat → Nat} {d : Nat} (hd : g d = f d + 1) (hne : ∀ b, b ≠ d → g b = f b) : ∀ L : List Nat, L.Nodup → d ∈ L → (L.map g).sum = (L.map f).sum + 1 := by
  intro L
  induction L with
  | nil => intro _ h; cases h
  | cons a L ih =>
    intro hn hm
    rw [List.nodup_cons] at hn
    rw [List.map_cons, List.map_cons, List.sum_cons, List.sum_cons]
    by_cases e : a = d
    · subst e
      have : L.map g = L.map f := List.map_congr_left fun b hb => hne b (fun q => hn.1 (q ▸ hb))
      rw [this, hd]; omega
    · have hm' : d ∈ L := by
        rcases List.mem_cons.mp hm with q | q
        · exact absurd q.symm e
        · exact q
      rw [ih hn.2 hm', hne a e]; omega
theorem sum_eq {f g : Nat → Nat} : ∀ L : List Nat, (∀ d, d ∈ L → f d = g d) → (L.map f).sum = (L.map g).sum := fun L h => by
  rw [List.map_congr_left (fun b hb => h b hb)]
/-- the WANTED ones of a TRIP as naturals -/
def xn (N : Nat → Int32) (t d : Nat) : Nat := (N (82 + 6 * t + d)).toNatClampNeg
/-- they are naturals, and no more than the MOST -/
def WOk (T N : Nat → Int32) (t : Nat) (L : List Nat) : Prop := ∀ d, d ∈ L → N (82 + 6 * t + d) = Int32.ofNat (xn N t d) ∧ xn N t d ≤ mn T d
theorem WOk.one {T N : Nat → Int32} (hT : TOk T) {t : Nat} (ht : t < 10) {L : List Nat} (hL : SrL T t L) {left : Nat} (h : WOk T N t L) {d : Nat} (hd : d ∈ L) :
    WOk T (giveOne T t (left, N) d).2 t L ∧ (L.map (xn (giveOne T t (left, N) d).2 t)).sum + (giveOne T t (left, N) d).1 = (L.map (xn N t)).sum + left ∧
    (∀ b, b ∈ L → xn N t b ≤ xn (giveOne T t (left, N) d).2 t b) ∧ (0 < left → xn N t d < mn T d → xn N t d + 1 ≤ xn (giveOne T t (left, N) d).2 t d) ∧ (giveOne T t (left, N) d).1 ≤ left := by
  have hd6 := (hL.2 d).mp hd
  have hm := hT.mN ((hT.wN ht hd6.1).2.2 hd6.2).2
  have hx := h d hd
  have hiff : N (82 + 6 * t + d) < T (67 + d) ↔ xn N t d < mn T d := by rw [hx.1, hm.1, lt_n (by omega) (by omega)]
  unfold giveOne
  by_cases c : 0 < left ∧ N (82 + 6 * t + d) < T (67 + d)
  · rw [if_pos c]
    have hlt := hiff.mp c.2
    have hown : xn (ud N (82 + 6 * t + d) (N (82 + 6 * t + d) + 1)) t d = xn N t d + 1 := by
      unfold xn
      rw [ud_at]
      show (N (82 + 6 * t + d) + 1).toNatClampNeg = _
      rw [hx.1, suc_n, nn _ (by omega), nn _ (by omega)]
    have hoth : ∀ b, b ≠ d → xn (ud N (82 + 6 * t + d) (N (82 + 6 * t + d) + 1)) t b = xn N t b := fun b hb => by
      unfold xn
      rw [ud_ne _ _ (by omega)]
    refine ⟨fun b hb => ?_, ?_, fun b hb => ?_, fun _ _ => by rw [hown]; exact Nat.le_refl _, Nat.sub_le _ _⟩
    · by_cases e : b = d
      · subst e
        show ud N (82 + 6 * t + b) (N (82 + 6 * t + b) + 1) (82 + 6 * t + b) = _ ∧ _
        rw [hown, ud_at, hx.1, suc_n]
        exact ⟨rfl, by omega⟩
      · show ud N _ _ _ = _ ∧ _
        rw [hoth b e, ud_ne _ _ (by omega)]
        exact h b hb
    · show _ + (left - 1) = _
      rw [sum_up hown hoth L hL.nodup hd]
      omega
    · by_cases e : b = d
      · subst e; rw [hown]; omega
      · rw [hoth b e]; exact Nat.le_refl _
  · rw [if_neg c]
    exact ⟨h, rfl, fun _ _ => Nat.le_refl _, fun q1 q2 => absurd ⟨q1, hiff.mpr q2⟩ c, Nat.le_refl _⟩
theorem WOk.fold {T : Nat → Int32} (hT : TOk T) {t : Nat} (ht : t < 10) {L : List Nat} (hL : SrL T t L) : ∀ (s : List Nat) (left : Nat) (N : Nat → Int32), (∀ d, d ∈ s → d ∈ L) → WOk T N t L →
    WOk T (s.foldl (giveOne T t) (left, N)).2 t L ∧ (L.map (xn (s.foldl (giveOne T t) (left, N)).2 t)).sum + (s.foldl (giveOne T t) (left, N)).1 = (L.map (xn N t)).sum + left ∧
    (∀ b, b ∈ L → xn N t b ≤ xn (s.foldl (giveOne T t) (left, N)).2 t b) ∧ (0 < (s.foldl (giveOne T t) (left, N)).1 → ∀ d, d ∈ s → min (mn T d) (xn N t d + 1) ≤ xn (s.foldl (giveOne T t) (left, N)).2 t d) ∧ (s.foldl (giveOne T t) (left, N)).1 ≤ left := by
  intro s
  induction s with
  | nil => intro left N _ h; exact ⟨h, rfl, fun _ _ => Nat.le_refl _, fun _ d hd => (by cases hd), Nat.le_refl _⟩
  | cons d s ih =>
    intro left N hs h
    have hdL := hs d (List.mem_cons_self ..)
    obtain ⟨a1, a2, a3, a4, a5⟩ := h.one hT ht hL (left := left) hdL
    show WOk T (s.foldl (giveOne T t) (giveOne T t (left, N) d)).2 t L ∧ (L.map (xn (s.foldl (giveOne T t) (giveOne T t (left, N) d)).2 t)).sum + (s.foldl (giveOne T t) (giveOne T t (left, N) d)).1 = (L.map (xn N t)).sum + left ∧
      (∀ b, b ∈ L → xn N t b ≤ xn (s.foldl (giveOne T t) (giveOne T t (left, N) d)).2 t b) ∧ (0 < (s.foldl (giveOne T t) (giveOne T t (left, N) d)).1 → ∀ d', d' ∈ d :: s → min (mn T d') (xn N t d' + 1) ≤ xn (s.foldl (giveOne T t) (giveOne T t (left, N) d)).2 t d') ∧ (s.foldl (giveOne T t) (giveOne T t (left, N) d)).1 ≤ left
    generalize giveOne T t (left, N) d = q at a1 a2 a3 a4 a5
    obtain ⟨l1, N1⟩ := q
    obtain ⟨b1, b2, b3, b4, b5⟩ := ih l1 N1 (fun x hx => hs x (List.mem_cons_of_mem _ hx)) a1
    have a2' : (L.map (xn N1 t)).sum + l1 = (L.map (xn N t)).sum + left := a2
    refine ⟨b1, by omega, fun b hb => Nat.le_trans (a3 b hb) (b3 b hb), fun hp d' hd' => ?_, Nat.le_trans b5 a5⟩
    rcases List.mem_cons.mp hd' with e | e
    · subst e
      have h1 := b3 d' hdL
      by_cases c : xn N t d' < mn T d'
      · have h2 := a4 (by omega) c
        have h3 : xn N1 t d' ≤ _ := h1
        have h4 : xn N t d' + 1 ≤ xn N1 t d' := h2
        omega
      · have h2 : xn N t d' ≤ xn N1 t d' := a3 d' hdL
        have h3 : xn N1 t d' ≤ _ := h1
        omega
    · have h1 := b4 hp d' e
      have h2 : xn N t d' ≤ xn N1 t d' := a3 d' (hs d' (List.mem_cons_of_mem _ e))
      omega
/-- after n rounds with something left each has n, or its MOST -/
theorem give_full {T : Nat → Int32} (hT : TOk T) {t : Nat} (ht : t < 10) {L : List Nat} (hL : SrL T t L) : ∀ (n left : Nat) (N : Nat → Int32), WOk T N t L →
    WOk T (giveAll T t L n (left, N)).2 t L ∧ (L.map (xn (giveAll T t L n (left, N)).2 t)).sum + (giveAll T t L n (left, N)).1 = (L.map (xn N t)).sum + left ∧
    (0 < (giveAll T t L n (left, N)).1 → ∀ d, d ∈ L → min (mn T d) (xn N t d + n) ≤ xn (giveAll T t L n (left, N)).2 t d) ∧ (giveAll T t L n (left, N)).1 ≤ left := by
  intro n
  induction n with
  | zero => intro left N h; exact ⟨h, rfl, fun _ d _ => Nat.min_le_right _ _, Nat.le_refl _⟩
  | succ n ih =>
    intro left N h
    obtain ⟨a1, a2, a3, a4, a5⟩ := WOk.fold hT ht hL L left N (fun _ q => q) h
    show WOk T (giveAll T t L n (L.foldl (giveOne T t) (left, N))).2 t L ∧ (L.map (xn (giveAll T t L n (L.foldl (giveOne T t) (left, N))).2 t)).sum + (giveAll T t L n (L.foldl (giveOne T t) (left, N))).1 = (L.map (xn N t)).sum + left ∧
      (0 < (giveAll T t L n (L.foldl (giveOne T t) (left, N))).1 → ∀ d, d ∈ L → min (mn T d) (xn N t d + (n + 1)) ≤ xn (giveAll T t L n (L.foldl (giveOne T t) (left, N))).2 t d) ∧ (giveAll T t L n (L.foldl (giveOne T t) (left, N))).1 ≤ left
    generalize L.foldl (giveOne T t) (left, N) = q at a1 a2 a3 a4 a5
    obtain ⟨l1, N1⟩ := q
    obtain ⟨b1, b2, b3, b4⟩ := ih l1 N1 a1
    have a2' : (L.map (xn N1 t)).sum + l1 = (L.map (xn N t)).sum + left := a2
    refine ⟨b1, by omega, fun hp d hd => ?_, Nat.le_trans b4 a5⟩
    have h1 := b3 hp d hd
    have h2 : min (mn T d) (xn N t d + 1) ≤ xn N1 t d := a4 (by omega) d hd
    omega
theorem give_done {T N : Nat → Int32} (hT : TOk T) {t : Nat} (ht : t < 10) {L : List Nat} (hL : SrL T t L) {left : Nat} (h : WOk T N t L) (hle : (L.map (xn N t)).sum + left ≤ fS T t (mn T) (td T)) : (giveAll T t L 9 (left, N)).1 = 0 := by
  obtain ⟨a1, a2, a3, a4⟩ := give_full hT ht hL 9 left N h
  rcases Nat.eq_zero_or_pos (giveAll T t L 9 (left, N)).1 with e | e
  · exact e
  · have hall : ∀ d, d ∈ L → xn (giveAll T t L 9 (left, N)).2 t d = mn T d := fun d hd => by
      have h1 := a3 e d hd
      have h2 := (a1 d hd).2
      have hd6 := (hL.2 d).mp hd
      have h3 := (hT.mN ((hT.wN ht hd6.1).2.2 hd6.2).2).2.2
      omega
    rw [sum_eq L hall, hL.sum hT ht] at a2
    omega
theorem m_rounds {T : Nat → Int32} (hT : TOk T) {t : Nat} (ht : t < 10) {L : List Nat} (hL : SrL T t L) : ∀ (n left : Nat) (M : Gm), left ≤ 54 → Ky M → M.1 325 = T → (∀ d, d < 6 → M.1 331 d = 0) → (giveAll T t L n (left, M.1 324)).1 = 0 →
    ∃ M' k, k ≤ n * 7 ∧ Fm [324, 331] M M' ∧ M'.1 324 = (giveAll T t L n (left, M.1 324)).2 ∧ lp (X12_shares_B137 319 (Int32.ofNat t)) (k + 1) (Int32.ofNat left, M) = some M' := by
  have hend : ∀ M : Gm, X12_shares_B137 319 (Int32.ofNat t) (Int32.ofNat 0, M) = some (.inr M) := fun M => by
    unfold X12_shares_B137
    exact if_pos (show Int32.ofNat 0 ≤ 0 by decide)
  intro n
  induction n with
  | zero =>
    intro left M hl hM eT hg h0
    have h0' : left = 0 := h0
    subst h0'
    exact ⟨M, 0, Nat.le_refl _, Fm.rfl' _ _, rfl, by rw [lp_succ, hend]; rfl⟩
  | succ n ih =>
    intro left M hl hM eT hg h0
    have h0' : (giveAll T t L n (L.foldl (giveOne T t) (left, M.1 324))).1 = 0 := h0
    show ∃ M' k, k ≤ (n + 1) * 7 ∧ Fm [324, 331] M M' ∧ M'.1 324 = (giveAll T t L n (L.foldl (giveOne T t) (left, M.1 324))).2 ∧ _
    have hlen := hL.len hT ht
    obtain ⟨M1, k, g1, g2, g3, g4, g5, g6⟩ := m_round hT ht hL L [] left M rfl hl hM eT (fun d hd _ => Or.inl ⟨hg d ((hL.2 d).mp hd).1, by simp⟩)
    generalize L.foldl (giveOne T t) (left, M.1 324) = q at h0' g3 g4 g5 g6
    obtain ⟨l1, N1⟩ := q
    have g3' : M1.1 324 = N1 := g3
    subst g3'
    have hM1 := hM.fm g2
    have eT1 : M1.1 325 = T := (g2.2 325 (by decide)).trans eT
    rcases Nat.eq_zero_or_pos l1 with e | e
    · subst e
      have hz : ∀ j, giveAll T t L j (0, M1.1 324) = (0, M1.1 324) := fun j => by
        induction j with
        | zero => rfl
        | succ j ihj => show giveAll T t L j (L.foldl (giveOne T t) (0, M1.1 324)) = _; rw [give_none, ihj]
      rw [hz n]
      refine ⟨M1, k, by omega, g2, rfl, ?_⟩
      rw [Nat.add_comm]
      exact g6 1 M1 (by rw [lp_succ, hend]; rfl)
    · obtain ⟨M2, c1, c2, c3⟩ := m_clear2 hM1 (Int32.ofNat t) (Int32.ofNat l1)
      have e4 : M2.1 324 = M1.1 324 := c2.2 324 (by decide)
      obtain ⟨M', k', d1, d2, d3, d4⟩ := ih l1 M2 (by have : l1 ≤ left := g4; omega) (hM1.fm c2) ((c2.2 325 (by decide)).trans eT1) c3 (by rw [e4]; exact h0')
      rw [e4] at d3
      have hng : sh_X12_nextGiven 319 (Int32.ofNat t) M1 = some (-1) := by
        obtain ⟨x, k1, k2⟩ := m_nextGiven hM1 (by rw [eT1]; exact hT) ht
        rw [eT1] at k2
        rcases k2 with ⟨q, -⟩ | ⟨b, q1, q2, q3, -⟩
        · rw [k1, q]
        · have hbL : b ∈ L := (hL.2 b).mpr ⟨by have := hT.d.2; omega, q3.1⟩
          have := g5 e b hbL q3.2.2
          rw [q3.2.1] at this
          exact absurd this (by decide)
      have hstep : X12_shares_B137 319 (Int32.ofNat t) (Int32.ofNat l1, M1) = some (.inl (Int32.ofNat l1, M2)) := by
        unfold X12_shares_B137
        rw [if_neg (by rw [n_le0 (by have : l1 ≤ left := g4; omega)]; omega)]
        simp only [hng, Option.bind_some]
        rw [if_pos trivial, c1]
        rfl
      refine ⟨M', k' + 1 + k, by omega, (g2.trans c2 (L2 := [324, 331]) (fun _ q => q) (by simp)).trans d2 (fun _ q => q) (fun _ q => q), d3, ?_⟩
      rw [show k' + 1 + k + 1 = (k' + 1 + 1) + k by omega]
      exact g6 (k' + 1 + 1) M' (by rw [lp_succ, hstep]; exact d4)
def mShare (T N : Nat → Int32) (t : Nat) : Nat → Int32 := (giveAll T t (dl T t) 9 (shTo T N t (an T N t) (td T))).2
theorem shTo_at {T N : Nat → Int32} {t a : Nat} : ∀ j d, d < j → wn T t d ≠ 0 → (shTo T N t a j).2 (82 + 6 * t + d) = Int32.ofNat (shV T t a d) := by
  intro j
  induction j with
  | zero => intro d h; omega
  | succ j ih =>
    intro d hd hw
    have hs : shTo T N t a (j + 1) = if wn T t j = 0 then shTo T N t a j else ((shTo T N t a j).1 - shV T t a j, ud (shTo T N t a j).2 (82 + 6 * t + j) (Int32.ofNat (shV T t a j))) := rfl
    rw [hs]
    by_cases e : d = j
    · subst e; rw [if_neg hw]; exact ud_at _ _ _
    · split
      · exact ih d (by omega) hw
      · show ud _ _ _ _ = _
        rw [ud_ne _ _ (by omega)]
        exact ih d (by omega) hw
theorem share_ok {T N : Nat → Int32} (hT : TOk T) {t a : Nat} (ht : t < 10) {L : List Nat} (hL : SrL T t L) : WOk T (shTo T N t a (td T)).2 t L ∧ (L.map (xn (shTo T N t a (td T)).2 t)).sum = vS T t a (td T) := by
  have hx : ∀ d, d ∈ L → (shTo T N t a (td T)).2 (82 + 6 * t + d) = Int32.ofNat (shV T t a d) ∧ shV T t a d ≤ mn T d ∧ mn T d ≤ 9 := fun d hd => by
    have hd6 := (hL.2 d).mp hd
    have hdt := ((hT.wN ht hd6.1).2.2 hd6.2).2
    exact ⟨shTo_at _ _ hdt hd6.2, Nat.min_le_left _ _, (hT.mN hdt).2.2⟩
  have hy : ∀ d, d ∈ L → xn (shTo T N t a (td T)).2 t d = shV T t a d := fun d hd => by
    have h1 := hx d hd
    unfold xn
    rw [h1.1]
    exact nn _ (by omega)
  constructor
  · intro d hd
    rw [hy d hd]
    exact ⟨(hx d hd).1, (hx d hd).2.1⟩
  · rw [sum_eq L hy, hL.sum hT ht, vS_fS]
theorem share_end {T N : Nat → Int32} (hT : TOk T) {t : Nat} (ht : t < 10) : (giveAll T t (dl T t) 9 (shTo T N t (an T N t) (td T))).1 = 0 := by
  have hL := dl_ok hT ht
  obtain ⟨h1, h2⟩ := share_ok (N := N) (a := an T N t) hT ht hL
  have h3 := shTo_1 T N t (an T N t) (td T) (Nat.le_refl _)
  have h4 := vS_a T t (an T N t) (j := td T) (Nat.le_refl _)
  have h5 := (asked_n (N := N) hT ht).2
  rw [mS_fS] at h5
  exact give_done hT ht hL (left := (shTo T N t (an T N t) (td T)).1) h1 (by rw [h2, h3]; omega)
theorem m_shares {M : Gm} (hM : Ky M) (hT : TOk (M.1 325)) {t : Nat} (ht : t < tt (M.1 325)) : ∃ M', sh_X12_shares 319 (Int32.ofNat t) M = some M' ∧ Fm [324, 331] M M' ∧ M'.1 324 = mShare (M.1 325) (M.1 324) t := by
  have ht10 : t < 10 := by have := hT.t.2; omega
  have hL := dl_ok hT ht10
  obtain ⟨a1, a2⟩ := asked_n (N := M.1 324) hT ht10
  have hS := mS_le hT t (td (M.1 325)) (Nat.le_refl _)
  have hd6 := hT.d.2
  have h0 := m_share0 hM hT (a := an (M.1 325) (M.1 324) t) ht10 (by omega)
  have hl := shTo_1 (M.1 325) (M.1 324) t (an (M.1 325) (M.1 324) t) (td (M.1 325)) (Nat.le_refl _)
  have hend := share_end (N := M.1 324) hT ht10
  unfold mShare
  generalize shTo (M.1 325) (M.1 324) t (an (M.1 325) (M.1 324) t) (td (M.1 325)) = q at h0 hl hend
  obtain ⟨l, N0⟩ := q
  have hl' : l ≤ 54 := by have : l = _ := hl; omega
  have hM1 := hM.wR 324 N0
  obtain ⟨M2, c1, c2, c3⟩ := m_clear1 hM1 (Int32.ofNat t) (Int32.ofNat l)
  have e4 : M2.1 324 = N0 := (c2.2 324 (by decide)).trans (wR_own _ _ _)
  have e5 : M2.1 325 = M.1 325 := (c2.2 325 (by decide)).trans (wR_ne _ _ (by decide))
  obtain ⟨M3, k, d1, d2, d3, d4⟩ := m_rounds hT ht10 hL 9 l M2 hl' (hM1.fm c2) e5 c3 (by rw [e4]; exact hend)
  rw [e4] at d3
  have d5 : lp (X12_shares_B137 319 (Int32.ofNat t)) FU (Int32.ofNat l, M2) = some M3 := lp_more _ _ _ _ _ (by rw [FU_eq]; omega) d4
  refine ⟨M3, ?_, ?_, d3⟩
  · unfold sh_X12_shares X12_shares_F
    rw [m_O hM]
    simp only [Option.bind_some, m_asked hM hT ht, a1, m_wsum hM hT ht10, h0, c1, d5]
  · have f1 : Fm [324, 331] M (wR M 324 N0) := ⟨rfl, fun b hb => wR_ne _ _ (fun e => hb (by rw [e]; decide))⟩
    exact (f1.trans c2 (L2 := [324, 331]) (fun _ q => q) (by simp)).trans d2 (fun _ q => q) (fun _ q => q)

