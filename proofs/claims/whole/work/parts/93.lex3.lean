/-! ===== LEX 3: numbers and words ===== -/
section
variable {M : Gm} {b : Nat → Int32} {n p i e s : Nat}
theorem dg_all : ∀ m, m < 256 → ((¬ Int32.ofNat m < 48 ∧ ¬ 57 < Int32.ofNat m) ↔ (48 ≤ m ∧ m ≤ 57)) ∧ ((¬ Int32.ofNat m < 97 ∧ ¬ 122 < Int32.ofNat m) ↔ (97 ≤ m ∧ m ≤ 122)) ∧ ((48 ≤ m ∧ m ≤ 122) → (Int32.ofNat m).toInt8.toInt32 = Int32.ofNat m) := by decide +kernel
theorem Tx.bt (tx : Tx M b n) : BtN b n := ⟨tx.1, fun i hi => (tx.2 i hi).1⟩
theorem ck_lt (h : ck b n i ≠ 0) : i < n := Nat.lt_of_not_le (fun q => h (ck_0.mpr q))
theorem dg_2 (hb : BtN b n) (h : ck b n i = 2) : ∃ m, b i = Int32.ofNat m ∧ 48 ≤ m ∧ m ≤ 57 := by
  have hi := ck_lt (b := b) (n := n) (i := i) (by omega)
  have q := (b9_ck (i := i) hb).2.2.1.mpr h
  unfold b9 at q
  rw [if_neg (by omega)] at q
  obtain ⟨m, em, -, hm⟩ := hb.2 i hi
  rw [em] at q
  have := (dg_all m (by omega)).1.mp q
  exact ⟨m, em, this⟩
theorem tx_eq (tx : Tx M b n) (h : ck b n i = 1 ∨ ck b n i = 2) : M.1 65 i = b i := by
  have hb := tx.bt
  have hi := ck_lt (b := b) (n := n) (i := i) (by omega)
  obtain ⟨⟨m, em, -, hm⟩, g⟩ := tx.2 i hi
  rw [g, em]
  refine (dg_all m (by omega)).2.2 ?_
  rcases h with h | h
  · have q := (b9_ck (i := i) hb).2.1.mpr h
    unfold b9 at q
    rw [if_neg (by omega), em] at q
    have := (dg_all m (by omega)).2.1.mp q
    omega
  · have q := (b9_ck (i := i) hb).2.2.1.mpr h
    unfold b9 at q
    rw [if_neg (by omega), em] at q
    have := (dg_all m (by omega)).1.mp q
    omega
/-- three digits are not cut off -/
theorem nv_3 (hb : BtN b n) (m : Nat) (hm : m ≤ 3) (hd : ∀ j, j < m → ck b n (p + j) = 2) : nv b p m < 10 ^ m ∧ ∀ j, j < m → nv b p (j + 1) = 10 * nv b p j + ((b (p + j)).toNatClampNeg - 48) := by
  have key : ∀ j, j ≤ m → nv b p j < 10 ^ j ∧ ∀ i, i < j → nv b p (i + 1) = 10 * nv b p i + ((b (p + i)).toNatClampNeg - 48) := by
    intro j
    induction j with
    | zero => intro _; exact ⟨by show (0 : Nat) < 10 ^ 0; decide, fun i hi => absurd hi (Nat.not_lt_zero _)⟩
    | succ j ih =>
      intro hj
      obtain ⟨i1, i2⟩ := ih (by omega)
      obtain ⟨v, ev, hv⟩ := dg_2 hb (hd j (by omega))
      have e1 : nv b p (j + 1) = 10 * nv b p j + ((b (p + j)).toNatClampNeg - 48) := by
        rw [nv, Nat.min_eq_right]
        rw [ev, nn v (by omega)]
        have : 10 ^ j ≤ 10 ^ 2 := Nat.pow_le_pow_right (by decide) (by omega)
        omega
      refine ⟨?_, fun i hi => ?_⟩
      · rw [e1, ev, nn v (by omega), Nat.pow_succ]
        omega
      · by_cases q : i = j
        · rw [q]; exact e1
        · exact i2 i (by omega)
  exact key m (Nat.le_refl _)
/-- the class's NUMBER -/
theorem c_numHere (h : Ky M) (r : RdK M) (tx : Tx M b n) (h2 : M.1 66 2 = Int32.ofNat (tE b n e)) (h4 : M.1 66 4 = Int32.ofNat (tB b n e)) (he : e ≤ n) (k2 : tK b n e = 2) : sh_X6_numberHere 66 M = some (if tE b n e - tB b n e ≤ 3 then Int32.ofNat (nv b (tB b n e) (tE b n e - tB b n e)) else -1) := by
  have hn7 := tx.1
  have eT := tE_ok (b := b) he
  have hb := tx.bt
  have run := tE_run (b := b) he (Or.inr k2)
  rw [k2] at run
  unfold sh_X6_numberHere X6_numberHere_F
  rw [rd_O h, bs, rd_I h, bs, rd_I h, bs, h2, h4, sub_n (by omega) (by omega), show (3 : Int32) = Int32.ofNat 3 from rfl]
  by_cases c : tE b n e - tB b n e ≤ 3
  · rw [if_pos ((le_n (by omega) (by omega)).mpr c), if_pos c, bs]
    obtain ⟨-, s2⟩ := nv_3 (p := tB b n e) hb (tE b n e - tB b n e) c (fun j hj => run.1 _ (by omega) (by omega))
    have l := lp_for (B := X6_numberHere_B22 66 M) (fun j => (Int32.ofNat (nv b (tB b n e) j), Int32.ofNat (tB b n e + j))) (Int32.ofNat (nv b (tB b n e) (tE b n e - tB b n e))) (tE b n e - tB b n e) (fun j hj => ?_) ?_ (by omega)
    · rw [show ((0 : Int32), Int32.ofNat (tB b n e)) = (Int32.ofNat (nv b (tB b n e) 0), Int32.ofNat (tB b n e + 0)) from rfl, l, bs]
    · have ck2 := run.1 (tB b n e + j) (by omega) (by omega)
      obtain ⟨v, ev, hv⟩ := dg_2 hb ck2
      have hx := tx_eq tx (Or.inr ck2)
      have hnv := nv_le b (tB b n e) j
      unfold X6_numberHere_B22
      rw [rd_I h, bs, h2]
      show (if Int32.ofNat (tE b n e) ≤ Int32.ofNat (tB b n e + j) then _ else _) = _
      rw [if_neg (fun q => by have := (le_n (by omega) (by omega)).mp q; omega), rd_R h r, bs]
      show (ldA M 1 65 (Int32.ofNat (tB b n e + j))).bind _ = _
      rw [ld65 h (by omega), bs, hx, ev]
      show some (Sum.inl ((Int32.ofNat (nv b (tB b n e) j) * 10 + Int32.ofNat v) - 48, Int32.ofNat (tB b n e + j) + 1)) = _
      rw [s2 j hj, ev, nn v (by omega), show (10 : Int32) = Int32.ofNat 10 from rfl, ← Int32.ofNat_mul, ad_n, show (48 : Int32) = Int32.ofNat 48 from rfl, sub_n (by omega) (by omega), pl1, show nv b (tB b n e) j * 10 + v - 48 = 10 * nv b (tB b n e) j + (v - 48) by omega]
      rfl
    · unfold X6_numberHere_B22
      rw [rd_I h, bs, h2]
      show (if Int32.ofNat (tE b n e) ≤ Int32.ofNat (tB b n e + (tE b n e - tB b n e)) then _ else _) = _
      rw [if_pos ((le_n (by omega) (by omega)).mpr (by omega))]
  · rw [if_neg (fun q => c ((le_n (by omega) (by omega)).mp q)), if_neg c]
/-- the TOKEN is a word -/
def isWd (b : Nat → Int32) (n e s : Nat) : Prop := tK b n e = 1 ∧ tE b n e - tB b n e = strLen.getD (s - 2) 0 ∧ ∀ i, i < strLen.getD (s - 2) 0 → b (tB b n e + i) = (strByt.getD (s - 2) []).getD i 0
theorem sL_30 : ∀ s, s < 24 → strLen.getD s 0 ≤ 30 := by decide
theorem strLn_ok (h1 : 2 ≤ s) (h2 : s < 26) : strLn s = some (Int32.ofNat (strLen.getD (s - 2) 0)) := if_pos ⟨h1, h2⟩
theorem strCh_ok (h1 : 2 ≤ s) (h2 : s < 26) (hi : i < strLen.getD (s - 2) 0) : strCh s (Int32.ofNat i) = some ((strByt.getD (s - 2) []).getD i 0) := by
  have := sL_30 (s - 2) (by omega)
  unfold strCh
  rw [if_pos ⟨⟨h1, h2⟩, inb_n hi (by omega)⟩, nn i (by omega)]
theorem c_isWord (h : Ky M) (r : RdK M) (tx : Tx M b n) (h2 : M.1 66 2 = Int32.ofNat (tE b n e)) (h3 : M.1 66 3 = Int32.ofNat (tK b n e)) (h4 : M.1 66 4 = Int32.ofNat (tB b n e)) (he : e ≤ n) (s1 : 2 ≤ s) (s2 : s < 26) : sh_X6_isWord 66 s M = some (bI (isWd b n e s)) := by
  have hn7 := tx.1
  have eT := tE_ok (b := b) he
  have k4 : tK b n e ≤ 4 := ck_4 b n (tB b n e)
  have hL := sL_30 (s - 2) (by omega)
  unfold sh_X6_isWord X6_isWord_F X6_isWord_J24
  rw [rd_O h, bs, rd_I h, bs, h3]
  by_cases c1 : tK b n e = 1
  · rw [if_pos (by rw [c1]; rfl), rd_I h, bs, rd_I h, bs, h2, h4, strLn_ok s1 s2, bs, sub_n (by omega) (by omega)]
    by_cases c2 : tE b n e - tB b n e = strLen.getD (s - 2) 0
    · rw [if_pos (by rw [c2])]
      have run := tE_run (b := b) he (Or.inl c1)
      rw [c1] at run
      have key : ∃ r, lp (X6_isWord_B28 66 s M) FU 0 = some r ∧ Sum.elim (fun _ => (zck 1).bind fun z12 => some z12) (fun _ => (zck 0).bind fun z15 => some z15) r = some (bI (isWd b n e s)) := by
        refine lp_inv (fun j q => q = Int32.ofNat j ∧ ∀ i, i < j → b (tB b n e + i) = (strByt.getD (s - 2) []).getD i 0) _ (strLen.getD (s - 2) 0) ?_ ?_ ⟨rfl, fun i hi => absurd hi (Nat.not_lt_zero _)⟩ (by omega)
        · rintro j q hj ⟨g1, g2⟩
          subst g1
          have hx := tx_eq tx (Or.inl (run.1 (tB b n e + j) (by omega) (by omega)))
          have e0 : X6_isWord_B28 66 s M (Int32.ofNat j) = if b (tB b n e + j) = (strByt.getD (s - 2) []).getD j 0 then some (.inl (Int32.ofNat (j + 1))) else some (.inr (.inr ())) := by
            unfold X6_isWord_B28
            rw [strLn_ok s1 s2, bs, if_neg (fun q => by have := (le_n (by omega) (by omega)).mp q; omega), rd_R h r, bs, rd_I h, bs, h4, ad_n, ld65 h (by omega), bs, strCh_ok s1 s2 hj, bs, hx, pl1]
          by_cases c : b (tB b n e + j) = (strByt.getD (s - 2) []).getD j 0
          · rw [if_pos c] at e0
            refine Or.inl ⟨_, e0, rfl, fun i hi => ?_⟩
            by_cases q : i = j
            · rw [q]; exact c
            · exact g2 i (by omega)
          · rw [if_neg c] at e0
            refine Or.inr ⟨_, e0, ?_⟩
            rw [bI_f (fun q => c (q.2.2 j hj))]
            rfl
        · rintro q ⟨g1, g2⟩
          subst g1
          refine ⟨.inl (), ?_, ?_⟩
          · unfold X6_isWord_B28
            rw [strLn_ok s1 s2, bs, if_pos (Int32.le_refl _)]
          · rw [bI_t ⟨c1, c2, g2⟩]
            rfl
      obtain ⟨q, q1, q2⟩ := key
      rw [q1, bs]
      exact q2
    · rw [if_neg (fun q => c2 ((eq_n (by omega) (by omega)).mp q)), bI_f (fun q => c2 q.2.1)]
      rfl
  · rw [if_neg (show ¬ Int32.ofNat (tK b n e) = 1 from fun q => c1 ((eq_n (a := tK b n e) (b := 1) (by omega) (by omega)).mp q)), bI_f (fun q => c1 q.1)]
    rfl
/-- the reference's word -/
theorem m_is (h : Ky M) (eb : M.1 329 = b) (rt : RT M b n e) (hn7 : n ≤ 700) (s1 : 2 ≤ s) (s2 : s < 26) : sh_X12_is 319 s M = some (bI (M.1 319 18 = 0 ∧ isWd b n e s)) := by
  obtain ⟨t1, t2, t3, t4, t5, -, he⟩ := rt
  have eT := tE_ok (b := b) he
  have k4 : tK b n e ≤ 4 := ck_4 b n (tB b n e)
  have hL := sL_30 (s - 2) (by omega)
  have loop : ∀ A : Prop, (A → tE b n e - tB b n e = strLen.getD (s - 2) 0) → lp (X12_is_B39 319 s M) FU (bI A, 0) = some (bI (A ∧ ∀ i, i < strLen.getD (s - 2) 0 → b (tB b n e + i) = (strByt.getD (s - 2) []).getD i 0)) := fun A hA => by
    have key : ∃ q, lp (X12_is_B39 319 s M) FU (bI A, 0) = some q ∧ q = bI (A ∧ ∀ i, i < strLen.getD (s - 2) 0 → b (tB b n e + i) = (strByt.getD (s - 2) []).getD i 0) := by
      refine lp_inv (fun j q => q.1 = bI (A ∧ ∀ i, i < j → b (tB b n e + i) = (strByt.getD (s - 2) []).getD i 0) ∧ q.2 = Int32.ofNat j) _ (strLen.getD (s - 2) 0) ?_ ?_ ⟨bI_c ⟨fun q => ⟨q, fun i hi => absurd hi (Nat.not_lt_zero _)⟩, fun q => q.1⟩, rfl⟩ (by omega)
      · rintro j ⟨x, y⟩ hj ⟨g1, g2⟩
        replace g1 : x = bI (A ∧ ∀ i, i < j → b (tB b n e + i) = (strByt.getD (s - 2) []).getD i 0) := g1
        replace g2 : y = Int32.ofNat j := g2
        subst g1 g2
        by_cases c : A ∧ ∀ i, i < j → b (tB b n e + i) = (strByt.getD (s - 2) []).getD i 0
        · have hlen := hA c.1
          have e0 : X12_is_B39 319 s M (bI (A ∧ ∀ i, i < j → b (tB b n e + i) = (strByt.getD (s - 2) []).getD i 0), Int32.ofNat j) = some (.inl (bI (A ∧ ∀ i, i < j + 1 → b (tB b n e + i) = (strByt.getD (s - 2) []).getD i 0), Int32.ofNat (j + 1))) := by
            unfold X12_is_B39 X12_is_J75
            rw [bI_t c, if_neg (show ¬ ((1 : Int32), Int32.ofNat j).1 = 0 from by show ¬ (1 : Int32) = 0; decide), strLn_ok s1 s2, bs]
            show (if Int32.ofNat (strLen.getD (s - 2) 0) ≤ Int32.ofNat j then _ else (strCh s (Int32.ofNat j)).bind _) = _
            rw [if_neg (fun q => by have := (le_n (by omega) (by omega)).mp q; omega), strCh_ok s1 s2 hj, bs, m_tape h, bs, m_I h, bs, t4]
            show (ldA M 0 329 (Int32.ofNat (tB b n e) + Int32.ofNat j)).bind _ = _
            rw [ad_n, ld329 h (by omega), bs, eb]
            show (if _ then some (Sum.inl ((1 : Int32), Int32.ofNat j + 1)) else some (Sum.inl ((0 : Int32), Int32.ofNat j + 1))) = _
            rw [pl1]
            by_cases d : b (tB b n e + j) = (strByt.getD (s - 2) []).getD j 0
            · rw [if_pos d.symm, bI_t]
              refine ⟨c.1, fun i hi => ?_⟩
              by_cases q : i = j
              · rw [q]; exact d
              · exact c.2 i (by omega)
            · rw [if_neg (fun q => d q.symm), bI_f (fun q => d (q.2 j (by omega)))]
          exact Or.inl ⟨_, e0, rfl, rfl⟩
        · refine Or.inr ⟨0, ?_, ?_⟩
          · unfold X12_is_B39
            rw [bI_f c, if_pos rfl]
          · rw [bI_f (fun q => c ⟨q.1, fun i hi => q.2 i (by omega)⟩)]
      · rintro ⟨x, y⟩ ⟨g1, g2⟩
        replace g1 : x = _ := g1
        replace g2 : y = Int32.ofNat (strLen.getD (s - 2) 0) := g2
        subst g1 g2
        refine ⟨_, ?_, rfl⟩
        unfold X12_is_B39
        by_cases c : A ∧ ∀ i, i < strLen.getD (s - 2) 0 → b (tB b n e + i) = (strByt.getD (s - 2) []).getD i 0
        · rw [bI_t c, if_neg (show ¬ ((1 : Int32), Int32.ofNat (strLen.getD (s - 2) 0)).1 = 0 from by show ¬ (1 : Int32) = 0; decide), strLn_ok s1 s2, bs]
          show (if Int32.ofNat (strLen.getD (s - 2) 0) ≤ Int32.ofNat (strLen.getD (s - 2) 0) then _ else _) = _
          rw [if_pos (Int32.le_refl _)]
        · rw [bI_f c, if_pos rfl]
    obtain ⟨q, q1, q2⟩ := key
    rw [q1, q2]
  have no : X12_is_J35 319 s M = some 0 := by
    unfold X12_is_J35 X12_is_J36 X12_is_J82
    have l := loop False (fun q => q.elim)
    rw [bI_f (p := False) (fun q => q)] at l
    rw [l, bs, bI_f (fun q => q.1)]
    rfl
  unfold sh_X12_is X12_is_F
  rw [m_O h, bs, m_I h, bs]
  by_cases c0 : M.1 319 18 = 0
  · rw [if_pos c0, m_I h, bs, t3]
    by_cases c1 : tK b n e = 1
    · rw [if_pos (by rw [c1]; rfl), strLn_ok s1 s2, bs, m_I h, bs, m_I h, bs, t4, t5, sub_n (by omega) (by omega)]
      by_cases c2 : strLen.getD (s - 2) 0 = tE b n e - tB b n e
      · rw [if_pos (by rw [c2])]
        have l := loop True (fun _ => c2.symm)
        rw [bI_t (p := True) trivial] at l
        unfold X12_is_J36 X12_is_J82
        rw [l, bs, zck_b, bs]
        congr 1
        exact bI_c ⟨fun q => ⟨c0, c1, c2.symm, q.2⟩, fun q => ⟨trivial, q.2.2.2⟩⟩
      · rw [if_neg (fun q => c2 ((eq_n (by omega) (by omega)).mp q)), no, bI_f (fun q => c2 q.2.2.1.symm)]
    · rw [if_neg (show ¬ Int32.ofNat (tK b n e) = 1 from fun q => c1 ((eq_n (a := tK b n e) (b := 1) (by omega) (by omega)).mp q)), no, bI_f (fun q => c1 q.2.1)]
  · rw [if_neg c0, no, bI_f (fun q => c0 q.1)]
end
