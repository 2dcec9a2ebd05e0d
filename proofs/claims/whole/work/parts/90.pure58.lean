/-! ===== PURE 58: feed ===== -/
/-- the r-th byte of a number: the class's, the reference's -/
def cby (x : Int32) (r : Nat) : Int32 := (((ushI x (Int32.ofNat (24 - 8 * r))).toInt8.toInt32).toInt8.toInt32)
def rby (x : Int32) (r : Nat) : Int32 := (x >>> (Int32.ofNat (24 - 8 * r) &&& 31)) &&& 255
theorem and255 (x : Int32) : isN (x &&& 255) 0 255 := by
  have h : (x &&& 255).toBitVec.toNat ≤ 255 := by
    show (x.toBitVec &&& 255#32).toNat ≤ 255
    rw [BitVec.toNat_and]
    exact Nat.and_le_right
  refine ⟨(x &&& 255).toBitVec.toNat, ?_, Nat.zero_le _, h⟩
  apply Int32.toBitVec_inj.mp
  show _ = BitVec.ofNat 32 _
  rw [BitVec.ofNat_toNat, BitVec.setWidth_eq]
theorem low8 (b : BitVec 32) (s : Nat) (hs : s ≤ 24) : (b >>> s).signExtend 8 = (b.sshiftRight s &&& 255#32).signExtend 8 := by
  apply BitVec.eq_of_getLsbD_eq
  intro i hi
  have h255 : (255#32).getLsbD i = true := by
    have : ∀ i, i < 8 → (255#32).getLsbD i = true := by decide
    exact this i hi
  rw [BitVec.getLsbD_signExtend, BitVec.getLsbD_signExtend, if_pos (by omega), if_pos (by omega), BitVec.getLsbD_and, BitVec.getLsbD_ushiftRight, BitVec.getLsbD_sshiftRight, h255, Bool.and_true, if_pos (by omega)]
  simp [show ¬ 32 ≤ i by omega]
theorem by8 (x : Int32) {r : Nat} (hr : r < 4) : BtV (cby x r) (rby x r) := by
  refine ⟨and255 _, ?_⟩
  unfold cby rby
  rw [Int8.toInt8_toInt32]
  congr 1
  have key : ∀ (s : Nat), s ≤ 24 → ∀ v : Int32, (ushI x v).toBitVec = x.toBitVec >>> s → (x >>> (v &&& 31)).toBitVec = x.toBitVec.sshiftRight s → (ushI x v).toInt8 = (x >>> (v &&& 31) &&& 255).toInt8 := fun s hs v h1 h2 => by
    apply Int8.toBitVec_inj.mp
    rw [Int32.toBitVec_toInt8, Int32.toBitVec_toInt8, h1, low8 _ s hs]
    show _ = BitVec.signExtend 8 ((x >>> (v &&& 31)).toBitVec &&& 255#32)
    rw [h2]
  match r, hr with
  | 0, _ => exact key 24 (by omega) 24 rfl rfl
  | 1, _ => exact key 16 (by omega) 16 rfl rfl
  | 2, _ => exact key 8 (by omega) 8 rfl rfl
  | 3, _ => exact key 0 (by omega) 0 rfl rfl
section
variable {M M1 M2 : Gm} {P D k n c j t : Nat}
/-- a byte is put on the class's tape -/
def put (M : Gm) (t : Nat) (b : Int32) : Gm := sI (sI M 65 t b) 64 1 (Int32.ofNat (t + 1))
theorem c_put1 (hM : Ky M) (o : ObK M P D) (ht : M.1 64 1 = Int32.ofNat t) (h7 : t < 700) (x v : Int32) (hv : ¬ v < 0) : X11_putNumber_B3 64 x (v, M) = some (.inl (v + (-8), put M t (((ushI x v).toInt8.toInt32).toInt8.toInt32))) := by
  have c7 : ¬ (700 : Int32) ≤ Int32.ofNat t := by rw [show (700 : Int32) = Int32.ofNat 700 from rfl, le_n (by omega) (by omega)]; omega
  unfold X11_putNumber_B3 put
  rw [if_neg hv, o_I hM, bs, ht, if_neg c7, o_tape hM o, bs, bs, st65 hM _ h7, bs, o_I (hM.sI _ _ _), bs, sI_ne _ _ _ (by decide), ht, pl1, o_P (hM.sI _ _ _), bs]
theorem put_ok (hM : Ky M) (o : ObK M P D) (b : Int32) : Ky (put M t b) ∧ ObK (put M t b) P D ∧ (put M t b).1 64 1 = Int32.ofNat (t + 1) := by
  refine ⟨(hM.sI _ _ _).sI _ _ _, o, ?_⟩
  unfold put
  rw [sI_own, ud_at]
theorem c_put (hM : Ky M) (o : ObK M P D) (ht : M.1 64 1 = Int32.ofNat t) (h7 : t + 4 ≤ 700) (x : Int32) : ∃ M', sh_X11_putNumber 64 x M = some M' ∧ M'.2 = M.2 ∧ M'.1 64 1 = Int32.ofNat (t + 4) ∧ (∀ q, q ≠ 1 → M'.1 64 q = M.1 64 q) ∧ (∀ b, b ≠ 64 → b ≠ 65 → M'.1 b = M.1 b) ∧ (∀ i, i < t → M'.1 65 i = M.1 65 i) ∧ ∀ r, r < 4 → M'.1 65 (t + r) = cby x r := by
  obtain ⟨a0, a1, a2⟩ := put_ok (t := t) hM o (cby x 0)
  obtain ⟨b0, b1, b2⟩ := put_ok (t := t + 1) a0 a1 (cby x 1)
  obtain ⟨d0, d1, d2⟩ := put_ok (t := t + 2) b0 b1 (cby x 2)
  obtain ⟨e0, e1, e2⟩ := put_ok (t := t + 3) d0 d1 (cby x 3)
  have s0 := c_put1 hM o ht (by omega) x 24 (by decide)
  have s1 := c_put1 a0 a1 a2 (by omega) x 16 (by decide)
  have s2 := c_put1 b0 b1 b2 (by omega) x 8 (by decide)
  have s3 := c_put1 d0 d1 d2 (by omega) x 0 (by decide)
  have g0 : ((ushI x 24).toInt8.toInt32).toInt8.toInt32 = cby x 0 := rfl
  have g1 : ((ushI x 16).toInt8.toInt32).toInt8.toInt32 = cby x 1 := rfl
  have g2 : ((ushI x 8).toInt8.toInt32).toInt8.toInt32 = cby x 2 := rfl
  have g3 : ((ushI x 0).toInt8.toInt32).toInt8.toInt32 = cby x 3 := rfl
  rw [g0, show (24 : Int32) + (-8) = 16 by decide] at s0
  rw [g1, show (16 : Int32) + (-8) = 8 by decide] at s1
  rw [g2, show (8 : Int32) + (-8) = 0 by decide] at s2
  rw [g3] at s3
  have loop : lp (X11_putNumber_B3 64 x) FU (24, M) = some (put (put (put (put M t (cby x 0)) (t + 1) (cby x 1)) (t + 2) (cby x 2)) (t + 3) (cby x 3)) := by
    refine lp_for (fun i => match i with
      | 0 => (24, M)
      | 1 => (16, put M t (cby x 0))
      | 2 => (8, put (put M t (cby x 0)) (t + 1) (cby x 1))
      | 3 => (0, put (put (put M t (cby x 0)) (t + 1) (cby x 1)) (t + 2) (cby x 2))
      | _ => ((0 : Int32) + (-8), put (put (put (put M t (cby x 0)) (t + 1) (cby x 1)) (t + 2) (cby x 2)) (t + 3) (cby x 3))) _ 4 (fun i hi => ?_) ?_ (by omega)
    · match i, hi with
      | 0, _ => exact s0
      | 1, _ => exact s1
      | 2, _ => exact s2
      | 3, _ => exact s3
    · show X11_putNumber_B3 64 x ((0 : Int32) + (-8), put (put (put (put M t (cby x 0)) (t + 1) (cby x 1)) (t + 2) (cby x 2)) (t + 3) (cby x 3)) = _
      unfold X11_putNumber_B3
      rw [if_pos (show (0 : Int32) + (-8) < 0 by decide)]
  have r65 : ∀ (X : Gm) (u : Nat) (b : Int32), (put X u b).1 65 = ud (X.1 65) u b := fun X u b => by unfold put; rw [sI_ne _ _ _ (by decide), sI_own]
  have r64 : ∀ (X : Gm) (u : Nat) (b : Int32) (q : Nat), q ≠ 1 → (put X u b).1 64 q = X.1 64 q := fun X u b q hq => by unfold put; rw [sI_own, ud_ne _ _ hq, sI_ne _ _ _ (by decide)]
  have rr : ∀ (X : Gm) (u : Nat) (b : Int32) (q : Nat), q ≠ 64 → q ≠ 65 → (put X u b).1 q = X.1 q := fun X u b q h1 h2 => by unfold put; rw [sI_ne _ _ _ h1, sI_ne _ _ _ h2]
  refine ⟨_, ?_, ?_, e2, fun q hq => ?_, fun b h1 h2 => ?_, fun i hi => ?_, fun r hr => ?_⟩
  · unfold sh_X11_putNumber X11_putNumber_F X11_putNumber_J46
    rw [o_O hM, bs, loop, bs]
  · rfl
  · rw [r64 _ _ _ _ hq, r64 _ _ _ _ hq, r64 _ _ _ _ hq, r64 _ _ _ _ hq]
  · rw [rr _ _ _ _ h1 h2, rr _ _ _ _ h1 h2, rr _ _ _ _ h1 h2, rr _ _ _ _ h1 h2]
  · rw [r65, ud_ne _ _ (by omega), r65, ud_ne _ _ (by omega), r65, ud_ne _ _ (by omega), r65, ud_ne _ _ (by omega)]
  · rw [r65, r65, r65, r65]
    match r, hr with
    | 0, _ => rw [ud_ne _ _ (by omega), ud_ne _ _ (by omega), ud_ne _ _ (by omega), Nat.add_zero, ud_at]
    | 1, _ => rw [ud_ne _ _ (by omega), ud_ne _ _ (by omega), ud_at]
    | 2, _ => rw [ud_ne _ _ (by omega), ud_at]
    | 3, _ => rw [ud_at]
/-- the k-th byte of five numbers -/
def w5 (a b c d e : Int32) (k : Nat) : Int32 := if k < 4 then a else if k < 8 then b else if k < 12 then c else if k < 16 then d else e
theorem m_feedL (hM : Ky M) (ht : M.1 319 11 = Int32.ofNat t) (h7 : t + 20 ≤ 700) (a b c d e : Int32) : ∃ M', lp (X12_feed_B23 319 a b c d e) FU (0, M) = some M' ∧ M'.2 = M.2 ∧ M'.1 319 = ud (M.1 319) 11 (Int32.ofNat (t + 20)) ∧ (∀ q, q ≠ 319 → q ≠ 329 → M'.1 q = M.1 q) ∧ M'.1 329 = fun i => if t ≤ i ∧ i < t + 20 then rby (w5 a b c d e (i - t)) ((i - t) % 4) else M.1 329 i := by
  have key : lp (X12_feed_B23 319 a b c d e) FU (0, M) = some (sI (wR M 329 (fun i => if t ≤ i ∧ i < t + 20 then rby (w5 a b c d e (i - t)) ((i - t) % 4) else M.1 329 i)) 319 11 (Int32.ofNat (t + 20))) := by
    have h0 : (0, M) = (fun k => (Int32.ofNat k, sI (wR M 329 (fun i => if t ≤ i ∧ i < t + k then rby (w5 a b c d e (i - t)) ((i - t) % 4) else M.1 329 i)) 319 11 (Int32.ofNat (t + k)))) 0 := by
      show _ = (Int32.ofNat 0, sI (wR M 329 _) 319 11 (Int32.ofNat (t + 0)))
      rw [show (fun i => if t ≤ i ∧ i < t + 0 then rby (w5 a b c d e (i - t)) ((i - t) % 4) else M.1 329 i) = M.1 329 from funext fun i => if_neg (by omega), wR_self, Nat.add_zero, ← ht, sI_wR]
      have : ud (M.1 319) 11 (M.1 319 11) = M.1 319 := funext fun q => by
        unfold ud
        by_cases cq : q = 11
        · rw [if_pos cq, cq]
        · rw [if_neg cq]
      rw [this, wR_self]
      rfl
    rw [h0]
    refine lp_for (fun k => (Int32.ofNat k, sI (wR M 329 (fun i => if t ≤ i ∧ i < t + k then rby (w5 a b c d e (i - t)) ((i - t) % 4) else M.1 329 i)) 319 11 (Int32.ofNat (t + k)))) _ 20 (fun k hk => ?_) rfl (by omega)
    have hX : Ky (sI (wR M 329 (fun i => if t ≤ i ∧ i < t + k then rby (w5 a b c d e (i - t)) ((i - t) % 4) else M.1 329 i)) 319 11 (Int32.ofNat (t + k))) := (hM.wR _ _).sI _ _ _
    have e11 : (sI (wR M 329 (fun i => if t ≤ i ∧ i < t + k then rby (w5 a b c d e (i - t)) ((i - t) % 4) else M.1 329 i)) 319 11 (Int32.ofNat (t + k))).1 319 11 = Int32.ofNat (t + k) := by rw [sI_own, ud_at]
    have r29 : (sI (wR M 329 (fun i => if t ≤ i ∧ i < t + k then rby (w5 a b c d e (i - t)) ((i - t) % 4) else M.1 329 i)) 319 11 (Int32.ofNat (t + k))).1 329 = fun i => if t ≤ i ∧ i < t + k then rby (w5 a b c d e (i - t)) ((i - t) % 4) else M.1 329 i := by rw [sI_ne _ _ _ (by decide), wR_own]
    have J : ∀ w : Int32, X12_feed_J76 319 a b c d e (Int32.ofNat k) w (sI (wR M 329 (fun i => if t ≤ i ∧ i < t + k then rby (w5 a b c d e (i - t)) ((i - t) % 4) else M.1 329 i)) 319 11 (Int32.ofNat (t + k))) = some (.inl (Int32.ofNat (k + 1), sI (sI (sI (wR M 329 (fun i => if t ≤ i ∧ i < t + k then rby (w5 a b c d e (i - t)) ((i - t) % 4) else M.1 329 i)) 319 11 (Int32.ofNat (t + k))) 329 (t + k) (rby w (k % 4))) 319 11 (Int32.ofNat (t + k + 1)))) := fun w => by
      have hmod := Nat.mod_lt k (show 0 < 4 by omega)
      have e8 : (24 : Int32) - 8 * Int32.ofNat (k % 4) = Int32.ofNat (24 - 8 * (k % 4)) := by
        rw [show (8 : Int32) = Int32.ofNat 8 from rfl, ← Int32.ofNat_mul, show (24 : Int32) = Int32.ofNat 24 from rfl, sub_n (by omega) (by omega)]
      unfold X12_feed_J76
      rw [m_tape hX, bs, m_I hX, bs, e11, show (4 : Int32) = Int32.ofNat 4 from rfl, rm_n (by omega) (by omega) (by omega), bs, e8, st329 hX _ (by omega), bs, m_I (hX.sI _ _ _), bs, sI_ne _ _ _ (by decide), e11, pl1, m_P (hX.sI _ _ _), bs, suc_n]
      rfl
    have fin : sI (sI (sI (wR M 329 (fun i => if t ≤ i ∧ i < t + k then rby (w5 a b c d e (i - t)) ((i - t) % 4) else M.1 329 i)) 319 11 (Int32.ofNat (t + k))) 329 (t + k) (rby (w5 a b c d e k) (k % 4))) 319 11 (Int32.ofNat (t + k + 1)) = sI (wR M 329 (fun i => if t ≤ i ∧ i < t + (k + 1) then rby (w5 a b c d e (i - t)) ((i - t) % 4) else M.1 329 i)) 319 11 (Int32.ofNat (t + (k + 1))) := by
      have fu := fill_ud (fun q => rby (w5 a b c d e q) (q % 4)) (M.1 329) t k
      refine Prod.ext ?_ rfl
      funext q i
      by_cases c9 : q = 319
      · subst c9
        rw [sI_own, sI_ne _ _ _ (by decide), sI_own, sI_own, wR_ne _ _ (by decide), wR_ne _ _ (by decide)]
        unfold ud
        by_cases c11 : i = 11
        · rw [if_pos c11, if_pos c11]; rfl
        · rw [if_neg c11, if_neg c11, if_neg c11]
      · by_cases c2 : q = 329
        · subst c2
          rw [sI_ne _ _ _ (by decide), sI_own, r29, sI_ne _ _ _ (by decide), wR_own]
          exact congrFun fu i
        · rw [sI_ne _ _ _ c9, sI_ne _ _ _ c2, sI_ne _ _ _ c9, wR_ne _ _ c2, sI_ne _ _ _ c9, wR_ne _ _ c2]
    unfold X12_feed_B23
    rw [show (20 : Int32) = Int32.ofNat 20 from rfl, show (4 : Int32) = Int32.ofNat 4 from rfl, show (8 : Int32) = Int32.ofNat 8 from rfl, show (12 : Int32) = Int32.ofNat 12 from rfl, show (16 : Int32) = Int32.ofNat 16 from rfl]
    simp (disch := omega) only [le_n, J]
    rw [if_neg (by omega), ← fin]
    unfold w5
    by_cases q1 : k < 4
    · rw [if_neg (by omega), if_pos q1]
    · rw [if_pos (by omega), if_neg q1]
      by_cases q2 : k < 8
      · rw [if_neg (by omega), if_pos q2]
      · rw [if_pos (by omega), if_neg q2]
        by_cases q3 : k < 12
        · rw [if_neg (by omega), if_pos q3]
        · rw [if_pos (by omega), if_neg q3]
          by_cases q4 : k < 16
          · rw [if_neg (by omega), if_pos q4]
          · rw [if_pos (by omega), if_neg q4]
  refine ⟨_, key, rfl, ?_, fun q h1 h2 => ?_, ?_⟩
  · rw [sI_own, wR_ne _ _ (by decide)]
  · rw [sI_ne _ _ _ h1, wR_ne _ _ h2]
  · rw [sI_ne _ _ _ (by decide), wR_own]
/-- the class's tape has changed, and nothing else -/
theorem CV.tape {A A' : Nat → Nat → Int32} (cv : CV M A P D k) (e2 : M1.2 = M.2) (ei : ∀ b, b ≠ 64 → b ≠ 65 → (b < 299 ∨ 345 < b) → M1.1 b = M.1 b) (e64 : ∀ q, q ≠ 1 → M1.1 64 q = M.1 64 q) (hA : ∀ a, a ∈ [324, 325, 328, 333, 334, 335, 336, 339, 340, 341, 342, 343, 344] → A' a = A a) (hB : ∀ i, i ∈ [20, 26, 28, 35, 36, 37] → A' 319 i = A 319 i) (tp : TpV M1 A') : CV M1 A' P D k := by
  obtain ⟨⟨o, w, pd, t6⟩, ⟨m1, m2, ⟨P1, s1⟩, ⟨P2, s2⟩, ak⟩, ⟨n, c, a1, a2, a3⟩, ⟨i1, i2⟩, -, ft⟩ := cv
  have hD : D = 67 ∨ D = 162 := by rcases o.2 with q | q <;> omega
  have eT := hA 325 (by decide)
  have sdX : ∀ S R, Sd M S P R (A 325) k → (S + 14 < 299 ∨ 346 ≤ S) → 65 < S → Sd M1 S P R (A 325) k := fun S R q1 q2 q3 => ⟨q1.1.eq e2, q1.2.1, q1.2.2.1.ext (fun a _ _ => ei a (by omega) (by omega) (by omega)), q1.2.2.2⟩
  have mvX : ∀ {Q N pa nz nm nh st n c}, isQ Q → MmV M Q P (A 325) k N pa nz nm nh st n c → MmV M1 Q P (A 325) k N pa nz nm nh st n c := fun {Q N pa nz nm nh st n c} h0 q => by
    have h0' := h0
    unfold isQ at h0'
    obtain ⟨b1, ⟨x, d1, d2, d3, d4, d5⟩, e1, e2', e3⟩ := q
    refine ⟨sdX _ _ b1 (by omega) (by omega), ⟨x, d1, by rw [ei Q (by omega) (by omega) (by omega)]; exact d2, by rw [ei Q (by omega) (by omega) (by omega)]; exact d3, d4, fun i hi => ?_⟩, ?_, e2', fun i hi => by rw [ei (Q + 5) (by omega) (by omega) (by omega)]; exact e3 i hi⟩
    · have ee : ∀ p, eA M1 Q p = eA M Q p := fun p => by unfold eA; rw [e2]
      rw [ee]
      have bg := ak.1 Q _ h0 (Nat.mod_lt _ (by omega)) (d5 i hi).1
      exact ⟨(d5 i hi).1, sdX _ _ (d5 i hi).2 (by omega) (by omega)⟩
    · unfold NtV at *
      rw [ei Q (by omega) (by omega) (by omega), ei (Q + 2) (by omega) (by omega) (by omega), ei (Q + 3) (by omega) (by omega) (by omega), ei (Q + 4) (by omega) (by omega) (by omega)]
      exact e1
  refine ⟨⟨?_, ?_, pd.eq e2, by rw [eT]; exact t6⟩, ⟨?_, ?_, ⟨P1, s1.eq e2⟩, ⟨P2, s2.eq e2⟩, ak.ext e2⟩, ⟨n, c, (hB 26 (by decide)).trans a1, (hB 28 (by decide)).trans a2, ?_⟩, ⟨?_, ?_⟩, tp, ?_⟩
  · unfold ObK at *; rw [e2]; exact o
  · rw [eT]
    obtain ⟨u1, u2, u3, u4, u5, u6, u7⟩ := w
    have u5' := u5
    unfold POk at u5'
    refine ⟨u1.eq e2, ?_, ?_, u4.eq e2, u5, u6, u7.ext u4 u6 (fun k => by rw [e2]) (fun a h1 h2 => ei a (by omega) (by omega) (by omega))⟩
    · unfold CkK at *; rw [e2]; exact u2
    · unfold FsK at *; rw [e2]; exact u3
  · unfold MmK at *; rw [e2]; exact m1
  · unfold MmK at *; rw [e2]; exact m2
  · rw [eT, hA 324 (by decide), hA 333 (by decide), hA 334 (by decide), hA 335 (by decide), hA 336 (by decide), hA 328 (by decide)]
    exact mvX (Or.inl rfl) a3
  · rw [hB 35 (by decide), e64 8 (by decide)]; exact i1
  · rw [hB 35 (by decide), hB 36 (by decide), hB 37 (by decide), eT, hA 339 (by decide), hA 340 (by decide), hA 341 (by decide), hA 342 (by decide), hA 343 (by decide), hA 344 (by decide)]
    rcases i2 with q | ⟨q, n', c', b1, b2, b3⟩
    · exact Or.inl q
    · exact Or.inr ⟨q, n', c', b1, b2, mvX (Or.inr rfl) b3⟩
  · rw [hB 20 (by decide), e64 2 (by decide)]; exact ft
theorem a_feed (h : Inv M j) (a b c d e : Int32) : An2 (sh_X11_feed 64 a b c d e) (sh_X12_feed 319 a b c d e) M j := by
  obtain ⟨⟨P, D, cv⟩, rm⟩ := id h
  obtain ⟨⟨o, w, -, -⟩, -, -, -, ⟨tl, t1, t2, t3, t4⟩, -⟩ := id cv
  have hM := w.1
  have e20 : ∀ u, u ≤ 700 → Int32.ofNat u + 20 = Int32.ofNat (u + 20) := fun u _ => (Int32.ofNat_add u 20).symm
  by_cases v : tl + 20 ≤ 700
  · have c7 : Int32.ofNat (tl + 20) ≤ 700 := by rw [show (700 : Int32) = Int32.ofNat 700 from rfl, le_n (by omega) (by omega)]; exact v
    obtain ⟨A1, a1, a2, a3, a4, a5, a6, a7⟩ := c_put hM o t1 (by omega) a
    have hA1 := hM.eq a2
    have oA1 : ObK A1 P D := by unfold ObK at *; rw [a2]; exact o
    obtain ⟨A2, b1, b2, b3, b4, b5, b6, b7⟩ := c_put hA1 oA1 a3 (by omega) b
    have hA2 := hA1.eq b2
    have oA2 : ObK A2 P D := by unfold ObK at *; rw [b2]; exact oA1
    obtain ⟨A3, d1, d2, d3, d4, d5, d6, d7⟩ := c_put hA2 oA2 b3 (by omega) c
    have hA3 := hA2.eq d2
    have oA3 : ObK A3 P D := by unfold ObK at *; rw [d2]; exact oA2
    obtain ⟨A4, f1, f2, f3, f4, f5, f6, f7⟩ := c_put hA3 oA3 d3 (by omega) d
    have hA4 := hA3.eq f2
    have oA4 : ObK A4 P D := by unfold ObK at *; rw [f2]; exact oA3
    obtain ⟨A5, g1, g2, g3, g4, g5, g6, g7⟩ := c_put hA4 oA4 f3 (by omega) e
    have hA5 := hA4.eq g2
    have kA : A5.2 = M.2 := by rw [g2, f2, d2, b2, a2]
    have rA : ∀ q, q ≠ 64 → q ≠ 65 → A5.1 q = M.1 q := fun q h1 h2 => by rw [g5 q h1 h2, f5 q h1 h2, d5 q h1 h2, b5 q h1 h2, a5 q h1 h2]
    have r64 : ∀ q, q ≠ 1 → A5.1 64 q = M.1 64 q := fun q hq => by rw [g4 q hq, f4 q hq, d4 q hq, b4 q hq, a4 q hq]
    have l0 : ∀ i, i < tl → A5.1 65 i = M.1 65 i := fun i hi => by rw [g6 i (by omega), f6 i (by omega), d6 i (by omega), b6 i (by omega), a6 i hi]
    have l1 : ∀ q, q < 20 → A5.1 65 (tl + q) = cby (w5 a b c d e q) (q % 4) := fun q hq => by
      unfold w5
      by_cases q1 : q < 4
      · rw [if_pos q1, g6 _ (by omega), f6 _ (by omega), d6 _ (by omega), b6 _ (by omega), a7 q q1, Nat.mod_eq_of_lt q1]
      · rw [if_neg q1]
        by_cases q2 : q < 8
        · have := b7 (q - 4) (by omega)
          rw [if_pos q2, g6 _ (by omega), f6 _ (by omega), d6 _ (by omega), show tl + q = tl + 4 + (q - 4) by omega, this, show q % 4 = q - 4 by omega]
        · rw [if_neg q2]
          by_cases q3 : q < 12
          · have := d7 (q - 8) (by omega)
            rw [if_pos q3, g6 _ (by omega), f6 _ (by omega), show tl + q = tl + 4 + 4 + (q - 8) by omega, this, show q % 4 = q - 8 by omega]
          · rw [if_neg q3]
            by_cases q4 : q < 16
            · have := f7 (q - 12) (by omega)
              rw [if_pos q4, g6 _ (by omega), show tl + q = tl + 4 + 4 + 4 + (q - 12) by omega, this, show q % 4 = q - 12 by omega]
            · have := g7 (q - 16) (by omega)
              rw [if_neg q4, show tl + q = tl + 4 + 4 + 4 + 4 + (q - 16) by omega, this, show q % 4 = q - 16 by omega]
    have A9 : A5.1 319 = M.1 319 := rA 319 (by decide) (by decide)
    obtain ⟨M2, p1, p2, p3, p4, p5⟩ := m_feedL (t := tl) (hA5.sI 319 4 0) (by rw [sI_own, ud_ne _ _ (by decide), A9]; exact t2) v a b c d e
    have e5 : ∀ u, tl + 4 + 4 + 4 + 4 + 4 = u → Int32.ofNat (tl + 4 + 4 + 4 + 4 + 4) = Int32.ofNat u := fun u hu => by rw [hu]
    have g3' : A5.1 64 1 = Int32.ofNat (tl + 20) := by rw [g3]
    have r329 : ∀ i, i < tl + 20 → M2.1 329 i = if tl ≤ i then rby (w5 a b c d e (i - tl)) ((i - tl) % 4) else M.1 329 i := fun i hi => by
      rw [p5]
      show (if tl ≤ i ∧ i < tl + 20 then _ else (sI A5 319 4 0).1 329 i) = _
      rw [sI_ne _ _ _ (by decide), rA 329 (by decide) (by decide)]
      by_cases ci : tl ≤ i
      · rw [if_pos ⟨ci, hi⟩, if_pos ci]
      · rw [if_neg (fun q => ci q.1), if_neg ci]
    have m319 : ∀ q, q ≠ 4 → q ≠ 11 → M2.1 319 q = M.1 319 q := fun q h1 h2 => by rw [p3, ud_ne _ _ h2, sI_own, ud_ne _ _ h1, A9]
    have m11 : M2.1 319 11 = Int32.ofNat (tl + 20) := by rw [p3, ud_at]
    have mrow : ∀ q, q ≠ 319 → q ≠ 329 → M2.1 q = A5.1 q := fun q h1 h2 => by rw [p4 q h1 h2, sI_ne _ _ _ h1]
    refine ⟨Int32.ofNat (tl + 20), A5, M2, ?_, ?_, ?_⟩
    · unfold sh_X11_feed X11_feed_F
      rw [o_O hM, bs, o_I hM, bs, t1, e20 tl (by omega), if_pos c7, a1, bs, b1, bs, d1, bs, f1, bs, g1, bs, o_I hA5, bs, g3']
    · unfold sh_X12_feed X12_feed_F
      have i11 : (sI A5 319 4 0).1 319 11 = Int32.ofNat tl := by rw [sI_own, ud_ne _ _ (by decide), A9]; exact t2
      rw [m_O hA5, bs, m_P hA5, bs, m_I (hA5.sI _ _ _), bs, i11, e20 tl (by omega), if_pos c7, p1, bs, m_I ((hA5.sI 319 4 0).eq p2), bs, m11]
    · have cv1 : CV A5 M2.1 P D (1300 * j) := by
        refine cv.tape kA (fun b h1 h2 _ => rA b h1 h2) r64 (fun q hq => ?_) (fun i hi => ?_) ⟨tl + 20, g3', m11, v, fun i hi => ?_⟩
        · simp only [List.mem_cons, List.not_mem_nil, or_false] at hq
          rw [mrow q (by omega) (by omega), rA q (by omega) (by omega)]
        · simp only [List.mem_cons, List.not_mem_nil, or_false] at hi
          exact m319 i (by omega) (by omega)
        · rw [r329 i hi]
          by_cases ci : tl ≤ i
          · have := l1 (i - tl) (by omega)
            rw [show tl + (i - tl) = i by omega] at this
            rw [if_pos ci, this]
            exact by8 _ (Nat.mod_lt _ (by omega))
          · rw [if_neg ci, l0 i (by omega)]
            exact t4 i (by omega)
      have sc : Sc A5 M2 := Sc.same p2 (fun q hq => mrow q (by omega) (by omega))
      have hl5 : 346 ≤ A5.2.2.length := by rw [kA]; exact rm.1
      have c2 := sc.cv hl5 cv1
      exact ⟨⟨⟨P, D, c2.le (by omega)⟩, rm.ft (by rw [p2]; exact congrArg Prod.snd kA) (by omega)⟩, c2.1.2.1.1⟩
  · have c7 : ¬ Int32.ofNat (tl + 20) ≤ 700 := by rw [show (700 : Int32) = Int32.ofNat 700 from rfl, le_n (by omega) (by omega)]; exact v
    refine ⟨-1, M, sI M 319 4 0, ?_, ?_, ?_⟩
    · unfold sh_X11_feed X11_feed_F
      rw [o_O hM, bs, o_I hM, bs, t1, e20 tl t3, if_neg c7]
    · unfold sh_X12_feed X12_feed_F
      rw [m_O hM, bs, m_P hM, bs, m_I (hM.sI _ _ _), bs, sI_own, ud_ne _ _ (by decide), t2, e20 tl t3, if_neg c7]
    · have q := Rq.z M 0
      exact ⟨⟨⟨P, D, (q.rs.cv (q.sc.cv rm.1 cv)).le (by omega)⟩, rm.ft rfl (by omega)⟩, hM.sI _ _ _⟩
end
