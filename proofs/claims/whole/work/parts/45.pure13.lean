/-! ===== PURE 13: the class's log, flipTrips ===== -/
theorem mLogs_lg {N : Nat → Int32} {k : Nat} (hL : LgOk N k) (hk : k < 2147483647) (a b c : Int32) : lg (mLogs N a b c) = lg N + 1 := by
  have h2 := hL.2
  have e : mLogs N a b c 144 = N 144 + 1 := ud_at _ _ _
  unfold lg
  rw [e, hL.1, pl1, nn _ (by omega), nn _ (by omega)]
section Log
variable {M : Gm} {S P : Nat} {N T : Nat → Int32}
theorem c_addLog (hS : StK M S P) (sv : StV M S N T) (so : SOk S) (hT : TOk T) {k : Nat} (hL : LgOk N k) (hk : k < 2147483600) (a b c : Int32) : ∃ M', sh_X7_addLogRow S a b c M = some M' ∧ Fm [S, S + 14] M M' ∧ StV M' S (mLogs N a b c) T := by
  obtain ⟨f1, f2, f17, f18, f19⟩ := sv.1
  have hl := hL.2
  have hlg := mLogs_lg hL (by omega) a b c
  generalize hg : lg N = l at *
  have hr : l % 40 < 40 := Nat.mod_lt _ (by decide)
  have hrm : rmI (Int32.ofNat (l % 40 + 1)) 40 = some (Int32.ofNat ((l + 1) % 40)) := by
    rw [rm40 (by omega)]
    congr 2
    omega
  have hmin : minI (Int32.ofNat (min 40 l + 1)) 40 = Int32.ofNat (min 40 (l + 1)) := by
    unfold minI
    have q := lt_n (a := 40) (b := min 40 l + 1) (by omega) (by omega)
    by_cases e : 40 < min 40 l + 1
    · rw [if_pos (show (40 : Int32) < Int32.ofNat (min 40 l + 1) from q.mpr e)]
      rw [show min 40 (l + 1) = 40 by omega]; rfl
    · rw [if_neg (show ¬ (40 : Int32) < Int32.ofNat (min 40 l + 1) from fun g => e (q.mp g))]
      rw [show min 40 (l + 1) = min 40 l + 1 by omega]
  have hrun : sh_X7_addLogRow S a b c M = some (wR (wR M (S + 14) (ud (ud (ud (ud (M.1 (S + 14)) (4 * (l % 40)) (N 142)) (4 * (l % 40) + 1) a) (4 * (l % 40) + 2) b) (4 * (l % 40) + 3) c)) S (ud (ud (ud (M.1 S) 17 (Int32.ofNat ((l + 1) % 40))) 18 (Int32.ofNat (min 40 (l + 1)))) 19 (N 144 + 1))) := by
    generalize l % 40 = r at f17 hr hrm ⊢
    generalize (l + 1) % 40 = r' at hrm ⊢
    generalize min 40 (l + 1) = u at hmin ⊢
    generalize min 40 l = u' at f18 hmin
    clear hl hlg
    have hSr : ∀ R, StK (wR M (S + 14) R) S P := fun R => hS.wR _ _
    have hSf : ∀ R F, StK (wR (wR M (S + 14) R) S F) S P := fun R F => (hS.wR _ _).wR _ _
    have hc : ∀ (R : Nat → Int32) (F F' : Nat → Int32), wR (wR (wR M (S + 14) R) S F) S F' = wR (wR M (S + 14) R) S F' := fun R F F' => wR_wR _ _ _ _
    unfold sh_X7_addLogRow X7_addLogRow_F
    simp (disch := omega) only [bs, s_O hS, s_I hS, f17, s_log hS, f2, f1, ml4, pl1, pl2, pl3, ss14 hS, sI_wR, s_log (hSr _), ss14 (hSr _), wR_own, wR_wR, s_I (hSr _), wR_ne, hrm, s_P (hSr _), s_I (hSf _ _), s_P (hSf _ _), ud_ne, f18, m_min, hmin, f19, hc]
  refine ⟨_, hrun, ?_, ?_⟩
  · have g1 : Fm [S, S + 14] M (wR M (S + 14) (ud (ud (ud (ud (M.1 (S + 14)) (4 * (l % 40)) (N 142)) (4 * (l % 40) + 1) a) (4 * (l % 40) + 2) b) (4 * (l % 40) + 3) c)) := ⟨rfl, fun x hx => wR_ne _ _ (fun e => hx (by rw [e]; simp))⟩
    exact g1.trans (L' := [S]) ⟨rfl, fun x hx => wR_ne _ _ (fun e => hx (by rw [e]; simp))⟩ (fun _ q => q) (by simp)
  · have k4 : ∀ j, j < 144 → mLogs N a b c j = N j := fun j hj => mLogs_ne hj
    have e144 : mLogs N a b c 144 = N 144 + 1 := ud_at _ _ _
    have hz := hT.z.2
    have ht10 := hT.t.2
    have hd6 := hT.d.2
    have own : ∀ (R F : Nat → Int32), (wR (wR M (S + 14) R) S F).1 S = F := fun R F => wR_own _ _ _
    have own14 : ∀ (R F : Nat → Int32), (wR (wR M (S + 14) R) S F).1 (S + 14) = R := fun R F => by rw [wR_ne _ _ (by omega), wR_own]
    have oth : ∀ (R F : Nat → Int32) (x : Nat), x ≠ S → x ≠ S + 14 → (wR (wR M (S + 14) R) S F).1 x = M.1 x := fun R F x h1 h2 => by rw [wR_ne _ _ h1, wR_ne _ _ h2]
    unfold StV
    rw [own, own14, oth _ _ (S + 1) (by omega) (by omega), oth _ _ (S + 2) (by omega) (by omega), oth _ _ (S + 3) (by omega) (by omega), oth _ _ (S + 4) (by omega) (by omega), oth _ _ (S + 5) (by omega) (by omega), oth _ _ (S + 6) (by omega) (by omega), oth _ _ (S + 7) (by omega) (by omega), oth _ _ (S + 8) (by omega) (by omega), oth _ _ (S + 9) (by omega) (by omega), oth _ _ (S + 10) (by omega) (by omega), oth _ _ (S + 11) (by omega) (by omega), oth _ _ (S + 12) (by omega) (by omega), oth _ _ (S + 13) (by omega) (by omega), hlg, k4 142 (by decide), k4 143 (by decide), e144]
    refine ⟨⟨?_, ?_, ?_, ?_, ?_⟩, fun z hz => ?_, fun z i hz hi => ?_, fun t ht => ?_, fun d hd => ?_, fun t i ht hi => ?_, fun j hj => ?_⟩
    · rw [ud_ne _ _ (by decide), ud_ne _ _ (by decide), ud_ne _ _ (by decide)]; exact f1
    · rw [ud_ne _ _ (by decide), ud_ne _ _ (by decide), ud_ne _ _ (by decide)]; exact f2
    · rw [ud_ne _ _ (by decide), ud_ne _ _ (by decide), ud_at]
    · rw [ud_ne _ _ (by decide), ud_at]
    · rw [ud_at]
    · rw [k4 _ (by omega), k4 _ (by omega), k4 _ (by omega), k4 _ (by omega), k4 _ (by omega)]; exact sv.2.1 z hz
    · rw [k4 _ (by omega)]; exact sv.2.2.1 z i hz hi
    · rw [k4 _ (by omega), k4 _ (by omega)]; exact sv.2.2.2.1 t ht
    · rw [k4 _ (by omega), k4 _ (by omega)]; exact sv.2.2.2.2.1 d hd
    · have hdi : di T t i < 6 := by
        unfold di
        rw [List.getD_eq_getElem?_getD, List.getElem?_eq_getElem hi]
        exact (((dl_ok hT (t := t) (by omega)).2 _).mp (List.getElem_mem hi)).1
      rw [k4 _ (by omega)]; exact sv.2.2.2.2.2.1 t i ht hi
    · unfold mLogs
      rw [hg, ud_ne _ _ (show 145 + j ≠ 144 by omega)]
      by_cases e3 : j = 4 * (l % 40) + 3
      · subst e3; rw [ud_at, show 145 + (4 * (l % 40) + 3) = 145 + 4 * (l % 40) + 3 by omega, ud_at]
      · rw [ud_ne _ _ e3, ud_ne _ _ (show 145 + j ≠ 145 + 4 * (l % 40) + 3 by omega)]
        by_cases e2 : j = 4 * (l % 40) + 2
        · subst e2; rw [ud_at, show 145 + (4 * (l % 40) + 2) = 145 + 4 * (l % 40) + 2 by omega, ud_at]
        · rw [ud_ne _ _ e2, ud_ne _ _ (show 145 + j ≠ 145 + 4 * (l % 40) + 2 by omega)]
          by_cases e1 : j = 4 * (l % 40) + 1
          · subst e1; rw [ud_at, show 145 + (4 * (l % 40) + 1) = 145 + 4 * (l % 40) + 1 by omega, ud_at]
          · rw [ud_ne _ _ e1, ud_ne _ _ (show 145 + j ≠ 145 + 4 * (l % 40) + 1 by omega)]
            by_cases e0 : j = 4 * (l % 40)
            · subst e0; rw [ud_at, ud_at]
            · rw [ud_ne _ _ e0, ud_ne _ _ (show 145 + j ≠ 145 + 4 * (l % 40) by omega)]
              have := sv.2.2.2.2.2.2 j (by rw [hg]; omega)
              exact this
end Log

