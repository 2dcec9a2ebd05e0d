/-! ===== BASE 3: rules that read and write the memory ===== -/
def cW : Nat → String
  | 0 => RX0
  | 1 => RX1
  | 2 => RX2
  | 3 => RX3
  | 4 => RX4
  | 5 => RX5
  | 6 => RX6
  | 7 => RX7
  | 8 => RX8
  | 9 => RX9
  | 10 => RX10
  | 11 => RX11
  | 12 => RX12
  | _ => ""
def fW : Nat → u_T
  | 0 => TX0
  | 1 => TX1
  | 2 => TX2
  | 3 => TX3
  | 4 => TX4
  | 5 => TX5
  | 6 => TX6
  | 7 => TX7
  | 8 => TX8
  | 9 => TX9
  | 10 => TX10
  | 11 => TX11
  | 12 => TX12
  | _ => TXE
theorem clW_at : ∀ c, c < 13 → clW[c]? = some (cW c, fW c, nfW c) := by
  intro c hc
  match c, hc with
  | 0, _ => rfl
  | 1, _ => rfl
  | 2, _ => rfl
  | 3, _ => rfl
  | 4, _ => rfl
  | 5, _ => rfl
  | 6, _ => rfl
  | 7, _ => rfl
  | 8, _ => rfl
  | 9, _ => rfl
  | 10, _ => rfl
  | 11, _ => rfl
  | 12, _ => rfl
theorem tyW_ok : ∀ c, c < 13 → ∀ k, k < nfW c → parseFieldDescriptor (fW c k).2.2.1 = some (tyW c k) := by
  intro c hc
  match c, hc with
  | 0, _ => exact tyX0_ok
  | 1, _ => exact tyX1_ok
  | 2, _ => exact tyX2_ok
  | 3, _ => exact tyX3_ok
  | 4, _ => exact tyX4_ok
  | 5, _ => exact tyX5_ok
  | 6, _ => exact tyX6_ok
  | 7, _ => exact tyX7_ok
  | 8, _ => exact tyX8_ok
  | 9, _ => exact tyX9_ok
  | 10, _ => exact tyX10_ok
  | 11, _ => exact tyX11_ok
  | 12, _ => exact tyX12_ok
theorem nmW_ok : ∀ c, c < 13 → ∀ a, a < nfW c → ∀ b, b < nfW c → a ≠ b → (fW c a).2.1 ≠ (fW c b).2.1 := by
  intro c hc
  match c, hc with
  | 0, _ => exact nmX0
  | 1, _ => exact nmX1
  | 2, _ => exact nmX2
  | 3, _ => exact nmX3
  | 4, _ => exact nmX4
  | 5, _ => exact nmX5
  | 6, _ => exact nmX6
  | 7, _ => exact nmX7
  | 8, _ => exact nmX8
  | 9, _ => exact nmX9
  | 10, _ => exact nmX10
  | 11, _ => exact nmX11
  | 12, _ => exact nmX12
theorem in_tbl {ws : List Cond} (ps : List Nat) (hp : ws = ps.filterMap (fun i => lw_tbl[i]?)) (h : ws.all goodWord = true) : ∀ t ∈ ws, t ∈ gtbl := fun t ht => by
  have h1 := List.all_eq_true.mp h t ht
  rw [hp] at ht
  obtain ⟨i, -, hi⟩ := List.mem_filterMap.mp ht
  exact gt_mem i hi h1
set_option maxRecDepth 20000 in
theorem inW0 : ∀ t ∈ u_ws RX0 TX0 3, t ∈ gtbl := in_tbl [311, 313, 315] (by decide +kernel) (by decide +kernel)
set_option maxRecDepth 20000 in
theorem inW1 : ∀ t ∈ u_ws RX1 TX1 2, t ∈ gtbl := in_tbl [570, 572] (by decide +kernel) (by decide +kernel)
set_option maxRecDepth 20000 in
theorem inW2 : ∀ t ∈ u_ws RX2 TX2 4, t ∈ gtbl := in_tbl [287, 289, 291, 293] (by decide +kernel) (by decide +kernel)
set_option maxRecDepth 20000 in
theorem inW3 : ∀ t ∈ u_ws RX3 TX3 8, t ∈ gtbl := in_tbl [596, 598, 600, 602, 604, 606, 608, 610] (by decide +kernel) (by decide +kernel)
set_option maxRecDepth 20000 in
theorem inW4 : ∀ t ∈ u_ws RX4 TX4 9, t ∈ gtbl := in_tbl [543, 545, 547, 549, 551, 553, 555, 557, 559] (by decide +kernel) (by decide +kernel)
set_option maxRecDepth 20000 in
theorem inW5 : ∀ t ∈ u_ws RX5 TX5 12, t ∈ gtbl := in_tbl [390, 392, 394, 396, 398, 400, 402, 404, 406, 408, 410, 412] (by decide +kernel) (by decide +kernel)
set_option maxRecDepth 20000 in
theorem inW6 : ∀ t ∈ u_ws RX6 TX6 6, t ∈ gtbl := in_tbl [158, 160, 162, 164, 166, 168] (by decide +kernel) (by decide +kernel)
set_option maxRecDepth 20000 in
theorem inW7 : ∀ t ∈ u_ws RX7 TX7 20, t ∈ gtbl := in_tbl [487, 489, 491, 493, 495, 497, 499, 501, 503, 505, 507, 509, 511, 513, 515, 517, 519, 521, 523, 525] (by decide +kernel) (by decide +kernel)
set_option maxRecDepth 20000 in
theorem inW8 : ∀ t ∈ u_ws RX8 TX8 6, t ∈ gtbl := in_tbl [252, 254, 256, 258, 260, 262] (by decide +kernel) (by decide +kernel)
set_option maxRecDepth 20000 in
theorem inW9 : ∀ t ∈ u_ws RX9 TX9 3, t ∈ gtbl := in_tbl [332, 334, 336] (by decide +kernel) (by decide +kernel)
set_option maxRecDepth 20000 in
theorem inW10 : ∀ t ∈ u_ws RX10 TX10 4, t ∈ gtbl := in_tbl [207, 209, 211, 213] (by decide +kernel) (by decide +kernel)
set_option maxRecDepth 20000 in
theorem inW11 : ∀ t ∈ u_ws RX11 TX11 11, t ∈ gtbl := in_tbl [624, 626, 628, 630, 632, 634, 636, 638, 640, 642, 644] (by decide +kernel) (by decide +kernel)
set_option maxRecDepth 20000 in
theorem inW12 : ∀ t ∈ u_ws RX12 TX12 44, t ∈ gtbl := in_tbl [1449, 1451, 1453, 1455, 1457, 1459, 1461, 1463, 1465, 1467, 1469, 1471, 1473, 1475, 1477, 1479, 1481, 1483, 1485, 1487, 1489, 1491, 1493, 1495, 1497, 1499, 1501, 1503, 1505, 1507, 1509, 1511, 1513, 1515, 1517, 1519, 1521, 1523, 1525, 1527, 1529, 1531, 1533, 1535] (by decide +kernel) (by decide +kernel)
theorem inW : ∀ c, c < 13 → ∀ t ∈ u_ws (cW c) (fW c) (nfW c), t ∈ gtbl := by
  intro c hc
  match c, hc with
  | 0, _ => exact inW0
  | 1, _ => exact inW1
  | 2, _ => exact inW2
  | 3, _ => exact inW3
  | 4, _ => exact inW4
  | 5, _ => exact inW5
  | 6, _ => exact inW6
  | 7, _ => exact inW7
  | 8, _ => exact inW8
  | 9, _ => exact inW9
  | 10, _ => exact inW10
  | 11, _ => exact inW11
  | 12, _ => exact inW12
theorem va_P1 {D : va_G} {cl : List vw_C} {q : Nat × va_E} {H : Heap} (h : va_at D cl q H) : va_P D cl [q] H := fun k x hx => by
  cases k with
  | zero =>
    have e : q = x := Option.some.inj hx
    subst e
    exact h
  | succ k => simp at hx
theorem rho_ge (w : Gw) {a : Nat} (h : 64 ≤ a) : rho w a = w.1.heap.size + (a - 64) := by unfold rho; rw [if_neg (by omega)]
theorem rv_pos (w : Gw) {a : Nat} (h : 64 ≤ a) : rv w (.inr a) = .ref (rho w a) := rv_ref w (by omega)
theorem ce_obj {w : Gw} {M : Gm} {H : Heap} (hR : HR w M H) {a c : Nat} (hk : kd M a = (c, 0)) (hc : c < 15) : 64 ≤ a ∧ el w M a = .inr (c, fl w M a c) ∧ va_at w.2.2.2.1 clW (rho w a, .inr (c, fl w M a c)) H := by
  obtain ⟨g1, g2, g3⟩ := kd_in hR (a := a) (by rw [hk]; show c ≠ 31; omega)
  have e : el w M a = .inr (c, fl w M a c) := by
    unfold el; rw [g3, hk]; show (if c < 32 then _ else _) = _; rw [if_pos (by omega)]
  have h := hR.2.2.2 a g1 g2
  unfold ceW at h
  rw [e] at h
  exact ⟨g1, e, h⟩
theorem el_arr {w : Gw} {M : Gm} {a t n : Nat} (h : M.2.2[a]? = some (32 + t, n)) : el w M a = .inl (w.2.2.2.2 t, elA w M a (32 + t) n) := by
  unfold el; rw [h]; show (if 32 + t < 32 then _ else _) = _; rw [if_neg (by omega), show 32 + t - 32 = t by omega]
theorem ce_arr {w : Gw} {M : Gm} {H : Heap} (hR : HR w M H) {a t : Nat} (hk : (kd M a).1 = 32 + t) : 64 ≤ a ∧ M.2.2[a]? = some (32 + t, (kd M a).2) ∧ va_at w.2.2.2.1 clW (rho w a, .inl (w.2.2.2.2 t, elA w M a (32 + t) (kd M a).2)) H := by
  obtain ⟨g1, g2, g3⟩ := kd_in hR (a := a) (by rw [hk]; omega)
  have e3 : M.2.2[a]? = some (32 + t, (kd M a).2) := by rw [g3, ← hk]
  have h := hR.2.2.2 a g1 g2
  unfold ceW at h
  rw [el_arr e3] at h
  exact ⟨g1, e3, h⟩
theorem tysW_at (w : Gw) {t : Nat} (h : t < 11) : (tysW w)[t]? = some (w.2.2.2.2 t, tyA t) := by
  simp [tysW, h]
theorem elA_i (w : Gw) (M : Gm) (a n : Nat) {t : Nat} (h : t < 3) : elA w M a (32 + t) n = (n, .inl (M.1 a)) := by
  unfold elA; rw [if_pos (by omega)]
theorem elA_l (w : Gw) (M : Gm) (a n : Nat) : elA w M a 35 n = (n, .inr (.inl fun k => (M.1 a k).toInt64)) := rfl
theorem elA_r (w : Gw) (M : Gm) (a n : Nat) {t : Nat} (h : 3 < t) : elA w M a (32 + t) n = (n, .inr (.inr (.inr (.inr fun k => ro w (M.2.1 a k))))) := by
  unfold elA; rw [if_neg (by omega), if_neg (by omega)]
theorem va_S_put {w : Gw} {H0 H H1 : Heap} {locs : List Loc} {a k : Nat} (h : va_S (Fr w) H0 H locs) (z : H1.size = H.size) (oq : ∀ q : Nat, q ≠ a → H1[q]? = H[q]?) (ha : w.1.heap.size ≤ a) : va_S (Fr w) H0 H1 (locs ++ [⟨a, k⟩]) := va_S.put h z oq ha
theorem va_S_push {w : Gw} {H0 H H1 : Heap} {locs : List Loc} (h : va_S (Fr w) H0 H locs) (z : H1.size = H.size + 1) (oq : ∀ q : Nat, q < H.size → H1[q]? = H[q]?) : va_S (Fr w) H0 H1 locs :=
  ⟨by rw [z]; exact Nat.le_succ_of_le h.1, fun q g1 g2 => by rw [oq q (Nat.lt_of_lt_of_le g1 h.1)]; exact h.2.1 q g1 g2, h.2.2⟩
section Rules
variable {w : Gw} {md : Gd} {d pc : Nat} {ls : List (Option Gv)} {st : List Gv} {M : Gm} {o : Go} {M' : Gm}
theorem inb_vp {i : Int32} {n : Nat} (h : inb i n) : vp_in i n := fun q => q.elim h.1 (fun g => absurd h.2 (Nat.not_lt.mpr g))
theorem wp_getI {a c k i : Nat} {x : Int32} (hd : decode (mdC md) pc = .ok (.getfield i, 3)) (h : gfI M a c k = some x) (hc : c < 13) (hk : k < nfW c) (hrf : isRf (tyW c k) = false) (hlink : Cond.fieldLink (mdY md).cls i (fW c k).1 (fW c k).2.1 (fW c k).2.2.1 ∈ gtbl) (kk : Wp w md d (pc + 3) ls (.inl x :: st) M o M') : Wp w md d pc ls (.inr a :: st) M o M' :=
  ⟨kk.1, fun hw p e s m args below meth c0 k0 z0 H locs la C h1 h2 hR hS hl hv => by
    obtain ⟨g1, g2⟩ := if_some h
    obtain ⟨g3, -, g4⟩ := ce_obj hR g1 (by omega)
    show W _ _ _ _ _ _ _ _ _ _ _ _ _ _ _ (F0 m pc la (rv w (.inr a) :: st.map (rv w)))
    rw [rv_pos w g3]
    refine va_get C.1.1 C.1.2.1 C.2.2.1 (inW c hc) C.2.1 C.2.2.2.2.1 (va_P1 g4) 0 rfl (clW_at c hc) k hk (C.2.2.1 _ hlink) (fun x h => h) (v := rv w (.inl x)) ?_ hd (kk.2 hw p e s m args below meth c0 k0 z0 H locs la C h1 h2 hR hS hl hv)
    simp only [fl, List.getElem?_map, List.getElem?_range hk, Option.map_some, flF, hrf]
    rw [← g2]
    rfl⟩
theorem wp_getR {a c k i : Nat} {x : Nat} (hd : decode (mdC md) pc = .ok (.getfield i, 3)) (h : gfR M a c k = some x) (hc : c < 13) (hk : k < nfW c) (hrf : isRf (tyW c k) = true) (hlink : Cond.fieldLink (mdY md).cls i (fW c k).1 (fW c k).2.1 (fW c k).2.2.1 ∈ gtbl) (kk : Wp w md d (pc + 3) ls (.inr x :: st) M o M') : Wp w md d pc ls (.inr a :: st) M o M' :=
  ⟨kk.1, fun hw p e s m args below meth c0 k0 z0 H locs la C h1 h2 hR hS hl hv => by
    obtain ⟨g1, g2⟩ := if_some h
    obtain ⟨g3, -, g4⟩ := ce_obj hR g1 (by omega)
    show W _ _ _ _ _ _ _ _ _ _ _ _ _ _ _ (F0 m pc la (rv w (.inr a) :: st.map (rv w)))
    rw [rv_pos w g3]
    refine va_get C.1.1 C.1.2.1 C.2.2.1 (inW c hc) C.2.1 C.2.2.2.2.1 (va_P1 g4) 0 rfl (clW_at c hc) k hk (C.2.2.1 _ hlink) (fun x h => h) (v := rv w (.inr x)) ?_ hd (kk.2 hw p e s m args below meth c0 k0 z0 H locs la C h1 h2 hR hS hl hv)
    simp only [fl, List.getElem?_map, List.getElem?_range hk, Option.map_some, flF, hrf]
    rw [← g2]
    rfl⟩
/-- a field is written -/
theorem pf_row {p : Program} {e : Env} {R : Room} {s : State} {m : MethodId} {args : Array Value} {below : List Frame} {meth : Method} {c0 : Code} {k0 : Nat} {H : Heap} {locs : List Loc} {cells slots : Nat} {Q : State → Prop} {la : Array Slot} {rest : List Value}
    (C : CxOk w md p s m args meth c0 k0) (hR : HR w M H) (hS : va_S (Fr w) s.heap H locs) {a c k i : Nat} (hkd : kd M a = (c, 0)) (hc : c < 13) (hk : k < nfW c) (hlink : Cond.fieldLink (mdY md).cls i (fW c k).1 (fW c k).2.1 (fW c k).2.2.1 ∈ gtbl)
    (hd : decode (mdC md) pc = .ok (.putfield i, 3)) {v : Value} (hn : narrow (tyW c k) v = v) (hfit : fits (tyW c k) v = true) (hfin : (fW c k).2.2.2 = false ∨ ((mdY md).name = "<init>" ∧ (fW c k).1 = (mdY md).cls))
    {M1 : Gm} (hK1 : M1.2.2 = M.2.2) (hI : ∀ b, b ≠ a → M1.1 b = M.1 b) (hRr : ∀ b, b ≠ a → M1.2.1 b = M.2.1 b) (hvv : ∀ j, j < nfW c → flF w M1 a c j = if j = k then v else flF w M a c j)
    (kk : ∀ (H1 : Heap) (locs1 : List Loc), HR w M1 H1 → va_S (Fr w) s.heap H1 locs1 → W p w.2.1 e R s m args below meth c0 H1 locs1 cells slots Q (F0 m (pc + 3) la rest)) :
    W p w.2.1 e R s m args below meth c0 H locs cells slots Q (F0 m pc la (v :: .ref (rho w a) :: rest)) := by
  obtain ⟨g3, ge, g4⟩ := ce_obj hR hkd (by omega)
  have hts := C.2.2.1
  have hin := inW c hc
  have hK := C.2.2.2.2.1
  have hcl := clW_at c hc
  have hap := va_apart (own := (mdY md).cls) hts hin (tyW c) (tyW_ok c hc) (nmW_ok c hc) hK hcl
  obtain ⟨r, hr1, cell, q1, q2, q3, q4⟩ := g4
  have hr : r = (cW c, fW c, nfW c) := Option.some.inj (hr1.symm.trans hcl)
  subst hr
  obtain ⟨hSl, hfc, kC, hkC, hkind⟩ := hK.1 c _ hcl
  obtain ⟨cf, kf, fi, f, hi, hsl⟩ := hSl k hk
  have hst := (u_facts hfc hkC (u_lays hts hin hk) hi).1
  have hd2 := tyW_ok c hc k hk
  have hge : w.1.heap.size ≤ rho w a := by rw [rho_ge w g3]; omega
  have fin : ∀ (H' : Heap), H'[rho w a]? = some (cell.setSlot (w.2.2.2.1.2 c k) v) → H'.size = H.size → (∀ q, q ≠ rho w a → H'[q]? = H[q]?) → HR w M1 H' := by
    intro H' e1 e2 e3
    refine HR.set hR g3 hK1 hI hRr ?_ e2 e3
    unfold ceW
    have hkd1 : kd M1 a = (c, 0) := by unfold kd; rw [hK1]; exact hkd
    have : el w M1 a = .inr (c, fl w M1 a c) := by
      have hk2 : M1.2.2[a]? = some (c, 0) := by
        obtain ⟨-, -, g⟩ := kd_in hR (a := a) (by rw [hkd]; show c ≠ 31; omega)
        rw [hK1, g, hkd]
      unfold el; rw [hk2]; show (if c < 32 then _ else _) = _; rw [if_pos (by omega)]
    rw [this]
    refine ⟨_, hcl, _, e1, q2, q3, fun j hj => ?_⟩
    rw [t_set q4 hap hk v j hj, fl_at _ _ _ _ _ hj, hvv j hj]
    unfold updV
    by_cases e : j = k
    · rw [if_pos e, if_pos e]
    · rw [if_neg e, if_neg e, fl_at _ _ _ _ _ hj]
  have hlay := hts _ (hin _ (u_in_lay hk))
  unfold u_lay at hlay
  by_cases hf : (fW c k).2.2.2 = true
  · rcases hfin with h0 | ⟨hin2, hdecl⟩
    · rw [h0] at hf; cases hf
    rw [if_pos hf] at hlay
    have hcf : m.cls = cf := by
      obtain ⟨_, _, c', _, _, _, -, -, hf', -, -, -, hown2, -⟩ := Cond.laysFinal_spec hlay
      have e1 : c' = cf := by have := hi.symm.trans hf'; simp at this; exact this.1.symm
      rw [hdecl] at hown2
      rw [← e1]; exact Option.some.inj (C.2.1.symm.trans hown2)
    have h6 := u_fits hfc hkC hkind (Or.inr hlay) hi hd2 hn hfit
    refine W.putFinK C.1.1 C.1.2.1 C.2.1 (hts _ hlink) hi hst hcf (C.1.2.2.2.2.2.trans hin2) (by rw [q2]; exact h6) q1 q3 (by rw [hsl]; exact k2_hasslot (q4 k hk)) rfl rfl hd fun H' e1 e2 e3 => ?_
    rw [hsl] at e1 ⊢
    exact kk H' _ (fin H' e1 e2 e3) (va_S_put hS e2 e3 hge)
  · rw [if_neg hf] at hlay
    have h6 := u_store hfc hkC hkind hlay hi hd2 hn hfit
    refine W.putK C.1.1 C.1.2.1 (f := f) ⟨C.2.1, hts _ hlink, ⟨_, _, _, hi⟩, hst⟩ (by rw [q2]; exact h6) q1 q3 (by rw [hsl]; exact k2_hasslot (q4 k hk)) rfl rfl hd fun H' e1 e2 e3 => ?_
    rw [hsl] at e1 ⊢
    exact kk H' _ (fin H' e1 e2 e3) (va_S_put hS e2 e3 hge)
theorem wp_putI {a c k i : Nat} {v : Int32} {M1 : Gm} (hd : decode (mdC md) pc = .ok (.putfield i, 3)) (h : pfI M a c k v = some M1) (hc : c < 13) (hk : k < nfW c) (hty : tyW c k = .int) (hlink : Cond.fieldLink (mdY md).cls i (fW c k).1 (fW c k).2.1 (fW c k).2.2.1 ∈ gtbl) (hfin : (fW c k).2.2.2 = false ∨ ((mdY md).name = "<init>" ∧ (fW c k).1 = (mdY md).cls)) (kk : Wp w md d (pc + 3) ls st M1 o M') : Wp w md d pc ls (.inl v :: .inr a :: st) M o M' :=
  ⟨by have e : M1.2.2 = M.2.2 := by (obtain ⟨-, g2⟩ := if_some h; subst g2; rfl)
      have := kk.1; unfold mono at this ⊢; rw [e] at this; exact this, fun hw p e s m args below meth c0 k0 z0 H locs la C h1 h2 hR hS hl hv => by
    obtain ⟨g1, g2⟩ := if_some h
    have g3 := (ce_obj hR g1 (by omega)).1
    subst g2
    show W _ _ _ _ _ _ _ _ _ _ _ _ _ _ _ (F0 m pc la (.int v :: rv w (.inr a) :: st.map (rv w)))
    rw [rv_pos w g3]
    refine pf_row C hR hS g1 hc hk hlink hd (M1 := sI M a k v) (by rw [hty]; rfl) (by rw [hty]; rfl) hfin rfl (fun b hb => up2_row _ _ _ _ hb) (fun _ _ => rfl) (fun j hj => ?_) (fun H1 locs1 hR1 hS1 => kk.2 hw p e s m args below meth c0 k0 z0 H1 locs1 la C h1 h2 hR1 hS1 hl hv)
    unfold flF sI
    by_cases e : j = k
    · subst e; simp [hty, isRf, up2]
    · simp [e, up2]⟩
theorem wp_putZ {a c k i : Nat} {v : Int32} {M1 : Gm} (hd : decode (mdC md) pc = .ok (.putfield i, 3)) (h : pfZ M a c k v = some M1) (hc : c < 13) (hk : k < nfW c) (hty : tyW c k = .boolean) (hlink : Cond.fieldLink (mdY md).cls i (fW c k).1 (fW c k).2.1 (fW c k).2.2.1 ∈ gtbl) (hfin : (fW c k).2.2.2 = false ∨ ((mdY md).name = "<init>" ∧ (fW c k).1 = (mdY md).cls)) (kk : Wp w md d (pc + 3) ls st M1 o M') : Wp w md d pc ls (.inl v :: .inr a :: st) M o M' :=
  ⟨by have e : M1.2.2 = M.2.2 := by (obtain ⟨-, g2⟩ := if_some h; subst g2; rfl)
      have := kk.1; unfold mono at this ⊢; rw [e] at this; exact this, fun hw p e s m args below meth c0 k0 z0 H locs la C h1 h2 hR hS hl hv => by
    obtain ⟨⟨g1, gz⟩, g2⟩ := if_some h
    have g3 := (ce_obj hR g1 (by omega)).1
    subst g2
    show W _ _ _ _ _ _ _ _ _ _ _ _ _ _ _ (F0 m pc la (.int v :: rv w (.inr a) :: st.map (rv w)))
    rw [rv_pos w g3]
    refine pf_row C hR hS g1 hc hk hlink hd (M1 := sI M a k v) (by rw [hty]; rcases gz with rfl | rfl <;> rfl) (by rw [hty]; rcases gz with rfl | rfl <;> rfl) hfin rfl (fun b hb => up2_row _ _ _ _ hb) (fun _ _ => rfl) (fun j hj => ?_) (fun H1 locs1 hR1 hS1 => kk.2 hw p e s m args below meth c0 k0 z0 H1 locs1 la C h1 h2 hR1 hS1 hl hv)
    unfold flF sI
    by_cases e : j = k
    · subst e; simp [hty, isRf, up2]
    · simp [e, up2]⟩
theorem rf_nar {ty : FieldType} (h : isRf ty = true) (v : Nat) : narrow ty (rv w (.inr v)) = rv w (.inr v) := by
  cases ty <;> first | (cases h; done) | (cases v <;> rfl)
theorem rf_fits {ty : FieldType} (h : isRf ty = true) (v : Nat) : fits ty (rv w (.inr v)) = true := by
  cases ty <;> first | (cases h; done) | (cases v <;> rfl)
theorem wp_putR {a c k i : Nat} {v : Nat} {M1 : Gm} (hd : decode (mdC md) pc = .ok (.putfield i, 3)) (h : pfR M a c k v = some M1) (hc : c < 13) (hk : k < nfW c) (hty : isRf (tyW c k) = true) (hlink : Cond.fieldLink (mdY md).cls i (fW c k).1 (fW c k).2.1 (fW c k).2.2.1 ∈ gtbl) (hfin : (fW c k).2.2.2 = false ∨ ((mdY md).name = "<init>" ∧ (fW c k).1 = (mdY md).cls)) (kk : Wp w md d (pc + 3) ls st M1 o M') : Wp w md d pc ls (.inr v :: .inr a :: st) M o M' :=
  ⟨by have e : M1.2.2 = M.2.2 := by (obtain ⟨-, g2⟩ := if_some h; subst g2; rfl)
      have := kk.1; unfold mono at this ⊢; rw [e] at this; exact this, fun hw p e s m args below meth c0 k0 z0 H locs la C h1 h2 hR hS hl hv => by
    obtain ⟨g1, g2⟩ := if_some h
    have g3 := (ce_obj hR g1 (by omega)).1
    subst g2
    show W _ _ _ _ _ _ _ _ _ _ _ _ _ _ _ (F0 m pc la (rv w (.inr v) :: rv w (.inr a) :: st.map (rv w)))
    rw [rv_pos w g3]
    refine pf_row C hR hS g1 hc hk hlink hd (M1 := sR M a k v) (rf_nar hty v) (rf_fits hty v) hfin rfl (fun _ _ => rfl) (fun b hb => up2_row _ _ _ _ hb) (fun j hj => ?_) (fun H1 locs1 hR1 hS1 => kk.2 hw p e s m args below meth c0 k0 z0 H1 locs1 la C h1 h2 hR1 hS1 hl hv)
    unfold flF sR
    by_cases e : j = k
    · subst e; simp [hty, up2]
    · simp [e, up2]⟩
theorem wp_iaload {a : Nat} {i x : Int32} (hd : decode (mdC md) pc = .ok (.iaload, 1)) (h : ldA M 0 a i = some x) (kk : Wp w md d (pc + 1) ls (.inl x :: st) M o M') : Wp w md d pc ls (.inl i :: .inr a :: st) M o M' :=
  ⟨kk.1, fun hw p e s m args below meth c k0 z0 H locs la C h1 h2 hR hS hl hv => by
    obtain ⟨⟨g1, g2⟩, g0⟩ := if_some h
    obtain ⟨g3, -, g4⟩ := ce_arr hR g1
    rw [elA_i w M a _ (by omega)] at g4
    show W _ _ _ _ _ _ _ _ _ _ _ _ _ _ _ (F0 m pc la (.int i :: rv w (.inr a) :: st.map (rv w)))
    rw [rv_pos w g3]
    refine va_iald C.1.1 C.1.2.1 C.2.2.2.2.1 (va_P1 g4) 0 0 rfl (tysW_at w (by omega)) (inb_vp g2) hd ?_
    rw [g0]
    exact kk.2 hw p e s m args below meth c k0 z0 H locs la C h1 h2 hR hS hl hv⟩
theorem wp_baload {a : Nat} {i x : Int32} (hd : decode (mdC md) pc = .ok (.baload, 1)) (h : ldA M 1 a i = some x) (kk : Wp w md d (pc + 1) ls (.inl x :: st) M o M') : Wp w md d pc ls (.inl i :: .inr a :: st) M o M' :=
  ⟨kk.1, fun hw p e s m args below meth c k0 z0 H locs la C h1 h2 hR hS hl hv => by
    obtain ⟨⟨g1, g2⟩, g0⟩ := if_some h
    obtain ⟨g3, -, g4⟩ := ce_arr hR g1
    rw [elA_i w M a _ (by omega)] at g4
    show W _ _ _ _ _ _ _ _ _ _ _ _ _ _ _ (F0 m pc la (.int i :: rv w (.inr a) :: st.map (rv w)))
    rw [rv_pos w g3]
    refine va_bald C.1.1 C.1.2.1 C.2.2.2.2.1 (va_P1 g4) 0 1 rfl (tysW_at w (by omega)) (inb_vp g2) hd ?_
    rw [g0]
    exact kk.2 hw p e s m args below meth c k0 z0 H locs la C h1 h2 hR hS hl hv⟩
theorem wp_zaload {a : Nat} {i x : Int32} (hd : decode (mdC md) pc = .ok (.baload, 1)) (h : ldA M 2 a i = some x) (kk : Wp w md d (pc + 1) ls (.inl x :: st) M o M') : Wp w md d pc ls (.inl i :: .inr a :: st) M o M' :=
  ⟨kk.1, fun hw p e s m args below meth c k0 z0 H locs la C h1 h2 hR hS hl hv => by
    obtain ⟨⟨g1, g2⟩, g0⟩ := if_some h
    obtain ⟨g3, -, g4⟩ := ce_arr hR g1
    rw [elA_i w M a _ (by omega)] at g4
    show W _ _ _ _ _ _ _ _ _ _ _ _ _ _ _ (F0 m pc la (.int i :: rv w (.inr a) :: st.map (rv w)))
    rw [rv_pos w g3]
    refine va_zald C.1.1 C.1.2.1 C.2.2.2.2.1 (va_P1 g4) 0 2 rfl (tysW_at w (by omega)) (inb_vp g2) hd ?_
    rw [g0]
    exact kk.2 hw p e s m args below meth c k0 z0 H locs la C h1 h2 hR hS hl hv⟩
theorem wp_aaload {a t : Nat} {i : Int32} {x : Nat} {CC : String} (hd : decode (mdC md) pc = .ok (.aaload, 1)) (ht : 3 < t ∧ t < 11) (hCC : tyA t = .object CC) (h : ldR M t a i = some x) (kk : Wp w md d (pc + 1) ls (.inr x :: st) M o M') : Wp w md d pc ls (.inl i :: .inr a :: st) M o M' :=
  ⟨kk.1, fun hw p e s m args below meth c k0 z0 H locs la C h1 h2 hR hS hl hv => by
    obtain ⟨⟨g1, g2⟩, g0⟩ := if_some h
    obtain ⟨g3, -, g4⟩ := ce_arr hR g1
    rw [elA_r w M a _ ht.1] at g4
    show W _ _ _ _ _ _ _ _ _ _ _ _ _ _ _ (F0 m pc la (.int i :: rv w (.inr a) :: st.map (rv w)))
    rw [rv_pos w g3]
    refine va_aldq (C := CC) C.1.1 C.1.2.1 C.2.2.2.2.1 (va_P1 g4) 0 t rfl (by rw [tysW_at w ht.2, hCC]) (inb_vp g2) hd ?_
    rw [g0]
    exact kk.2 hw p e s m args below meth c k0 z0 H locs la C h1 h2 hR hS hl hv⟩
theorem wp_alen {a : Nat} {x : Int32} (hd : decode (mdC md) pc = .ok (.arraylength, 1)) (h : alen M a = some x) (kk : Wp w md d (pc + 1) ls (.inl x :: st) M o M') : Wp w md d pc ls (.inr a :: st) M o M' :=
  ⟨kk.1, fun hw p e s m args below meth c k0 z0 H locs la C h1 h2 hR hS hl hv => by
    obtain ⟨⟨g1, g2⟩, g0⟩ := if_some h
    obtain ⟨g3, -, g4⟩ := ce_arr hR (a := a) (t := (kd M a).1 - 32) (by omega)
    show W _ _ _ _ _ _ _ _ _ _ _ _ _ _ _ (F0 m pc la (rv w (.inr a) :: st.map (rv w)))
    rw [rv_pos w g3]
    refine va_alen C.1.1 C.1.2.1 C.2.2.2.2.1 (va_P1 g4) 0 ((kd M a).1 - 32) rfl (tysW_at w (by omega)) (v := x) ?_ hd (kk.2 hw p e s m args below meth c k0 z0 H locs la C h1 h2 hR hS hl hv)
    rw [← g0]; rfl⟩
theorem wp_iastore {a : Nat} {i x : Int32} {M1 : Gm} (hd : decode (mdC md) pc = .ok (.iastore, 1)) (h : stA M 0 a i (x) = some M1) (kk : Wp w md d (pc + 1) ls st M1 o M') : Wp w md d pc ls (.inl x :: .inl i :: .inr a :: st) M o M' :=
  ⟨by have e : M1.2.2 = M.2.2 := by (obtain ⟨-, g2⟩ := if_some h; subst g2; rfl)
      have := kk.1; unfold mono at this ⊢; rw [e] at this; exact this, fun hw p e s m args below meth c k0 z0 H locs la C h1 h2 hR hS hl hv => by
    obtain ⟨⟨g1, g2⟩, g0⟩ := if_some h
    subst g0
    obtain ⟨g3, g5, g4⟩ := ce_arr hR g1
    rw [elA_i w M a _ (by omega)] at g4
    have hge : w.1.heap.size ≤ rho w a := by rw [rho_ge w g3]; omega
    show W _ _ _ _ _ _ _ _ _ _ _ _ _ _ _ (F0 m pc la (.int x :: .int i :: rv w (.inr a) :: st.map (rv w)))
    rw [rv_pos w g3]
    refine W.iast C.1.1 C.1.2.1 g4 ((C.2.2.2.2.1.2 0 _ (tysW_at w (by omega))).1 _ (fun j => .int (M.1 a j))) (fun q => by cases q) (by show ¬ (i < 0 ∨ (arrV _ _ _).slots.size ≤ _); rw [arrV_size]; exact inb_vp g2) rfl rfl hd fun H1 e1 z oq => ?_
    refine kk.2 hw p e s m args below meth c k0 z0 H1 _ la C h1 h2 (HR.set hR g3 rfl (fun b hb => up2_row _ _ _ _ hb) (fun _ _ => rfl) ?_ z oq) (va_S_put hS z oq hge) hl hv
    unfold ceW
    rw [el_arr (t := 0) (n := (kd M a).2) (by exact g5), elA_i w _ a _ (by omega)]
    show H1[rho w a]? = some (vp_cell _ _)
    rw [e1, vp_cell_i, vp_cell_i, arrV_store]
    congr 2
    funext q
    show updV _ _ _ q = Value.int (up2 M.1 a i.toNatClampNeg _ a q)
    by_cases hq : q = i.toNatClampNeg
    · subst hq; simp [updV, up2, narrow]
    · simp [updV, up2, hq]⟩
theorem wp_bastore {a : Nat} {i x : Int32} {M1 : Gm} (hd : decode (mdC md) pc = .ok (.bastore, 1)) (h : stA M 1 a i (x.toInt8.toInt32) = some M1) (kk : Wp w md d (pc + 1) ls st M1 o M') : Wp w md d pc ls (.inl x :: .inl i :: .inr a :: st) M o M' :=
  ⟨by have e : M1.2.2 = M.2.2 := by (obtain ⟨-, g2⟩ := if_some h; subst g2; rfl)
      have := kk.1; unfold mono at this ⊢; rw [e] at this; exact this, fun hw p e s m args below meth c k0 z0 H locs la C h1 h2 hR hS hl hv => by
    obtain ⟨⟨g1, g2⟩, g0⟩ := if_some h
    subst g0
    obtain ⟨g3, g5, g4⟩ := ce_arr hR g1
    rw [elA_i w M a _ (by omega)] at g4
    have hge : w.1.heap.size ≤ rho w a := by rw [rho_ge w g3]; omega
    show W _ _ _ _ _ _ _ _ _ _ _ _ _ _ _ (F0 m pc la (.int x :: .int i :: rv w (.inr a) :: st.map (rv w)))
    rw [rv_pos w g3]
    refine W.bast C.1.1 C.1.2.1 g4 ((C.2.2.2.2.1.2 1 _ (tysW_at w (by omega))).1 _ (fun j => .int (M.1 a j))) (fun q => by cases q) (by show ¬ (i < 0 ∨ (arrV _ _ _).slots.size ≤ _); rw [arrV_size]; exact inb_vp g2) rfl rfl hd fun H1 e1 z oq => ?_
    refine kk.2 hw p e s m args below meth c k0 z0 H1 _ la C h1 h2 (HR.set hR g3 rfl (fun b hb => up2_row _ _ _ _ hb) (fun _ _ => rfl) ?_ z oq) (va_S_put hS z oq hge) hl hv
    unfold ceW
    rw [el_arr (t := 1) (n := (kd M a).2) (by exact g5), elA_i w _ a _ (by omega)]
    show H1[rho w a]? = some (vp_cell _ _)
    rw [e1, vp_cell_i, vp_cell_i, arrV_store]
    congr 2
    funext q
    show updV _ _ _ q = Value.int (up2 M.1 a i.toNatClampNeg _ a q)
    by_cases hq : q = i.toNatClampNeg
    · subst hq; simp [updV, up2, narrow]
    · simp [updV, up2, hq]⟩
theorem wp_zastore {a : Nat} {i x : Int32} {M1 : Gm} (hd : decode (mdC md) pc = .ok (.bastore, 1)) (h : stA M 2 a i (x &&& 1) = some M1) (kk : Wp w md d (pc + 1) ls st M1 o M') : Wp w md d pc ls (.inl x :: .inl i :: .inr a :: st) M o M' :=
  ⟨by have e : M1.2.2 = M.2.2 := by (obtain ⟨-, g2⟩ := if_some h; subst g2; rfl)
      have := kk.1; unfold mono at this ⊢; rw [e] at this; exact this, fun hw p e s m args below meth c k0 z0 H locs la C h1 h2 hR hS hl hv => by
    obtain ⟨⟨g1, g2⟩, g0⟩ := if_some h
    subst g0
    obtain ⟨g3, g5, g4⟩ := ce_arr hR g1
    rw [elA_i w M a _ (by omega)] at g4
    have hge : w.1.heap.size ≤ rho w a := by rw [rho_ge w g3]; omega
    show W _ _ _ _ _ _ _ _ _ _ _ _ _ _ _ (F0 m pc la (.int x :: .int i :: rv w (.inr a) :: st.map (rv w)))
    rw [rv_pos w g3]
    refine W.zast C.1.1 C.1.2.1 g4 ((C.2.2.2.2.1.2 2 _ (tysW_at w (by omega))).1 _ (fun j => .int (M.1 a j))) (fun q => by cases q) (by show ¬ (i < 0 ∨ (arrV _ _ _).slots.size ≤ _); rw [arrV_size]; exact inb_vp g2) rfl rfl hd fun H1 e1 z oq => ?_
    refine kk.2 hw p e s m args below meth c k0 z0 H1 _ la C h1 h2 (HR.set hR g3 rfl (fun b hb => up2_row _ _ _ _ hb) (fun _ _ => rfl) ?_ z oq) (va_S_put hS z oq hge) hl hv
    unfold ceW
    rw [el_arr (t := 2) (n := (kd M a).2) (by exact g5), elA_i w _ a _ (by omega)]
    show H1[rho w a]? = some (vp_cell _ _)
    rw [e1, vp_cell_i, vp_cell_i, arrV_store]
    congr 2
    funext q
    show updV _ _ _ q = Value.int (up2 M.1 a i.toNatClampNeg _ a q)
    by_cases hq : q = i.toNatClampNeg
    · subst hq; simp [updV, up2, narrow]
    · simp [updV, up2, hq]⟩
end Rules
