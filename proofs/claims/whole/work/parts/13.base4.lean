/-! ===== BASE 4: cells that are made, calls, returns, entries ===== -/
theorem dfW : ∀ c, c < 13 → ∀ k, k < nfW c → defaultValue (tyW c k) = if isRf (tyW c k) = true then .null else .int 0 := by
  intro c hc
  match c, hc with
  | 0, _ => decide +kernel
  | 1, _ => decide +kernel
  | 2, _ => decide +kernel
  | 3, _ => decide +kernel
  | 4, _ => decide +kernel
  | 5, _ => decide +kernel
  | 6, _ => decide +kernel
  | 7, _ => decide +kernel
  | 8, _ => decide +kernel
  | 9, _ => decide +kernel
  | 10, _ => decide +kernel
  | 11, _ => decide +kernel
  | 12, _ => decide +kernel
theorem slK_nw (M : Gm) (q : Nat × Nat) : slK (nwM M q).2.2 = slK M.2.2 + slE q := by
  simp [slK, nwM]
theorem len_nw (M : Gm) (q : Nat × Nat) : (nwM M q).2.2.length = M.2.2.length + 1 := by simp [nwM]
theorem kd_nw (M : Gm) (q : Nat × Nat) : (nwM M q).2.2[M.2.2.length]? = some q := by simp [nwM]
theorem old_hq {w : Gw} {M : Gm} {H : Heap} (hR : HR w M H) : ∀ a : Nat, a < w.1.heap.size → ¬ Fr w a → H[a]? = w.1.heap[a]? := fun a h _ => hR.2.2.1 a h
section Rules
variable {w : Gw} {md : Gd} {d pc : Nat} {ls : List (Option Gv)} {st : List Gv} {M : Gm} {o : Go} {M' : Gm}
theorem mono_nw {q : Nat × Nat} (k : mono (nwM M q) M') : mono M M' ∧ M.2.2.length + 1 ≤ M'.2.2.length ∧ slK M.2.2 + slE q ≤ slK M'.2.2 := by
  obtain ⟨g1, g2⟩ := k
  rw [len_nw] at g1
  rw [slK_nw] at g2
  exact ⟨⟨by omega, by omega⟩, g1, g2⟩
theorem wp_new {c i : Nat} (hd : decode (mdC md) pc = .ok (.new i, 3)) (hc : c < 13) (hcl : Cond.classLink (mdY md).cls i (cW c) ∈ gtbl) (hins : Cond.instantiable (cW c) (nfW c) ∈ gtbl) (hini : Cond.initialized (cW c) ∈ gtbl) (kk : Wp w md d (pc + 3) ls (.inr M.2.2.length :: st) (nwM M (c, 0)) o M') : Wp w md d pc ls st M o M' :=
  ⟨(mono_nw kk.1).1, fun hw p e s m args below meth c0 k0 z0 H locs la C h1 h2 hR hS hl hv => by
    obtain ⟨-, n1, n2⟩ := mono_nw kk.1
    have hsl : slE (c, 0) = nfW c := by unfold slE; rw [if_pos hc]
    rw [hsl] at n2
    obtain ⟨hSl, hfc, kC0, hkC0, hkind⟩ := C.2.2.2.2.1.1 c _ (clW_at c hc)
    refine W.newcK C.1.1 C.1.2.1 C.2.1 (C.2.2.1 _ hcl) (C.2.2.1 _ hins) (C.2.2.1 _ hini) rfl hd (by show _ ≤ M'.2.2.length - k0; omega) (by show _ ≤ slK M'.2.2 - z0; omega) hfc rfl fun H1 kC hkC e1 z oq => ?_
    have hR1 : HR w (nwM M (c, 0)) H1 := by
      refine HR.push hR ?_ z oq
      unfold ceW
      have he : el w (nwM M (c, 0)) M.2.2.length = .inr (c, fl w (nwM M (c, 0)) M.2.2.length c) := by
        unfold el; rw [kd_nw]; show (if c < 32 then _ else _) = _; rw [if_pos (by omega)]
      rw [he]
      refine ⟨_, clW_at c hc, ?_⟩
      rw [HR.rho_len hR]
      refine t_OB.to (u_born (tyW c) C.2.2.1 (inW c hc) ⟨hSl, hfc, kC0, hkC0, hkind⟩ hkC e1 (tyW_ok c hc)) (fun k hk => ?_)
      rw [fl_at _ _ _ _ _ hk, dfW c hc k hk]
      unfold flF nwM
      simp only [if_true]
      rfl
    have kk2 := kk.2 hw p e s m args below meth c0 k0 z0 H1 locs la C (by rw [len_nw]; omega) (by rw [slK_nw]; omega) hR1 (va_S_push hS z oq) hl hv
    rw [len_nw, slK_nw, hsl, show M.2.2.length + 1 - k0 = M.2.2.length - k0 + 1 by omega, show slK M.2.2 + nfW c - z0 = slK M.2.2 - z0 + nfW c by omega] at kk2
    have e9 : rv w (.inr M.2.2.length) = .ref H.size := by rw [rv_pos w hR.1.1, HR.rho_len hR]
    have kk3 : W p w.2.1 e _ s m args below meth c0 H1 locs _ _ _ (F0 m (pc + 3) la (rv w (.inr M.2.2.length) :: st.map (rv w))) := kk2
    rw [e9] at kk3
    exact kk3⟩
theorem wp_newI {n : Int32} {M1 : Gm} (hd : decode (mdC md) pc = .ok (.newarray .int, 2)) (h : mkA M 0 n = some M1) (hac : Cond.arrayClass .int ∈ gtbl) (kk : Wp w md d (pc + 2) ls (.inr M.2.2.length :: st) M1 o M') : Wp w md d pc ls (.inl n :: st) M o M' :=
  ⟨by obtain ⟨-, g2⟩ := if_some h; subst g2; exact (mono_nw kk.1).1, fun hw p e s m args below meth c k0 z0 H locs la C h1 h2 hR hS hl hv => by
    obtain ⟨⟨g1, g3⟩, g2⟩ := if_some h
    subst g2
    obtain ⟨-, n1, n2⟩ := mono_nw kk.1
    have hsl : slE (32 + 0, n.toNatClampNeg) = n.toNatClampNeg := by unfold slE; rw [if_neg (by show ¬ 32 + 0 < 13; omega), if_neg (by show ¬ 32 + 0 < 31; omega), if_neg (by show ¬ 32 + 0 = 31; omega)]
    rw [hsl] at n2
    refine va_newaK (atype := .int) C.1.1 C.1.2.1 (C.2.2.1 _ hac) rfl hd rfl g1 rfl (by show _ * 4 ≤ 536870912; omega) (by show _ ≤ M'.2.2.length - k0; omega) (by show _ ≤ slK M'.2.2 - z0; omega) rfl fun H1 cA e1 z oq hAr hNm => ?_
    have hcA : w.2.2.2.2 0 = cA := Option.some.inj (((C.2.2.2.2.1.2 0 _ (tysW_at w (by omega))).2 : s.vm.findClass ("[" ++ (FieldType.int).toString) = some _).symm.trans hNm)
    have hR1 : HR w (nwM M (32 + 0, n.toNatClampNeg)) H1 := by
      refine HR.push hR ?_ z oq
      unfold ceW
      rw [el_arr (kd_nw M _), HR.rho_len hR]
      show H1[H.size]? = some (vp_cell _ _)
      rw [e1, hcA]
      congr 1
      unfold elA nwM
      simp only [if_true]
      rfl
    have kk2 := kk.2 hw p e s m args below meth c k0 z0 H1 locs la C (by rw [len_nw]; omega) (by rw [slK_nw]; omega) hR1 (va_S_push hS z oq) hl hv
    rw [len_nw, slK_nw, hsl, show M.2.2.length + 1 - k0 = M.2.2.length - k0 + 1 by omega, show slK M.2.2 + n.toNatClampNeg - z0 = slK M.2.2 - z0 + n.toNatClampNeg by omega] at kk2
    have e9 : rv w (.inr M.2.2.length) = .ref H.size := by rw [rv_pos w hR.1.1, HR.rho_len hR]
    have kk3 : W p w.2.1 e _ s m args below meth c H1 locs _ _ _ (F0 m (pc + 2) la (rv w (.inr M.2.2.length) :: st.map (rv w))) := kk2
    rw [e9] at kk3
    exact kk3⟩
theorem wp_newB {n : Int32} {M1 : Gm} (hd : decode (mdC md) pc = .ok (.newarray .byte, 2)) (h : mkA M 1 n = some M1) (hac : Cond.arrayClass .byte ∈ gtbl) (kk : Wp w md d (pc + 2) ls (.inr M.2.2.length :: st) M1 o M') : Wp w md d pc ls (.inl n :: st) M o M' :=
  ⟨by obtain ⟨-, g2⟩ := if_some h; subst g2; exact (mono_nw kk.1).1, fun hw p e s m args below meth c k0 z0 H locs la C h1 h2 hR hS hl hv => by
    obtain ⟨⟨g1, g3⟩, g2⟩ := if_some h
    subst g2
    obtain ⟨-, n1, n2⟩ := mono_nw kk.1
    have hsl : slE (32 + 1, n.toNatClampNeg) = n.toNatClampNeg := by unfold slE; rw [if_neg (by show ¬ 32 + 1 < 13; omega), if_neg (by show ¬ 32 + 1 < 31; omega), if_neg (by show ¬ 32 + 1 = 31; omega)]
    rw [hsl] at n2
    refine va_newaK (atype := .byte) C.1.1 C.1.2.1 (C.2.2.1 _ hac) rfl hd rfl g1 rfl (by show _ * 1 ≤ 536870912; omega) (by show _ ≤ M'.2.2.length - k0; omega) (by show _ ≤ slK M'.2.2 - z0; omega) rfl fun H1 cA e1 z oq hAr hNm => ?_
    have hcA : w.2.2.2.2 1 = cA := Option.some.inj (((C.2.2.2.2.1.2 1 _ (tysW_at w (by omega))).2 : s.vm.findClass ("[" ++ (FieldType.byte).toString) = some _).symm.trans hNm)
    have hR1 : HR w (nwM M (32 + 1, n.toNatClampNeg)) H1 := by
      refine HR.push hR ?_ z oq
      unfold ceW
      rw [el_arr (kd_nw M _), HR.rho_len hR]
      show H1[H.size]? = some (vp_cell _ _)
      rw [e1, hcA]
      congr 1
      unfold elA nwM
      simp only [if_true]
      rfl
    have kk2 := kk.2 hw p e s m args below meth c k0 z0 H1 locs la C (by rw [len_nw]; omega) (by rw [slK_nw]; omega) hR1 (va_S_push hS z oq) hl hv
    rw [len_nw, slK_nw, hsl, show M.2.2.length + 1 - k0 = M.2.2.length - k0 + 1 by omega, show slK M.2.2 + n.toNatClampNeg - z0 = slK M.2.2 - z0 + n.toNatClampNeg by omega] at kk2
    have e9 : rv w (.inr M.2.2.length) = .ref H.size := by rw [rv_pos w hR.1.1, HR.rho_len hR]
    have kk3 : W p w.2.1 e _ s m args below meth c H1 locs _ _ _ (F0 m (pc + 2) la (rv w (.inr M.2.2.length) :: st.map (rv w))) := kk2
    rw [e9] at kk3
    exact kk3⟩
theorem wp_newZ {n : Int32} {M1 : Gm} (hd : decode (mdC md) pc = .ok (.newarray .boolean, 2)) (h : mkA M 2 n = some M1) (hac : Cond.arrayClass .boolean ∈ gtbl) (kk : Wp w md d (pc + 2) ls (.inr M.2.2.length :: st) M1 o M') : Wp w md d pc ls (.inl n :: st) M o M' :=
  ⟨by obtain ⟨-, g2⟩ := if_some h; subst g2; exact (mono_nw kk.1).1, fun hw p e s m args below meth c k0 z0 H locs la C h1 h2 hR hS hl hv => by
    obtain ⟨⟨g1, g3⟩, g2⟩ := if_some h
    subst g2
    obtain ⟨-, n1, n2⟩ := mono_nw kk.1
    have hsl : slE (32 + 2, n.toNatClampNeg) = n.toNatClampNeg := by unfold slE; rw [if_neg (by show ¬ 32 + 2 < 13; omega), if_neg (by show ¬ 32 + 2 < 31; omega), if_neg (by show ¬ 32 + 2 = 31; omega)]
    rw [hsl] at n2
    refine va_newaK (atype := .boolean) C.1.1 C.1.2.1 (C.2.2.1 _ hac) rfl hd rfl g1 rfl (by show _ * 1 ≤ 536870912; omega) (by show _ ≤ M'.2.2.length - k0; omega) (by show _ ≤ slK M'.2.2 - z0; omega) rfl fun H1 cA e1 z oq hAr hNm => ?_
    have hcA : w.2.2.2.2 2 = cA := Option.some.inj (((C.2.2.2.2.1.2 2 _ (tysW_at w (by omega))).2 : s.vm.findClass ("[" ++ (FieldType.boolean).toString) = some _).symm.trans hNm)
    have hR1 : HR w (nwM M (32 + 2, n.toNatClampNeg)) H1 := by
      refine HR.push hR ?_ z oq
      unfold ceW
      rw [el_arr (kd_nw M _), HR.rho_len hR]
      show H1[H.size]? = some (vp_cell _ _)
      rw [e1, hcA]
      congr 1
      unfold elA nwM
      simp only [if_true]
      rfl
    have kk2 := kk.2 hw p e s m args below meth c k0 z0 H1 locs la C (by rw [len_nw]; omega) (by rw [slK_nw]; omega) hR1 (va_S_push hS z oq) hl hv
    rw [len_nw, slK_nw, hsl, show M.2.2.length + 1 - k0 = M.2.2.length - k0 + 1 by omega, show slK M.2.2 + n.toNatClampNeg - z0 = slK M.2.2 - z0 + n.toNatClampNeg by omega] at kk2
    have e9 : rv w (.inr M.2.2.length) = .ref H.size := by rw [rv_pos w hR.1.1, HR.rho_len hR]
    have kk3 : W p w.2.1 e _ s m args below meth c H1 locs _ _ _ (F0 m (pc + 2) la (rv w (.inr M.2.2.length) :: st.map (rv w))) := kk2
    rw [e9] at kk3
    exact kk3⟩
theorem wp_newL {n : Int32} {M1 : Gm} (hd : decode (mdC md) pc = .ok (.newarray .long, 2)) (h : mkA M 3 n = some M1) (hac : Cond.arrayClass .long ∈ gtbl) (kk : Wp w md d (pc + 2) ls (.inr M.2.2.length :: st) M1 o M') : Wp w md d pc ls (.inl n :: st) M o M' :=
  ⟨by obtain ⟨-, g2⟩ := if_some h; subst g2; exact (mono_nw kk.1).1, fun hw p e s m args below meth c k0 z0 H locs la C h1 h2 hR hS hl hv => by
    obtain ⟨⟨g1, g3⟩, g2⟩ := if_some h
    subst g2
    obtain ⟨-, n1, n2⟩ := mono_nw kk.1
    have hsl : slE (32 + 3, n.toNatClampNeg) = n.toNatClampNeg := by unfold slE; rw [if_neg (by show ¬ 32 + 3 < 13; omega), if_neg (by show ¬ 32 + 3 < 31; omega), if_neg (by show ¬ 32 + 3 = 31; omega)]
    rw [hsl] at n2
    refine va_newaK (atype := .long) C.1.1 C.1.2.1 (C.2.2.1 _ hac) rfl hd rfl g1 rfl (by show _ * 8 ≤ 536870912; omega) (by show _ ≤ M'.2.2.length - k0; omega) (by show _ ≤ slK M'.2.2 - z0; omega) rfl fun H1 cA e1 z oq hAr hNm => ?_
    have hcA : w.2.2.2.2 3 = cA := Option.some.inj (((C.2.2.2.2.1.2 3 _ (tysW_at w (by omega))).2 : s.vm.findClass ("[" ++ (FieldType.long).toString) = some _).symm.trans hNm)
    have hR1 : HR w (nwM M (32 + 3, n.toNatClampNeg)) H1 := by
      refine HR.push hR ?_ z oq
      unfold ceW
      rw [el_arr (kd_nw M _), HR.rho_len hR]
      show H1[H.size]? = some (vp_cell _ _)
      rw [e1, hcA]
      congr 1
      unfold elA nwM
      simp only [if_true]
      rfl
    have kk2 := kk.2 hw p e s m args below meth c k0 z0 H1 locs la C (by rw [len_nw]; omega) (by rw [slK_nw]; omega) hR1 (va_S_push hS z oq) hl hv
    rw [len_nw, slK_nw, hsl, show M.2.2.length + 1 - k0 = M.2.2.length - k0 + 1 by omega, show slK M.2.2 + n.toNatClampNeg - z0 = slK M.2.2 - z0 + n.toNatClampNeg by omega] at kk2
    have e9 : rv w (.inr M.2.2.length) = .ref H.size := by rw [rv_pos w hR.1.1, HR.rho_len hR]
    have kk3 : W p w.2.1 e _ s m args below meth c H1 locs _ _ _ (F0 m (pc + 2) la (rv w (.inr M.2.2.length) :: st.map (rv w))) := kk2
    rw [e9] at kk3
    exact kk3⟩
theorem wp_anew {t i : Nat} {CC : String} {n : Int32} {M1 : Gm} (hd : decode (mdC md) pc = .ok (.anewarray i, 3)) (h : mkA M t n = some M1) (ht : 3 < t ∧ t < 11) (hCC : tyA t = .object CC) (hcl : Cond.classLink (mdY md).cls i CC ∈ gtbl) (hov : Cond.arrayOver (.object CC) ∈ lw_tbl) (kk : Wp w md d (pc + 3) ls (.inr M.2.2.length :: st) M1 o M') : Wp w md d pc ls (.inl n :: st) M o M' :=
  ⟨by obtain ⟨-, g2⟩ := if_some h; subst g2; exact (mono_nw kk.1).1, fun hw p e s m args below meth c k0 z0 H locs la C h1 h2 hR hS hl hv => by
    obtain ⟨⟨g1, g3⟩, g2⟩ := if_some h
    subst g2
    obtain ⟨-, n1, n2⟩ := mono_nw kk.1
    have hsl : slE (32 + t, n.toNatClampNeg) = n.toNatClampNeg := by unfold slE; rw [if_neg (by show ¬ 32 + t < 13; omega), if_neg (by show ¬ 32 + t < 31; omega), if_neg (by show ¬ 32 + t = 31; omega)]
    rw [hsl] at n2
    have hao : va_AO CC s := va_AO.moved C.2.2.2.1.alike (va_AO.of (hw.2.2.2.2.1 _ hov))
    refine W.anew C.1.1 C.1.2.1 C.2.1 (C.2.2.1 _ hcl) (va_AO.use hao) rfl hd rfl g1 (by omega) (by show _ ≤ M'.2.2.length - k0; omega) (by show _ ≤ slK M'.2.2 - z0; omega) fun cA kA comp f1 f2 f3 f4 => ?_
    generalize hH1 : H.push ({ cls := cA, slots := Array.replicate n.toNatClampNeg .null, vm := .none } : Cell) = H1
    have z : H1.size = H.size + 1 := by rw [← hH1, Array.size_push]
    have e1 : H1[H.size]? = some (arrV cA n.toNatClampNeg (fun _ => .null)) := by rw [← hH1, Array.getElem?_push_size, ← arrV_new]
    have oq : ∀ q : Nat, q < H.size → H1[q]? = H[q]? := fun q hq => by rw [← hH1, Array.getElem?_push, if_neg (Nat.ne_of_lt hq)]
    have hra := (C.2.2.2.2.1.2 t _ (tysW_at w ht.2)).2
    have hcA : w.2.2.2.2 t = cA := by
      show w.2.2.2.2 t = cA
      have hra2 : va_RA s (w.2.2.2.2 t) (.object CC) := by rw [← hCC]; exact hra
      obtain ⟨_, _, -, -, -, h4⟩ := hra2
      exact Option.some.inj (h4.symm.trans f1)
    have hR1 : HR w (nwM M (32 + t, n.toNatClampNeg)) H1 := by
      refine HR.push hR ?_ z oq
      unfold ceW
      rw [el_arr (kd_nw M _), HR.rho_len hR, elA_r w _ _ _ ht.1]
      show H1[H.size]? = some (vp_cell _ _)
      rw [e1, hcA, vp_cell_q]
      congr 2
      funext j
      unfold nwM
      simp only [if_true]
      rfl
    have kk2 := kk.2 hw p e s m args below meth c k0 z0 H1 locs la C (by rw [len_nw]; omega) (by rw [slK_nw]; omega) hR1 (va_S_push hS z oq) hl hv
    rw [len_nw, slK_nw, hsl, show M.2.2.length + 1 - k0 = M.2.2.length - k0 + 1 by omega, show slK M.2.2 + n.toNatClampNeg - z0 = slK M.2.2 - z0 + n.toNatClampNeg by omega] at kk2
    have e9 : rv w (.inr M.2.2.length) = .ref H.size := by rw [rv_pos w hR.1.1, HR.rho_len hR]
    have kk3 : W p w.2.1 e _ s m args below meth c H1 locs _ _ _ (F0 m (pc + 3) la (rv w (.inr M.2.2.length) :: st.map (rv w))) := kk2
    rw [e9] at kk3
    exact kk3⟩
theorem wp_aastore {a t c r : Nat} {i : Int32} {M1 : Gm} (hd : decode (mdC md) pc = .ok (.aastore, 1)) (h : stR M t c a i r = some M1) (ht : 3 < t ∧ t < 11) (hc : c < 13) (hCC : tyA t = .object (cW c)) (kk : Wp w md d (pc + 1) ls st M1 o M') : Wp w md d pc ls (.inr r :: .inl i :: .inr a :: st) M o M' :=
  ⟨by have e : M1.2.2 = M.2.2 := by (obtain ⟨-, g2⟩ := if_some h; subst g2; rfl)
      have := kk.1; unfold mono at this ⊢; rw [e] at this; exact this, fun hw p e s m args below meth c0 k0 z0 H locs la C h1 h2 hR hS hl hv => by
    obtain ⟨⟨g1, g2, gr⟩, g0⟩ := if_some h
    subst g0
    obtain ⟨g3, g5, g4⟩ := ce_arr hR g1
    rw [elA_r w M a _ ht.1] at g4
    obtain ⟨r3, -, r4⟩ := ce_obj hR gr (by omega)
    have hge : w.1.heap.size ≤ rho w a := by rw [rho_ge w g3]; omega
    obtain ⟨r', hr', cellV, q1, q2, q3, -⟩ := r4
    have hcls := (C.2.2.2.2.1.1 c _ (clW_at c hc)).2
    have hra := (C.2.2.2.2.1.2 t _ (tysW_at w ht.2)).2
    have hra2 : va_RA s (w.2.2.2.2 t) (.object (cW c)) := by rw [← hCC]; exact hra
    obtain ⟨kA, comp, k1, k2, k3, -⟩ := hra2
    have hcomp : comp = w.2.2.2.1.1 c := Option.some.inj (k3.symm.trans hcls.1)
    subst hcomp
    obtain ⟨kC, hkC, -⟩ := hcls.2
    show W _ _ _ _ _ _ _ _ _ _ _ _ _ _ _ (F0 m pc la (rv w (.inr r) :: .int i :: rv w (.inr a) :: st.map (rv w)))
    rw [rv_pos w g3, rv_pos w r3]
    refine W.aast C.1.1 C.1.2.1 g4 (fun q h => by cases h) (fun h => by cases h) k1 k2 rfl hkC ⟨g2.1, by show _ < (arrV _ _ _).slots.size; rw [arrV_size]; exact g2.2⟩ q1 (fun q h => by rw [q3] at h; cases h) (by rw [q2]; exact hkC) (by rw [q2]; exact va_assign hcls) rfl rfl hd fun H1 e1 z oq => ?_
    refine kk.2 hw p e s m args below meth c0 k0 z0 H1 _ la C h1 h2 (HR.set hR g3 rfl (fun _ _ => rfl) (fun b hb => up2_row _ _ _ _ hb) ?_ z oq) (va_S_put hS z oq hge) hl hv
    unfold ceW
    rw [el_arr (t := t) (n := (kd M a).2) (by exact g5), elA_r w _ a _ ht.1]
    show H1[rho w a]? = some (vp_cell _ _)
    rw [e1, vp_cell_q, vp_cell_q, arrV_store]
    congr 2
    funext q
    show updV _ _ _ q = va_rf (ro w (up2 M.2.1 a i.toNatClampNeg r a q))
    by_cases hq : q = i.toNatClampNeg
    · subst hq; simp only [updV, up2, if_true, and_self]; exact (rv_ref w (by omega)).symm
    · simp [updV, up2, hq]⟩
theorem str_any {s : State} {H : Heap} (hw : Wok w) (hW : w.1.WarmedH s.vm) (hR : HR w M H) {r : Nat} (h1 : 2 ≤ r) (h2 : r < 26) : va_Any "java/lang/String" s H (rho w r) := by
  have hV := hw.2.2.2.2.2.2.1
  have h := ((hV (r - 2) (by omega)).1.moved hW.alike).kept (old_hq hR)
  rw [show 2 + (r - 2) = r by omega] at h
  have e : rho w r = w.2.2.1 r := by unfold rho; rw [if_pos (by omega)]
  rw [e]
  obtain ⟨cell, q1, q2, q3, -⟩ := h
  obtain ⟨kC, hkC, -⟩ := Vm.findClass_spec q3
  exact ⟨cell, q1, q2, ⟨kC, hkC⟩, fun comp hc => by cases Option.some.inj (q3.symm.trans hc); exact va_asg _ _⟩
theorem wp_aastoreS {a r : Nat} {i : Int32} {M1 : Gm} (hd : decode (mdC md) pc = .ok (.aastore, 1)) (h : stS M a i r = some M1) (kk : Wp w md d (pc + 1) ls st M1 o M') : Wp w md d pc ls (.inr r :: .inl i :: .inr a :: st) M o M' :=
  ⟨by have e : M1.2.2 = M.2.2 := by (obtain ⟨-, g2⟩ := if_some h; subst g2; rfl)
      have := kk.1; unfold mono at this ⊢; rw [e] at this; exact this, fun hw p e s m args below meth c0 k0 z0 H locs la C h1 h2 hR hS hl hv => by
    obtain ⟨⟨g1, g2, gr1, gr2⟩, g0⟩ := if_some h
    subst g0
    obtain ⟨g3, g5, g4⟩ := ce_arr (t := 10) hR g1
    rw [elA_r w M a _ (by omega)] at g4
    have hge : w.1.heap.size ≤ rho w a := by rw [rho_ge w g3]; omega
    obtain ⟨cellV, q1, q3, ⟨kC, hkC⟩, hasg⟩ := str_any hw C.2.2.2.1 hR gr1 gr2
    have hra : va_RA s (w.2.2.2.2 10) (.object "java/lang/String") := (C.2.2.2.2.1.2 10 _ (tysW_at w (by omega))).2
    obtain ⟨kA, comp, k1, k2, k3, -⟩ := hra
    obtain ⟨kE, hkE, -⟩ := Vm.findClass_spec k3
    show W _ _ _ _ _ _ _ _ _ _ _ _ _ _ _ (F0 m pc la (rv w (.inr r) :: .int i :: rv w (.inr a) :: st.map (rv w)))
    rw [rv_pos w g3, rv_ref w (show 0 < r by omega)]
    refine W.aast C.1.1 C.1.2.1 g4 (fun q h => by cases h) (fun h => by cases h) k1 k2 rfl hkE ⟨g2.1, by show _ < (arrV _ _ _).slots.size; rw [arrV_size]; exact g2.2⟩ q1 (fun q h => by rw [h] at q3; cases q3) hkC (hasg _ k3) rfl rfl hd fun H1 e1 z oq => ?_
    refine kk.2 hw p e s m args below meth c0 k0 z0 H1 _ la C h1 h2 (HR.set hR g3 rfl (fun _ _ => rfl) (fun b hb => up2_row _ _ _ _ hb) ?_ z oq) (va_S_put hS z oq hge) hl hv
    unfold ceW
    rw [el_arr (t := 10) (n := (kd M a).2) (by exact g5), elA_r w _ a _ (by omega)]
    show H1[rho w a]? = some (vp_cell _ _)
    rw [e1, vp_cell_q, vp_cell_q, arrV_store]
    congr 2
    funext q
    show updV _ _ _ q = va_rf (ro w (up2 M.2.1 a i.toNatClampNeg r a q))
    by_cases hq : q = i.toNatClampNeg
    · subst hq; simp only [updV, up2, if_true, and_self]; exact (rv_ref w (by omega)).symm
    · simp [updV, up2, hq]⟩
theorem wp_ldcS {i sid : Nat} {tx : String} (hd : decode (mdC md) pc = .ok (.ldc i, 2)) (hs : ((mdY md).cls, i, tx, sid) ∈ strT) (h0 : 0 < sid) (kk : Wp w md d (pc + 2) ls (.inr sid :: st) M o M') : Wp w md d pc ls st M o M' :=
  ⟨kk.1, fun hw p e s m args below meth c k0 z0 H locs la C h1 h2 hR hS hl hv => by
    have hz : vk_R (mdY md).cls i tx (rho w sid) s := vk_R.warm C.2.2.2.1 (hw.2.2.2.2.2.1 _ hs)
    refine va_ldcS C.1.1 C.1.2.1 C.2.1 hz hd ?_
    have kk3 : W p w.2.1 e _ s m args below meth c H locs _ _ _ (F0 m (pc + 2) la (rv w (.inr sid) :: st.map (rv w))) := kk.2 hw p e s m args below meth c k0 z0 H locs la C h1 h2 hR hS hl hv
    rw [rv_ref w h0] at kk3
    exact kk3⟩
theorem wp_iret {x : Int32} (hd : decode (mdC md) pc = .ok (.ireturn, 1)) (hr : mdR md = some .int) : Wp w md d pc ls [.inl x] M (.inl (some (.inl x))) M :=
  ⟨mono.rf, fun hw p e s m args below meth c k0 z0 H locs la C h1 h2 hR hS hl hv => W.iret C.1.1 C.1.2.1 (C.1.2.2.2.1.trans hr) (fun t ht _ => ⟨rfl, by rw [ht]; exact hR⟩) hS.2.2 hd C.1.2.2.2.2.1⟩
theorem wp_zret {x : Int32} (hd : decode (mdC md) pc = .ok (.ireturn, 1)) (hr : mdR md = some .boolean) (hz : x = 0 ∨ x = 1) : Wp w md d pc ls [.inl x] M (.inl (some (.inl x))) M :=
  ⟨mono.rf, fun hw p e s m args below meth c k0 z0 H locs la C h1 h2 hR hS hl hv => W.zret C.1.1 C.1.2.1 (C.1.2.2.2.1.trans hr) (by rcases hz with rfl | rfl <;> rfl) (fun t ht _ => ⟨rfl, by rw [ht]; exact hR⟩) hS.2.2 hd C.1.2.2.2.2.1⟩
theorem wp_aret {a : Nat} {n : String} (hd : decode (mdC md) pc = .ok (.areturn, 1)) (hr : mdR md = some (.object n)) : Wp w md d pc ls [.inr a] M (.inl (some (.inr a))) M :=
  ⟨mono.rf, fun hw p e s m args below meth c k0 z0 H locs la C h1 h2 hR hS hl hv => W.aret C.1.1 C.1.2.1 (C.1.2.2.2.1.trans hr) (Or.inl ⟨n, rfl⟩) (by cases a with | zero => exact Or.inl rfl | succ a => exact Or.inr ⟨_, rfl⟩) (fun t ht _ => ⟨rfl, by rw [ht]; exact hR⟩) hS.2.2 hd C.1.2.2.2.2.1⟩
theorem wp_ret (hd : decode (mdC md) pc = .ok (.return_, 1)) (hr : mdR md = none) : Wp w md d pc ls [] M (.inl none) M :=
  ⟨mono.rf, fun hw p e s m args below meth c k0 z0 H locs la C h1 h2 hR hS hl hv => W.vret C.1.1 C.1.2.1 (C.1.2.2.2.1.trans hr) (fun t ht _ => ⟨rfl, by rw [ht]; exact hR⟩) hS.2.2 hd C.1.2.2.2.2.1⟩
theorem blindP {as : List Gv} : FrameBlind (PcW w as M) := fun _ _ _ _ h => h
theorem len8 {st : List Gv} (h : st.length ≤ 8) : ((st.map (rv w)).map fun v => v.category).sum ≤ 8 := by
  have : ∀ l : List Gv, ((l.map (rv w)).map fun v => v.category).sum = l.length := fun l => by
    induction l with
    | nil => rfl
    | cons v l ih => simp only [List.map_cons, List.sum_cons, rv_cat, ih, List.length_cons]; omega
  rw [this]; exact h
theorem cat8 (st : List Gv) : ((st.map (rv w)).map fun v => v.category).sum = st.length := by
  induction st with
  | nil => rfl
  | cons v l ih => simp only [List.map_cons, List.sum_cons, rv_cat, ih, List.length_cons]; omega
/-- behind a call that returned -/
theorem run_on {p : Program} {e : Env} {s : State} {m : MethodId} {args : Array Value} {below : List Frame} {meth : Method} {c : Code} {k0 z0 : Nat} {H : Heap} {locs : List Loc} {la : Array Slot} {M1 : Gm} {v : Option Gv} {rest : List Gv} {st0 : List Value}
    (hw : Wok w) (C : CxOk w md p s m args meth c k0) (h1 : k0 ≤ M.2.2.length) (h2 : z0 ≤ slK M.2.2) (hS : va_S (Fr w) s.heap H locs) (hR : HR w M H) (hl : ls.length = mdL md) (hv : lv_has la (mdL md) (lvl w 0 ls)) (hm : mono M M1)
    (hr : va_Run p w.2.1 e (rmW (d + 1) (M'.2.2.length - k0) (slK M'.2.2 - z0)) s m args below meth c H locs (M.2.2.length - k0) (slK M.2.2 - z0) (M1.2.2.length - M.2.2.length) (slK M1.2.2 - slK M.2.2) (F0 m pc la st0) (rest.map (rv w)) (QcW w v M1 #[]) (Fr w))
    (kk : Wp w md (d + 1) (pc + 3) ls (v.toList ++ rest) M1 o M') :
    W p w.2.1 e (rmW (d + 1) (M'.2.2.length - k0) (slK M'.2.2 - z0)) s m args below meth c H locs (M.2.2.length - k0) (slK M.2.2 - z0) (TgW w o M' below args s (M'.2.2.length - k0) (slK M'.2.2 - z0)) (F0 m pc la st0) := by
  intro T hT X
  obtain ⟨v', st₀, t, T', L, e0, X', hL, e1, e2, ⟨hv', hR1⟩, goes⟩ := hr T hT X
  obtain ⟨n1, n2⟩ := hm
  rw [show M.2.2.length - k0 + (M1.2.2.length - M.2.2.length) = M1.2.2.length - k0 by omega, show slK M.2.2 - z0 + (slK M1.2.2 - slK M.2.2) = slK M1.2.2 - z0 by omega] at X'
  cases hv'
  have hR1' : HR w M1 T'.heap := by rw [e1]; exact hR1
  have hS1 : va_S (Fr w) s.heap T'.heap (locs ++ L) := by
    refine ⟨Nat.le_trans hS.1 (by rw [hR.2.1, hR1'.2.1]; have := hR.1.1; have := hR1'.1.1; omega), fun q g1 g2 => ?_, fun q hq => ?_⟩
    · have : q < w.1.heap.size := Nat.lt_of_not_le g2
      rw [hR1'.2.2.1 q this, C.2.2.2.2.2.1.2 q this]
    · rcases List.mem_append.mp hq with g | g
      · exact hS.2.2 q g
      · exact hL q g
  obtain ⟨t2, a1, b1⟩ := kk.2 hw p e s m args below meth c k0 z0 T'.heap (locs ++ L) la C (by omega) (by omega) hR1' hS1 hl hv T' rfl X'
  have e9 : (v.toList ++ rest).map (rv w) = (v.map (rv w)).toList ++ rest.map (rv w) := by cases v <;> rfl
  rw [e9] at a1
  exact ⟨t2, goes t2 a1, b1⟩
theorem cB {p : Program} {s : State} {m : MethodId} {args : Array Value} {meth : Method} {c : Code} {k0 : Nat} (C : CxOk w md p s m args meth c k0) {md' : Gd} (hmd : MdOk md') {n : Nat} (hn : MdN md' n) {i : Nat} (hlink : Cond.methodLink (mdY md).cls i (mdY md') ∈ gtbl) {mc ms rc rs : Nat} :
    CallB (rmW (d + 1) rc rs) s args (mdY md).cls i (mdY md') (mdC md') (mdL md') (mdR md') (wsY md') (rmW d mc ms) mc ms n :=
  callB_of n C.2.2.1 (goodIn_Y hmd) rfl rfl rfl (C.2.2.1 _ hmd.2.1) (C.2.2.1 _ hlink) ⟨hmd.2.2.2.1.1, hmd.2.2.2.1.2, hn⟩ ⟨Nat.le_refl _, by have := hmd.2.2.2.2.1; show 8 + (mdL md' + 11) + 32 * d ≤ 32 * (d + 1); omega⟩
theorem wp_callV {md' : Gd} {i a : Nat} {As rest : List Gv} {M1 : Gm} {v : Option Gv} (hd : decode (mdC md) pc = .ok (.invokevirtual i, 3)) (hE : Ev w md' d (.inr a :: As) M (.inl v) M1) (hmd : MdOk md') (hn : MdN md' As.length) (hV : MdV md') (hlink : Cond.methodLink (mdY md).cls i (mdY md') ∈ gtbl) (hst : st = As.reverse ++ .inr a :: rest) (hr : rest.length ≤ 8) (kk : Wp w md (d + 1) (pc + 3) ls (v.toList ++ rest) M1 o M') : Wp w md (d + 1) pc ls st M o M' :=
  ⟨hE.1.tr kk.1, fun hw p e s m args below meth c k0 z0 H locs la C h1 h2 hR hS hl hv => by
    subst hst
    obtain ⟨n1, n2⟩ := hE.1
    obtain ⟨n3, n4⟩ := kk.1
    refine run_on hw C h1 h2 hS hR hl hv hE.1 ?_ kk
    obtain ⟨c1, r1, hO, hr1, hrc⟩ := hV.2.2
    have hrcv := hE.2.1
    unfold rcvW at hrcv
    rw [hO] at hrcv
    obtain ⟨a2, r2, ha2, hka, hc13⟩ := hrcv
    cases ha2
    have hkd : kd M a = (c1, 0) := by unfold kd; rw [List.getD_eq_getElem?_getD, hka]; rfl
    obtain ⟨g3, -, g4⟩ := ce_obj hR hkd (by omega)
    have e9 : (As.reverse ++ Sum.inr a :: rest).map (rv w) = (As.map (rv w)).reverse ++ .ref (rho w a) :: rest.map (rv w) := by
      rw [List.map_append, List.map_cons, List.map_reverse, rv_pos w g3]
    have eA : ((.inr a :: As : List Gv).map (rv w)) = .ref (rho w a) :: As.map (rv w) := by rw [List.map_cons, rv_pos w g3]
    exact va_runV (As := As.map (rv w)) (rest := rest.map (rv w)) (b := rho w a) (C := (mdY md').cls) (n := As.length) ⟨C.1.1, C.1.2.1, C.1.2.2.1, C.2.1, C.2.2.1⟩ (hE.2.2 hw) ⟨cB C hmd hn hlink, C.2.2.1 _ hV.1, C.2.2.1 _ hV.2.1⟩
      ⟨blindP, by rw [← hrc]; exact va_recv (q0 := 0) C.2.2.2.2.1 (va_P1 g4) hr1 rfl, fun U hU hW => ⟨by rw [eA], State.WarmedH.trans C.2.2.2.1 hW, by rw [hU]; exact hR⟩⟩ rfl (by simp) hv.1 e9 (by rw [show (F0 m pc la ((As.reverse ++ Sum.inr a :: rest).map (rv w))).monitorRoom = 0 from rfl, Nat.mul_zero, Nat.zero_add]; exact len8 hr) hd ⟨by show _ ≤ M'.2.2.length - k0; omega, by show _ ≤ slK M'.2.2 - z0; omega⟩⟩
theorem wp_callS {md' : Gd} {i : Nat} {As rest : List Gv} {M1 : Gm} {v : Option Gv} (hd : decode (mdC md) pc = .ok (.invokestatic i, 3)) (hE : Ev w md' d As M (.inl v) M1) (hmd : MdOk md') (hn : MdN md' As.length) (hsta : Cond.static (mdY md') ∈ gtbl) (hlink : Cond.methodLink (mdY md).cls i (mdY md') ∈ gtbl) (hst : st = As.reverse ++ rest) (hr : rest.length ≤ 8) (kk : Wp w md (d + 1) (pc + 3) ls (v.toList ++ rest) M1 o M') : Wp w md (d + 1) pc ls st M o M' :=
  ⟨hE.1.tr kk.1, fun hw p e s m args below meth c k0 z0 H locs la C h1 h2 hR hS hl hv => by
    subst hst
    obtain ⟨n1, n2⟩ := hE.1
    obtain ⟨n3, n4⟩ := kk.1
    refine run_on hw C h1 h2 hS hR hl hv hE.1 ?_ kk
    have e9 : (As.reverse ++ rest).map (rv w) = (As.map (rv w)).reverse ++ rest.map (rv w) := by rw [List.map_append, List.map_reverse]
    exact va_runS (As := As.map (rv w)) (rest := rest.map (rv w)) (n := As.length) ⟨C.1.1, C.1.2.1, C.1.2.2.1, C.2.1, C.2.2.1⟩ (hE.2.2 hw) ⟨cB C hmd hn hlink, C.2.2.1 _ hsta⟩
      ⟨blindP, fun U hU hW => ⟨rfl, State.WarmedH.trans C.2.2.2.1 hW, by rw [hU]; exact hR⟩⟩ rfl (by simp) hv.1 e9 (by rw [show (F0 m pc la ((As.reverse ++ rest).map (rv w))).monitorRoom = 0 from rfl, Nat.mul_zero, Nat.zero_add]; exact len8 hr) hd ⟨by show _ ≤ M'.2.2.length - k0; omega, by show _ ≤ slK M'.2.2 - z0; omega⟩⟩
theorem cN {p : Program} {s : State} {m : MethodId} {args : Array Value} {meth : Method} {c : Code} {k0 : Nat} (hw : Wok w) (C : CxOk w md p s m args meth c k0) {md' : Gd} (hmd : MdOk md') {n : Nat} (hn : MdN md' n) {i : Nat} {host : String} (hlink : Cond.methodLinkNest (mdY md).cls i (mdY md') host ∈ lw_tbl) {mc ms rc rs : Nat} :
    va_CN (rmW (d + 1) rc rs) s args (mdY md).cls i (mdY md') host (mdC md') (mdL md') (mdR md') (wsY md') (rmW d mc ms) mc ms n :=
  va_cnB n C.2.2.1 (goodIn_Y hmd) rfl rfl rfl (va_Nw.warmM C.2.2.2.1 (va_Nw.of rfl (hw.2.2.2.2.1 _ hlink))) (C.2.2.1 _ hmd.2.1) ⟨hmd.2.2.2.1.1, hmd.2.2.2.1.2, hn⟩ ⟨Nat.le_refl _, by have := hmd.2.2.2.2.1; show 8 + (mdL md' + 11) + 32 * d ≤ 32 * (d + 1); omega⟩
theorem wp_callSN {md' : Gd} {i : Nat} {host : String} {As rest : List Gv} {M1 : Gm} {v : Option Gv} (hd : decode (mdC md) pc = .ok (.invokestatic i, 3)) (hE : Ev w md' d As M (.inl v) M1) (hmd : MdOk md') (hn : MdN md' As.length) (hsta : Cond.static (mdY md') ∈ gtbl) (hlink : Cond.methodLinkNest (mdY md).cls i (mdY md') host ∈ lw_tbl) (hst : st = As.reverse ++ rest) (hr : rest.length ≤ 8) (kk : Wp w md (d + 1) (pc + 3) ls (v.toList ++ rest) M1 o M') : Wp w md (d + 1) pc ls st M o M' :=
  ⟨hE.1.tr kk.1, fun hw p e s m args below meth c k0 z0 H locs la C h1 h2 hR hS hl hv => by
    subst hst
    obtain ⟨n1, n2⟩ := hE.1
    obtain ⟨n3, n4⟩ := kk.1
    refine run_on hw C h1 h2 hS hR hl hv hE.1 ?_ kk
    have e9 : (As.reverse ++ rest).map (rv w) = (As.map (rv w)).reverse ++ rest.map (rv w) := by rw [List.map_append, List.map_reverse]
    exact va_runSN (As := As.map (rv w)) (rest := rest.map (rv w)) (n := As.length) ⟨C.1.1, C.1.2.1, C.1.2.2.1, C.2.1, C.2.2.1⟩ (hE.2.2 hw) ⟨cN hw C hmd hn hlink, C.2.2.1 _ hsta, trivial⟩
      ⟨blindP, fun U hU hW => ⟨rfl, State.WarmedH.trans C.2.2.2.1 hW, by rw [hU]; exact hR⟩⟩ rfl (by simp) hv.1 e9 (by rw [show (F0 m pc la ((As.reverse ++ rest).map (rv w))).monitorRoom = 0 from rfl, Nat.mul_zero, Nat.zero_add]; exact len8 hr) hd ⟨by show _ ≤ M'.2.2.length - k0; omega, by show _ ≤ slK M'.2.2 - z0; omega⟩⟩
theorem wp_callI {md' : Gd} {i a : Nat} {As rest : List Gv} {M1 : Gm} (hd : decode (mdC md) pc = .ok (.invokespecial i, 3)) (hE : Ev w md' d (.inr a :: As) M (.inl none) M1) (hmd : MdOk md') (hn : MdN md' As.length) (hret : mdR md' = none) (hni : (mdY md').name = "<init>") (hO : ∃ c1, mdO md' = some c1) (hins : Cond.instanceMethod (mdY md') ∈ gtbl) (hlink : Cond.methodLink (mdY md).cls i (mdY md') ∈ gtbl) (hst : st = As.reverse ++ .inr a :: rest) (hr : rest.length ≤ 8) (kk : Wp w md (d + 1) (pc + 3) ls rest M1 o M') : Wp w md (d + 1) pc ls st M o M' :=
  ⟨hE.1.tr kk.1, fun hw p e s m args below meth c k0 z0 H locs la C h1 h2 hR hS hl hv => by
    subst hst
    obtain ⟨n1, n2⟩ := hE.1
    obtain ⟨n3, n4⟩ := kk.1
    refine run_on (v := none) hw C h1 h2 hS hR hl hv hE.1 ?_ kk
    obtain ⟨c1, hO⟩ := hO
    have hrcv := hE.2.1
    unfold rcvW at hrcv
    rw [hO] at hrcv
    obtain ⟨a2, r2, ha2, hka, hc13⟩ := hrcv
    cases ha2
    have hkd : kd M a = (c1, 0) := by unfold kd; rw [List.getD_eq_getElem?_getD, hka]; rfl
    have ha := (ce_obj hR hkd (by omega)).1
    have e9 : (As.reverse ++ Sum.inr a :: rest).map (rv w) = (As.map (rv w)).reverse ++ .ref (rho w a) :: rest.map (rv w) := by
      rw [List.map_append, List.map_cons, List.map_reverse, rv_pos w ha]
    have eA : ((.inr a :: As : List Gv).map (rv w)) = .ref (rho w a) :: As.map (rv w) := by rw [List.map_cons, rv_pos w ha]
    have hcw := cB C hmd hn hlink (d := d) (mc := M1.2.2.length - M.2.2.length) (ms := slK M1.2.2 - slK M.2.2) (rc := M'.2.2.length - k0) (rs := slK M'.2.2 - z0)
    rw [hret] at hcw
    exact va_runI (As := As.map (rv w)) (rest := rest.map (rv w)) (b := rho w a) (n := As.length) ⟨C.1.1, C.1.2.1, C.1.2.2.1, C.2.1, C.2.2.1⟩ (hE.2.2 hw) ⟨hcw, hni, C.2.2.1 _ hins⟩
      ⟨blindP, fun U hU hW => ⟨by rw [eA], State.WarmedH.trans C.2.2.2.1 hW, by rw [hU]; exact hR⟩⟩ rfl (by simp) hv.1 e9 (by rw [show (F0 m pc la ((As.reverse ++ Sum.inr a :: rest).map (rv w))).monitorRoom = 0 from rfl, Nat.mul_zero, Nat.zero_add]; exact len8 hr) hd ⟨by show _ ≤ M'.2.2.length - k0; omega, by show _ ≤ slK M'.2.2 - z0; omega⟩⟩
theorem wp_callIN {md' : Gd} {i a : Nat} {As rest : List Gv} {M1 : Gm} (hd : decode (mdC md) pc = .ok (.invokespecial i, 3)) (hE : Ev w md' d (.inr a :: As) M (.inl none) M1) (hmd : MdOk md') (hn : MdN md' As.length) (hret : mdR md' = none) (hni : (mdY md').name = "<init>") (hO : ∃ c1, mdO md' = some c1) (hins : Cond.instanceMethod (mdY md') ∈ gtbl) {host : String} (hlink : Cond.methodLinkNest (mdY md).cls i (mdY md') host ∈ lw_tbl) (hst : st = As.reverse ++ .inr a :: rest) (hr : rest.length ≤ 8) (kk : Wp w md (d + 1) (pc + 3) ls rest M1 o M') : Wp w md (d + 1) pc ls st M o M' :=
  ⟨hE.1.tr kk.1, fun hw p e s m args below meth c k0 z0 H locs la C h1 h2 hR hS hl hv => by
    subst hst
    obtain ⟨n1, n2⟩ := hE.1
    obtain ⟨n3, n4⟩ := kk.1
    refine run_on (v := none) hw C h1 h2 hS hR hl hv hE.1 ?_ kk
    obtain ⟨c1, hO⟩ := hO
    have hrcv := hE.2.1
    unfold rcvW at hrcv
    rw [hO] at hrcv
    obtain ⟨a2, r2, ha2, hka, hc13⟩ := hrcv
    cases ha2
    have hkd : kd M a = (c1, 0) := by unfold kd; rw [List.getD_eq_getElem?_getD, hka]; rfl
    have ha := (ce_obj hR hkd (by omega)).1
    have e9 : (As.reverse ++ Sum.inr a :: rest).map (rv w) = (As.map (rv w)).reverse ++ .ref (rho w a) :: rest.map (rv w) := by
      rw [List.map_append, List.map_cons, List.map_reverse, rv_pos w ha]
    have eA : ((.inr a :: As : List Gv).map (rv w)) = .ref (rho w a) :: As.map (rv w) := by rw [List.map_cons, rv_pos w ha]
    have hcw := cN hw C hmd hn hlink (d := d) (mc := M1.2.2.length - M.2.2.length) (ms := slK M1.2.2 - slK M.2.2) (rc := M'.2.2.length - k0) (rs := slK M'.2.2 - z0)
    rw [hret] at hcw
    exact va_runIN (As := As.map (rv w)) (rest := rest.map (rv w)) (b := rho w a) (n := As.length) ⟨C.1.1, C.1.2.1, C.1.2.2.1, C.2.1, C.2.2.1⟩ (hE.2.2 hw) ⟨hcw, hni, C.2.2.1 _ hins⟩
      ⟨blindP, fun U hU hW => ⟨by rw [eA], State.WarmedH.trans C.2.2.2.1 hW, by rw [hU]; exact hR⟩⟩ rfl (by simp) hv.1 e9 (by rw [show (F0 m pc la ((As.reverse ++ Sum.inr a :: rest).map (rv w))).monitorRoom = 0 from rfl, Nat.mul_zero, Nat.zero_add]; exact len8 hr) hd ⟨by show _ ≤ M'.2.2.length - k0; omega, by show _ ≤ slK M'.2.2 - z0; omega⟩⟩
theorem wp_objInit {i a c1 : Nat} {rest : List Gv} (hd : decode (mdC md) pc = .ok (.invokespecial i, 3)) (hka : M.2.2[a]? = some (c1, 0)) (hc13 : c1 < 13) (hlink : Cond.methodLink (mdY md).cls i Lib.objectInit ∈ gtbl) (hins : Cond.instanceMethod Lib.objectInit ∈ gtbl) (hcode : Cond.code Lib.objectInit ⟨#[0xb1]⟩ 1 none ∈ gtbl) (hr : rest.length ≤ 8) (kk : Wp w md (d + 1) (pc + 3) ls rest M o M') : Wp w md (d + 1) pc ls (.inr a :: rest) M o M' :=
  ⟨kk.1, fun hw p e s m args below meth c k0 z0 H locs la C h1 h2 hR hS hl hv => by
    have hkd : kd M a = (c1, 0) := by unfold kd; rw [List.getD_eq_getElem?_getD, hka]; rfl
    have ha := (ce_obj hR hkd (by omega)).1
    show W _ _ _ _ _ _ _ _ _ _ _ _ _ _ _ (F0 m pc la (rv w (.inr a) :: rest.map (rv w)))
    rw [rv_pos w ha]
    refine W.objInit C.1.1 C.1.2.1 C.2.1 (C.2.2.1 _ hlink) (C.2.2.1 _ hins) (C.2.2.1 _ hcode) rfl (hv.1.trans C.1.2.2.1.symm) rfl hd (by show 1 ≤ d + 1; omega) ?_ (kk.2 hw p e s m args below meth c k0 z0 H locs la C h1 h2 hR hS hl hv)
    show 2 * 0 + ((rest.map (rv w)).map fun v => v.category).sum + 12 ≤ 32 * (d + 1)
    rw [cat8]; omega⟩
theorem vx_ofWF {l : Launch} {y : MethodName} {ws ws' : List Cond} {rm : Room} {Pc : Array Value → State → Prop} {Qc : Array Value → State → Outcome → State → Prop} {XC : String → State → State → Prop} {mc ms : Nat} {free : Addr → Prop} {cc : ByteArray} {maxL : Nat} {ret : Option FieldType}
    (hy : plainFor y = true) (hw : ws = Cond.code y cc maxL ret :: ws')
    (body : ∀ p e s m args below meth c s₁, BodyLoose p l y (headSpec ws rm) cc maxL ret e s m args below meth c s₁ → c.maxLocals = maxL → (∀ x ∈ c.exceptionTable.toList, False) → Pc args s →
      W p l e (headSpec ws rm).room s m args below meth c s.heap [] 0 0 (vx_MQ below Qc XC args s mc ms free) (entryFrame m args maxL)) : vx_Met l y ws rm Pc Qc XC mc ms free := by
  refine MetFree.of_bodySF (code := cc) (maxLocals := maxL) (ret := ret) hy ?_ ?_
  · intro args s m h hn
    obtain ⟨meth, c, h1, h2, h3, h4, h5, h6, -, -⟩ := Cond.code_spec hn (atoms_spec (ws := ws) h _ (by rw [hw]; exact List.mem_cons_self))
    exact ⟨meth, c, h1, h2, h3, h4, h5, h6⟩
  · intro p e s m args below meth c s₁ B hml hP _
    have hh0 : s₁.heap = s.heap := by rw [B.state]; rfl
    have ht : ∀ x ∈ c.exceptionTable.toList, False := by
      obtain ⟨meth9, c9, h1, h2, -, -, -, -, h7, -⟩ := Cond.code_spec B.named (atoms_spec (ws := ws) B.pre _ (by rw [hw]; exact List.mem_cons_self))
      cases Option.some.inj (h1.symm.trans B.method)
      cases Option.some.inj (h2.symm.trans (Stand.of_body B).code)
      intro x hx
      rw [Array.isEmpty_iff.mp h7] at hx
      cases hx
    obtain ⟨t, a1, o, b1, b2, b3⟩ := body p e s m args below meth c s₁ B hml ht hP s₁ hh0 (Stand.of_body B)
    exact ⟨t, o, a1, b1, b2, b3⟩
theorem lvargs_mem (w : Gw) : ∀ (as : List Gv) (i k : Nat) (v : Gv), as[k]? = some v → (i + k, rv w v) ∈ lv_args i (as.map (rv w))
  | [], _, _, _, h => by simp at h
  | u :: r, i, 0, v, h => by
    simp at h; subst h
    exact List.mem_cons_self
  | u :: r, i, k + 1, v, h => by
    have := lvargs_mem w r (i + 1) k v (by simpa using h)
    rw [show i + 1 + k = i + (k + 1) by omega] at this
    refine List.mem_cons_of_mem _ ?_
    rw [if_neg (by rw [rv_cat]; decide)]
    exact this
theorem lg_len (w : Gw) (as : List Gv) : (lg_sl (as.map (rv w))).length = as.length := by
  induction as with
  | nil => rfl
  | cons v r ih =>
    have : lg_sl ((v :: r).map (rv w)) = [.val (rv w v)] ++ lg_sl (r.map (rv w)) := by
      unfold lg_sl
      rw [List.map_cons, List.flatMap_cons, if_neg (by rw [rv_cat]; decide)]
    rw [this, List.length_append, ih]; simp; omega
theorem ls_get {as : List Gv} {n k : Nat} {v : Gv} (h : (as.map some ++ List.replicate n (none : Option Gv))[k]? = some (some v)) : as[k]? = some v := by
  rcases Nat.lt_or_ge k as.length with q | q
  · rw [List.getElem?_append_left (by simpa using q), List.getElem?_map] at h
    cases e : as[k]? with
    | none => rw [e] at h; cases h
    | some u => rw [e] at h; cases h; rfl
  · rw [List.getElem?_append_right (by simpa using q)] at h
    rcases Nat.lt_or_ge (k - (as.map some).length) n with z | z
    · rw [List.getElem?_replicate, if_pos z] at h; cases h
    · rw [List.getElem?_replicate, if_neg (by omega)] at h; cases h
/-- a method's entry -/
theorem ev_of {as : List Gv} (hmd : MdOk md) (hrc : rcvW md as M) (hlen : as.length ≤ mdL md) (kk : Wp w md d 0 (as.map some ++ List.replicate (mdL md - as.length) none) [] M o M') : Ev w md d as M o M' := by
  refine ⟨kk.1, hrc, fun hw => ?_⟩
  have body : ∀ (R : Room) (p : Program) (e : Env) (s : State) (m : MethodId) (args : Array Value) (below : List Frame) (meth : Method) (c : Code) (s₁ : State), R = rmW d (M'.2.2.length - M.2.2.length) (slK M'.2.2 - slK M.2.2) → BodyLoose p w.2.1 (mdY md) (headSpec (wsY md) R) (mdC md) (mdL md) (mdR md) e s m args below meth c s₁ → c.maxLocals = mdL md → PcW w as M args s →
      W p w.2.1 e (headSpec (wsY md) R).room s m args below meth c s.heap [] 0 0 (TgW w o M' below args s (M'.2.2.length - M.2.2.length) (slK M'.2.2 - slK M.2.2)) (entryFrame m args (mdL md)) := by
    intro R p e s m args below meth c s₁ hRm B hml hP
    obtain ⟨hargs, hW, hR⟩ := hP
    subst hargs
    have hts := atoms_spec (ws := wsY md) B.pre
    have htb : c.exceptionTable.toList = tableOf (mdH md) := by
      obtain ⟨meth9, c9, g1, g2, -, -, -, -, g7, -⟩ := Cond.code_spec B.named (hts _ List.mem_cons_self)
      cases Option.some.inj (g1.symm.trans B.method)
      cases Option.some.inj (g2.symm.trans (Stand.of_body B).code)
      rw [Array.isEmpty_iff.mp g7, hmd.2.2.2.2.2]
      rfl
    have C : CxOk w md p s m (as.map (rv w)).toArray meth c M.2.2.length :=
      ⟨⟨B.exec, B.bytes, hml, B.returns, B.notSynchronized, (name_of_methodNamed B.named B.method).1⟩, findClass_of_methodNamed B.named, fun t ht => hts t (List.mem_cons_of_mem _ ht), hW, va_K.moved hW.alike hw.1, ⟨hR.2.1, hR.2.2.1⟩, htb⟩
    have hla := lv_entry (as.map (rv w)) (n := mdL md) (by rw [lg_len]; exact hlen)
    rw [lg_entry_eq]
    generalize (lg_sl (as.map (rv w)) ++ List.replicate (mdL md - (lg_sl (as.map (rv w))).length) Slot.unset).toArray = la at hla ⊢
    have hv : lv_has la (mdL md) (lvl w 0 (as.map some ++ List.replicate (mdL md - as.length) none)) := by
      refine ⟨hla.1, hla.2.1, fun q hq => ?_⟩
      obtain ⟨k, v, g1, rfl⟩ := lvl_of w _ 0 q hq
      have := lvargs_mem w as 0 k v (ls_get g1)
      exact hla.2.2 _ this
    have k9 := kk.2 hw p e s m _ below meth c M.2.2.length (slK M.2.2) s.heap [] la C (Nat.le_refl _) (Nat.le_refl _) hR va_S.rf (by rw [List.length_append, List.length_map, List.length_replicate]; omega) hv
    rw [Nat.sub_self, Nat.sub_self] at k9
    subst hRm
    exact k9
  cases o with
  | inl v => exact va_MetF (cc := mdC md) (maxL := mdL md) (ret := mdR md) hmd.2.2.1 rfl (fun p e s m args below meth c s₁ B hml hP => body _ p e s m args below meth c s₁ rfl B hml hP)
  | inr E => exact vx_ofWF (cc := mdC md) (maxL := mdL md) (ret := mdR md) hmd.2.2.1 rfl (fun p e s m args below meth c s₁ B hml _ hP => body _ p e s m args below meth c s₁ rfl B hml hP)
end Rules
