/-! ===== methods with handlers; the law's script ===== -/
def wsH (md : Gd) : List Cond := Cond.codeWith (mdY md) (mdC md) (mdL md) (mdR md) (mdH md) :: gtbl
def MdOkH (md : Gd) : Prop := Cond.codeWith (mdY md) (mdC md) (mdL md) (mdR md) (mdH md) ∈ gtbl ∧ Cond.initialized (mdY md).cls ∈ gtbl ∧ plainName (mdY md).cls = true ∧ ((mdY md).cls ≠ "java/lang/invoke/MethodHandle" ∧ (mdY md).cls ≠ "java/lang/invoke/VarHandle") ∧ mdL md ≤ 13
def EvH (w : Gw) (md : Gd) (d : Nat) (as : List Gv) (M : Gm) (v : Option Gv) (M' : Gm) : Prop :=
  mono M M' ∧ (Wok w → Met w.2.1 (mdY md) (wsH md) (rmW d (M'.2.2.length - M.2.2.length) (slK M'.2.2 - slK M.2.2)) (PcW w as M) (QcW w v M') (M'.2.2.length - M.2.2.length) (slK M'.2.2 - slK M.2.2) (Fr w))
section Rules
variable {w : Gw} {md : Gd} {d pc : Nat} {ls : List (Option Gv)} {st : List Gv} {M : Gm} {o : Go} {M' : Gm}
theorem ev_ofH {as : List Gv} {v : Option Gv} (hmd : MdOkH md) (hlen : as.length ≤ mdL md) (kk : Wp w md d 0 (as.map some ++ List.replicate (mdL md - as.length) none) [] M (.inl v) M') : EvH w md d as M v M' := by
  refine ⟨kk.1, fun hw => va_MetW (cc := mdC md) (maxL := mdL md) (ret := mdR md) (hh := mdH md) hmd.2.2.1 rfl (fun p e s m args below meth c s₁ B hml hP => ?_)⟩
  obtain ⟨hargs, hW, hR⟩ := hP
  subst hargs
  have hts := atoms_spec (ws := wsH md) B.pre
  have htb : c.exceptionTable.toList = tableOf (mdH md) := vx_table (x := mdY md) B (hts _ List.mem_cons_self)
  have C : CxOk w md p s m (as.map (rv w)).toArray meth c M.2.2.length :=
    ⟨⟨B.exec, B.bytes, hml, B.returns, B.notSynchronized, (name_of_methodNamed B.named B.method).1⟩, findClass_of_methodNamed B.named, fun t ht => hts t (List.mem_cons_of_mem _ ht), hW, va_K.moved hW.alike hw.1, ⟨hR.2.1, hR.2.2.1⟩, htb⟩
  have hla := lv_entry (as.map (rv w)) (n := mdL md) (by rw [lg_len]; exact hlen)
  rw [lg_entry_eq]
  generalize (lg_sl (as.map (rv w)) ++ List.replicate (mdL md - (lg_sl (as.map (rv w))).length) Slot.unset).toArray = la at hla ⊢
  have hv : lv_has la (mdL md) (lvl w 0 (as.map some ++ List.replicate (mdL md - as.length) none)) := by
    refine ⟨hla.1, hla.2.1, fun q hq => ?_⟩
    obtain ⟨k, u, g1, rfl⟩ := lvl_of w _ 0 q hq
    have := lvargs_mem w as 0 k u (ls_get g1)
    exact hla.2.2 _ this
  have k9 := kk.2 hw p e s m _ below meth c M.2.2.length (slK M.2.2) s.heap [] la C (Nat.le_refl _) (Nat.le_refl _) hR va_S.rf (by rw [List.length_append, List.length_map, List.length_replicate]; omega) hv
  rw [Nat.sub_self, Nat.sub_self] at k9
  exact k9
theorem goodIn_H {md : Gd} (h : MdOkH md) : GoodIn gtbl (wsH md) := fun t ht => by
  rcases List.mem_cons.mp ht with rfl | ht
  · exact ⟨h.1, gt_good h.1⟩
  · exact ⟨ht, gt_good ht⟩
theorem wp_callSH {md' : Gd} {i : Nat} {As rest : List Gv} {M1 : Gm} {v : Option Gv} (hd : decode (mdC md) pc = .ok (.invokestatic i, 3)) (hE : EvH w md' d As M v M1) (hmd : MdOkH md') (hn : MdN md' As.length) (hsta : Cond.static (mdY md') ∈ gtbl) (hlink : Cond.methodLink (mdY md).cls i (mdY md') ∈ gtbl) (hst : st = As.reverse ++ rest) (hr : rest.length ≤ 8) (kk : Wp w md (d + 1) (pc + 3) ls (v.toList ++ rest) M1 o M') : Wp w md (d + 1) pc ls st M o M' :=
  ⟨hE.1.tr kk.1, fun hw p e s m args below meth c k0 z0 H locs la C h1 h2 hR hS hl hv => by
    subst hst
    obtain ⟨n1, n2⟩ := hE.1
    obtain ⟨n3, n4⟩ := kk.1
    refine run_on hw C h1 h2 hS hR hl hv hE.1 ?_ kk
    have e9 : (As.reverse ++ rest).map (rv w) = (As.map (rv w)).reverse ++ rest.map (rv w) := by rw [List.map_append, List.map_reverse]
    have hcw : vx_CSW (rmW (d + 1) (M'.2.2.length - k0) (slK M'.2.2 - z0)) s args (mdY md).cls i (mdY md') (mdC md') (mdL md') (mdR md') (mdH md') (wsH md') (rmW d (M1.2.2.length - M.2.2.length) (slK M1.2.2 - slK M.2.2)) (M1.2.2.length - M.2.2.length) (slK M1.2.2 - slK M.2.2) As.length :=
      ⟨⟨rfl, rfl, Nat.le_refl _, by have := hmd.2.2.2.2; show 8 + (mdL md' + 11) + 32 * d ≤ 32 * (d + 1); omega, pay_in C.2.2.1 (goodIn_H hmd), List.mem_cons_self⟩, C.2.2.1 _ hmd.1, C.2.2.1 _ hmd.2.1, hmd.2.2.2.1, fun sig h => by
        have h2 := hn
        unfold MdN at h2
        rw [h] at h2
        exact (Option.some.inj h2).symm, C.2.2.1 _ hlink, C.2.2.1 _ hsta⟩
    exact vx_runSW (As := As.map (rv w)) (rest := rest.map (rv w)) (n := As.length) ⟨C.1.1, C.1.2.1, C.1.2.2.1, C.2.1, C.2.2.1⟩ (hE.2 hw) hcw
      ⟨blindP, fun U hU hW => ⟨rfl, State.WarmedH.trans C.2.2.2.1 hW, by rw [hU]; exact hR⟩⟩ rfl (by simp) hv.1 e9 (by rw [show (F0 m pc la ((As.reverse ++ rest).map (rv w))).monitorRoom = 0 from rfl, Nat.mul_zero, Nat.zero_add]; exact len8 hr) hd ⟨by show _ ≤ M'.2.2.length - k0; omega, by show _ ≤ slK M'.2.2 - z0; omega⟩⟩
/-- the script's places -/
def scA (L : Nat) (xs : Nat → Int32) (i : Int32) : Option Int32 := if inb i L then some (xs i.toNatClampNeg) else none
theorem sc_s {L : Nat} {xs : Nat → Int32} (hX : va_X (rho w 1) L xs w.1 w.1.heap) {p : Program} {s : State} {m : MethodId} {args : Array Value} {meth : Method} {c : Code} {k0 : Nat} (C : CxOk w md p s m args meth c k0) : va_X (rho w 1) L xs s s.heap ∧ rho w 1 < s.heap.size ∧ ¬ Fr w (rho w 1) := by
  have hb : rho w 1 < w.1.heap.size := by
    obtain ⟨scr, g1, -⟩ := hX
    exact (Array.getElem?_eq_some_iff.mp g1).1
  refine ⟨va_X.moved C.2.2.2.1.alike (hX.kept (C.2.2.2.2.2.1.2 _ hb)), ?_, Nat.not_le.mpr hb⟩
  rw [C.2.2.2.2.2.1.1]; omega
theorem wp_scA {L : Nat} {xs : Nat → Int32} {i x : Int32} (hX : va_X (rho w 1) L xs w.1 w.1.heap) (hd : decode (mdC md) pc = .ok (.iaload, 1)) (h : scA L xs i = some x) (kk : Wp w md d (pc + 1) ls (.inl x :: st) M o M') : Wp w md d pc ls (.inl i :: .inr 1 :: st) M o M' :=
  ⟨kk.1, fun hw p e s m args below meth c k0 z0 H locs la C h1 h2 hR hS hl hv => by
    obtain ⟨g1, rfl⟩ := if_some h
    obtain ⟨q1, q2, q3⟩ := sc_s hX C
    exact va_sld C.1.1 C.1.2.1 q1 q2 q3 hS (inb_vp g1) hd (kk.2 hw p e s m args below meth c k0 z0 H locs la C h1 h2 hR hS hl hv)⟩
theorem wp_scL {L : Nat} {xs : Nat → Int32} (hX : va_X (rho w 1) L xs w.1 w.1.heap) (hd : decode (mdC md) pc = .ok (.arraylength, 1)) (kk : Wp w md d (pc + 1) ls (.inl (Int32.ofNat L) :: st) M o M') : Wp w md d pc ls (.inr 1 :: st) M o M' :=
  ⟨kk.1, fun hw p e s m args below meth c k0 z0 H locs la C h1 h2 hR hS hl hv => by
    obtain ⟨q1, q2, q3⟩ := sc_s hX C
    exact va_slen C.1.1 C.1.2.1 q1 q2 q3 hS hd (kk.2 hw p e s m args below meth c k0 z0 H locs la C h1 h2 hR hS hl hv)⟩
end Rules
