/-! ===== String constants: length and charAt ===== -/
def mdJ0_length_8abf5 : Gd := (yJ0_length_8abf5, cJ0_length_8abf5, 1, (some .int), none, [])
theorem okJ0_length_8abf5 : MdOk mdJ0_length_8abf5 := ⟨gt_mem 962 (by decide +kernel) (by decide +kernel), gt_mem 130 (by decide +kernel) (by decide +kernel), by decide +kernel, ⟨by decide +kernel, by decide +kernel⟩, by decide, rfl⟩
theorem nnJ0_length_8abf5 : MdN mdJ0_length_8abf5 0 := by unfold MdN; decide +kernel
def mdJ0_coder_7d493 : Gd := (yJ0_coder_7d493, cJ0_coder_7d493, 1, (some .byte), none, [])
theorem okJ0_coder_7d493 : MdOk mdJ0_coder_7d493 := ⟨gt_mem 966 (by decide +kernel) (by decide +kernel), gt_mem 130 (by decide +kernel) (by decide +kernel), by decide +kernel, ⟨by decide +kernel, by decide +kernel⟩, by decide, rfl⟩
theorem nnJ0_coder_7d493 : MdN mdJ0_coder_7d493 0 := by unfold MdN; decide +kernel
def mdJ0_charAt_5068e : Gd := (yJ0_charAt_5068e, cJ0_charAt_5068e, 2, (some .char), none, [])
theorem okJ0_charAt_5068e : MdOk mdJ0_charAt_5068e := ⟨gt_mem 972 (by decide +kernel) (by decide +kernel), gt_mem 130 (by decide +kernel) (by decide +kernel), by decide +kernel, ⟨by decide +kernel, by decide +kernel⟩, by decide, rfl⟩
theorem nnJ0_charAt_5068e : MdN mdJ0_charAt_5068e 1 := by unfold MdN; decide +kernel
def mdJ0_isLatin1_aae02 : Gd := (yJ0_isLatin1_aae02, cJ0_isLatin1_aae02, 1, (some .boolean), none, [])
theorem okJ0_isLatin1_aae02 : MdOk mdJ0_isLatin1_aae02 := ⟨gt_mem 976 (by decide +kernel) (by decide +kernel), gt_mem 130 (by decide +kernel) (by decide +kernel), by decide +kernel, ⟨by decide +kernel, by decide +kernel⟩, by decide, rfl⟩
theorem nnJ0_isLatin1_aae02 : MdN mdJ0_isLatin1_aae02 0 := by unfold MdN; decide +kernel
def mdJ1_charAt_3b067 : Gd := (yJ1_charAt_3b067, cJ1_charAt_3b067, 2, (some .char), none, [])
theorem okJ1_charAt_3b067 : MdOk mdJ1_charAt_3b067 := ⟨gt_mem 979 (by decide +kernel) (by decide +kernel), gt_mem 131 (by decide +kernel) (by decide +kernel), by decide +kernel, ⟨by decide +kernel, by decide +kernel⟩, by decide, rfl⟩
theorem nnJ1_charAt_3b067 : MdN mdJ1_charAt_3b067 2 := by unfold MdN; decide +kernel
def mdJ0_checkIndex_df160 : Gd := (yJ0_checkIndex_df160, cJ0_checkIndex_df160, 2, none, none, [])
theorem okJ0_checkIndex_df160 : MdOk mdJ0_checkIndex_df160 := ⟨gt_mem 982 (by decide +kernel) (by decide +kernel), gt_mem 130 (by decide +kernel) (by decide +kernel), by decide +kernel, ⟨by decide +kernel, by decide +kernel⟩, by decide, rfl⟩
theorem nnJ0_checkIndex_df160 : MdN mdJ0_checkIndex_df160 2 := by unfold MdN; decide +kernel
def mdJ3_checkIndex_8e157 : Gd := (yJ3_checkIndex_8e157, cJ3_checkIndex_8e157, 3, (some .int), none, [])
theorem okJ3_checkIndex_8e157 : MdOk mdJ3_checkIndex_8e157 := ⟨gt_mem 987 (by decide +kernel) (by decide +kernel), gt_mem 132 (by decide +kernel) (by decide +kernel), by decide +kernel, ⟨by decide +kernel, by decide +kernel⟩, by decide, rfl⟩
theorem nnJ3_checkIndex_8e157 : MdN mdJ3_checkIndex_8e157 3 := by unfold MdN; decide +kernel
theorem vsJ0_length_8abf5 : Cond.instanceMethod yJ0_length_8abf5 ∈ gtbl ∧ Cond.selects "java/lang/String" yJ0_length_8abf5 yJ0_length_8abf5 ∈ gtbl := ⟨gt_mem 960 (by decide +kernel) (by decide +kernel), gt_mem 961 (by decide +kernel) (by decide +kernel)⟩
theorem vsJ0_coder_7d493 : Cond.instanceMethod yJ0_coder_7d493 ∈ gtbl ∧ Cond.selects "java/lang/String" yJ0_coder_7d493 yJ0_coder_7d493 ∈ gtbl := ⟨gt_mem 964 (by decide +kernel) (by decide +kernel), gt_mem 965 (by decide +kernel) (by decide +kernel)⟩
theorem vsJ0_charAt_5068e : Cond.instanceMethod yJ0_charAt_5068e ∈ gtbl ∧ Cond.selects "java/lang/String" yJ0_charAt_5068e yJ0_charAt_5068e ∈ gtbl := ⟨gt_mem 970 (by decide +kernel) (by decide +kernel), gt_mem 971 (by decide +kernel) (by decide +kernel)⟩
theorem vsJ0_isLatin1_aae02 : Cond.instanceMethod yJ0_isLatin1_aae02 ∈ gtbl ∧ Cond.selects "java/lang/String" yJ0_isLatin1_aae02 yJ0_isLatin1_aae02 ∈ gtbl := ⟨gt_mem 974 (by decide +kernel) (by decide +kernel), gt_mem 975 (by decide +kernel) (by decide +kernel)⟩
theorem ssJ1_charAt_3b067 : Cond.static yJ1_charAt_3b067 ∈ gtbl := gt_mem 978 (by decide +kernel) (by decide +kernel)
theorem ssJ0_checkIndex_df160 : Cond.static yJ0_checkIndex_df160 ∈ gtbl := gt_mem 981 (by decide +kernel) (by decide +kernel)
theorem ssJ3_checkIndex_8e157 : Cond.static yJ3_checkIndex_8e157 ∈ gtbl := gt_mem 986 (by decide +kernel) (by decide +kernel)
theorem ml_RJ0_335 : Cond.methodLink RJ0 335 yJ0_coder_7d493 ∈ gtbl := gt_mem 963 (by decide +kernel) (by decide +kernel)
theorem ml_RJ0_492 : Cond.methodLink RJ0 492 yJ0_isLatin1_aae02 ∈ gtbl := gt_mem 973 (by decide +kernel) (by decide +kernel)
theorem ml_RJ0_495 : Cond.methodLink RJ0 495 yJ1_charAt_3b067 ∈ gtbl := gt_mem 977 (by decide +kernel) (by decide +kernel)
theorem ml_RJ1_9 : Cond.methodLink RJ1 9 yJ0_checkIndex_df160 ∈ gtbl := gt_mem 980 (by decide +kernel) (by decide +kernel)
theorem ml_RJ0_1059 : Cond.methodLink RJ0 1059 yJ3_checkIndex_8e157 ∈ gtbl := gt_mem 985 (by decide +kernel) (by decide +kernel)
theorem fl_RJ0_38 : Cond.fieldLink RJ0 38 "java/lang/String" "COMPACT_STRINGS" "Z" ∈ gtbl := gt_mem 967 (by decide +kernel) (by decide +kernel)
theorem fl_RJ0_1053 : Cond.fieldLink RJ0 1053 "jdk/internal/util/Preconditions" "SIOOBE_FORMATTER" "Ljava/util/function/BiFunction;" ∈ gtbl := gt_mem 983 (by decide +kernel) (by decide +kernel)
theorem fl_RJ0_9 : Cond.fieldLink RJ0 9 "java/lang/String" "value" "[B" ∈ gtbl := gt_mem 1949 (by decide +kernel) (by decide +kernel)
theorem fl_RJ0_15 : Cond.fieldLink RJ0 15 "java/lang/String" "coder" "B" ∈ gtbl := gt_mem 1950 (by decide +kernel) (by decide +kernel)
section Rules
variable {w : Gw} {md : Gd} {d pc : Nat} {ls : List (Option Gv)} {st : List Gv} {M : Gm} {o : Go} {M' : Gm}
theorem old_s {p : Program} {s : State} {m : MethodId} {args : Array Value} {meth : Method} {c : Code} {k0 : Nat} (C : CxOk w md p s m args meth c k0) : ∀ a : Nat, a < w.1.heap.size → ¬ Fr w a → s.heap[a]? = w.1.heap[a]? := fun a h _ => C.2.2.2.2.2.1.2 a h
theorem rho_low (w : Gw) {a : Nat} (h : a < 64) : rho w a = w.2.2.1 a := by unfold rho; rw [if_pos h]
/-- what a String constant is, in the state at a method's entry -/
theorem str_s (hw : Wok w) {p : Program} {s : State} {m : MethodId} {args : Array Value} {meth : Method} {c : Code} {k0 : Nat} (C : CxOk w md p s m args meth c k0) {r : Nat} (h1 : 2 ≤ r) (h2 : r < 26) :
    va_O "java/lang/String" (rho w r) (Fr w) s s.heap ∧ va_OF "java/lang/String" "coder" "B" (.int 0) (rho w r) (Fr w) s s.heap ∧ va_OF "java/lang/String" "value" "[B" (.ref (rho w (r + 24))) (rho w r) (Fr w) s s.heap ∧ va_T .byte (rho w (r + 24)) (strLen.getD (r - 2) 0) (fun j => .int ((strByt.getD (r - 2) []).getD j 0)) (Fr w) s s.heap := by
  obtain ⟨g1, g2, g3, g4⟩ := hw.2.2.2.2.2.2.1 (r - 2) (by omega)
  rw [show 2 + (r - 2) = r by omega] at g1 g2 g3
  rw [show 26 + (r - 2) = r + 24 by omega] at g3 g4
  rw [rho_low w (show r < 64 by omega), rho_low w (show r + 24 < 64 by omega)]
  have hA := C.2.2.2.1.alike
  have ho := old_s C
  exact ⟨va_O.moved hA (g1.kept ho), va_OF.moved hA (g2.kept ho), va_OF.moved hA (g3.kept ho), va_T.moved hA (g4.kept ho)⟩
theorem wp_strVal {i r : Nat} (hd : decode (mdC md) pc = .ok (.getfield i, 3)) (g1 : 2 ≤ r) (g2 : r < 26) (hlink : Cond.fieldLink (mdY md).cls i "java/lang/String" "value" "[B" ∈ gtbl) (kk : Wp w md d (pc + 3) ls (.inr (r + 24) :: st) M o M') : Wp w md d pc ls (.inr r :: st) M o M' :=
  ⟨kk.1, fun hw p e s m args below meth c k0 z0 H locs la C h1 h2 hR hS hl hv => by
    show W _ _ _ _ _ _ _ _ _ _ _ _ _ _ _ (F0 m pc la (rv w (.inr r) :: st.map (rv w)))
    rw [rv_ref w (show 0 < r by omega)]
    refine vk_getf C.1.1 C.1.2.1 (str_s hw C g1 g2).2.2.1 hS C.2.1 (C.2.2.1 _ hlink) (fun x h => h) hd ?_
    have k3 : W p w.2.1 e _ s m args below meth c H locs _ _ _ (F0 m (pc + 3) la (rv w (.inr (r + 24)) :: st.map (rv w))) := kk.2 hw p e s m args below meth c k0 z0 H locs la C h1 h2 hR hS hl hv
    rw [rv_ref w (show 0 < r + 24 by omega)] at k3
    exact k3⟩
theorem wp_strCod {i r : Nat} (hd : decode (mdC md) pc = .ok (.getfield i, 3)) (g1 : 2 ≤ r) (g2 : r < 26) (hlink : Cond.fieldLink (mdY md).cls i "java/lang/String" "coder" "B" ∈ gtbl) (kk : Wp w md d (pc + 3) ls (.inl 0 :: st) M o M') : Wp w md d pc ls (.inr r :: st) M o M' :=
  ⟨kk.1, fun hw p e s m args below meth c k0 z0 H locs la C h1 h2 hR hS hl hv => by
    show W _ _ _ _ _ _ _ _ _ _ _ _ _ _ _ (F0 m pc la (rv w (.inr r) :: st.map (rv w)))
    rw [rv_ref w (show 0 < r by omega)]
    exact vk_getf C.1.1 C.1.2.1 (str_s hw C g1 g2).2.1 hS C.2.1 (C.2.2.1 _ hlink) (fun x h => h) hd (kk.2 hw p e s m args below meth c k0 z0 H locs la C h1 h2 hR hS hl hv)⟩
theorem wp_strAlen {r : Nat} (hd : decode (mdC md) pc = .ok (.arraylength, 1)) (g1 : 2 ≤ r) (g2 : r < 26) (kk : Wp w md d (pc + 1) ls (.inl (Int32.ofNat (strLen.getD (r - 2) 0)) :: st) M o M') : Wp w md d pc ls (.inr (r + 24) :: st) M o M' :=
  ⟨kk.1, fun hw p e s m args below meth c k0 z0 H locs la C h1 h2 hR hS hl hv => by
    show W _ _ _ _ _ _ _ _ _ _ _ _ _ _ _ (F0 m pc la (rv w (.inr (r + 24)) :: st.map (rv w)))
    rw [rv_ref w (show 0 < r + 24 by omega)]
    exact va_tlen C.1.1 C.1.2.1 (str_s hw C g1 g2).2.2.2 hS rfl hd (kk.2 hw p e s m args below meth c k0 z0 H locs la C h1 h2 hR hS hl hv)⟩
theorem wp_strBald {r : Nat} {i : Int32} (hd : decode (mdC md) pc = .ok (.baload, 1)) (g1 : 2 ≤ r) (g2 : r < 26) (hi : inb i (strLen.getD (r - 2) 0)) (kk : Wp w md d (pc + 1) ls (.inl ((strByt.getD (r - 2) []).getD i.toNatClampNeg 0) :: st) M o M') : Wp w md d pc ls (.inl i :: .inr (r + 24) :: st) M o M' :=
  ⟨kk.1, fun hw p e s m args below meth c k0 z0 H locs la C h1 h2 hR hS hl hv => by
    show W _ _ _ _ _ _ _ _ _ _ _ _ _ _ _ (F0 m pc la (.int i :: rv w (.inr (r + 24)) :: st.map (rv w)))
    rw [rv_ref w (show 0 < r + 24 by omega)]
    exact va_tb C.1.1 C.1.2.1 (str_s hw C g1 g2).2.2.2 hS (inb_vp hi) rfl hd (kk.2 hw p e s m args below meth c k0 z0 H locs la C h1 h2 hR hS hl hv)⟩
theorem wp_compact {i : Nat} (hd : decode (mdC md) pc = .ok (.getstatic i, 3)) (hlink : Cond.fieldLink (mdY md).cls i "java/lang/String" "COMPACT_STRINGS" "Z" ∈ gtbl) (kk : Wp w md d (pc + 3) ls (.inl 1 :: st) M o M') : Wp w md d pc ls st M o M' :=
  ⟨kk.1, fun hw p e s m args below meth c k0 z0 H locs la C h1 h2 hR hS hl hv => va_gets C.1.1 C.1.2.1 (va_Z.moved C.2.2.2.1.alike (hw.2.2.2.2.2.2.2.1.kept (old_s C))) hS C.2.1 (C.2.2.1 _ hlink) (fun x h => h) hd (kk.2 hw p e s m args below meth c k0 z0 H locs la C h1 h2 hR hS hl hv)⟩
theorem wp_fmt {i : Nat} (hd : decode (mdC md) pc = .ok (.getstatic i, 3)) (hlink : Cond.fieldLink (mdY md).cls i "jdk/internal/util/Preconditions" "SIOOBE_FORMATTER" "Ljava/util/function/BiFunction;" ∈ gtbl) (kk : ∀ f : Nat, Wp w md d (pc + 3) ls (.inr f :: st) M o M') : Wp w md d pc ls st M o M' :=
  ⟨(kk 0).1, fun hw p e s m args below meth c k0 z0 H locs la C h1 h2 hR hS hl hv => by
    obtain ⟨f, -, hf⟩ := hw.2.2.2.2.2.2.2.2.2
    exact va_gets C.1.1 C.1.2.1 (va_Z.moved C.2.2.2.1.alike (hf.kept (old_s C))) hS C.2.1 (C.2.2.1 _ hlink) (fun x h => h) hd ((kk f).2 hw p e s m args below meth c k0 z0 H locs la C h1 h2 hR hS hl hv)⟩
theorem wp_bret {x : Int32} (hd : decode (mdC md) pc = .ok (.ireturn, 1)) (hr : mdR md = some .byte) (hz : x.toInt8.toInt32 = x) : Wp w md d pc ls [.inl x] M (.inl (some (.inl x))) M :=
  ⟨mono.rf, fun hw p e s m args below meth c k0 z0 H locs la C h1 h2 hR hS hl hv => W.zret C.1.1 C.1.2.1 (C.1.2.2.2.1.trans hr) (by show Value.int _ = _; rw [hz]) (fun t ht _ => ⟨rfl, by rw [ht]; exact hR⟩) hS.2.2 hd C.1.2.2.2.2.1⟩
theorem wp_cret {x : Int32} (hd : decode (mdC md) pc = .ok (.ireturn, 1)) (hr : mdR md = some .char) (hz : narrow .char (.int x) = .int x) : Wp w md d pc ls [.inl x] M (.inl (some (.inl x))) M :=
  ⟨mono.rf, fun hw p e s m args below meth c k0 z0 H locs la C h1 h2 hR hS hl hv => W.zret C.1.1 C.1.2.1 (C.1.2.2.2.1.trans hr) hz (fun t ht _ => ⟨rfl, by rw [ht]; exact hR⟩) hS.2.2 hd C.1.2.2.2.2.1⟩
theorem wp_callT {md' : Gd} {i r : Nat} {As rest : List Gv} {M1 : Gm} {v : Option Gv} (hd : decode (mdC md) pc = .ok (.invokevirtual i, 3)) (g1 : 2 ≤ r) (g2 : r < 26) (hE : Ev w md' d (.inr r :: As) M (.inl v) M1) (hmd : MdOk md') (hn : MdN md' As.length) (hV : Cond.instanceMethod (mdY md') ∈ gtbl ∧ Cond.selects "java/lang/String" (mdY md') (mdY md') ∈ gtbl) (hcl : (mdY md').cls = "java/lang/String") (hlink : Cond.methodLink (mdY md).cls i (mdY md') ∈ gtbl) (hst : st = As.reverse ++ .inr r :: rest) (hr : rest.length ≤ 8) (kk : Wp w md (d + 1) (pc + 3) ls (v.toList ++ rest) M1 o M') : Wp w md (d + 1) pc ls st M o M' :=
  ⟨hE.1.tr kk.1, fun hw p e s m args below meth c k0 z0 H locs la C h1 h2 hR hS hl hv => by
    subst hst
    obtain ⟨n1, n2⟩ := hE.1
    obtain ⟨n3, n4⟩ := kk.1
    refine run_on hw C h1 h2 hS hR hl hv hE.1 ?_ kk
    have e9 : (As.reverse ++ Sum.inr r :: rest).map (rv w) = (As.map (rv w)).reverse ++ .ref (rho w r) :: rest.map (rv w) := by
      rw [List.map_append, List.map_cons, List.map_reverse, rv_ref w (show 0 < r by omega)]
    have eA : ((.inr r :: As : List Gv).map (rv w)) = .ref (rho w r) :: As.map (rv w) := by rw [List.map_cons, rv_ref w (show 0 < r by omega)]
    have hsel : (Cond.selects (mdY md').cls (mdY md') (mdY md')).before args s = true := by rw [hcl]; exact C.2.2.1 _ hV.2
    have hrecv : ∃ cellB : Cell, H[rho w r]? = some cellB ∧ cellB.vm.isStatics = false ∧ s.vm.findClass "java/lang/String" = some cellB.cls := by
      obtain ⟨cell, q1, q2, q3, -⟩ := (str_s hw C g1 g2).1.kept hS.2.1
      exact ⟨cell, q1, q2, q3⟩
    exact va_runV (As := As.map (rv w)) (rest := rest.map (rv w)) (b := rho w r) (C := "java/lang/String") (n := As.length) ⟨C.1.1, C.1.2.1, C.1.2.2.1, C.2.1, C.2.2.1⟩ (hE.2.2 hw) ⟨cB C hmd hn hlink, C.2.2.1 _ hV.1, C.2.2.1 _ hV.2⟩
      ⟨blindP, hrecv, fun U hU hW => ⟨by rw [eA], State.WarmedH.trans C.2.2.2.1 hW, by rw [hU]; exact hR⟩⟩ rfl (by simp) hv.1 e9 (by rw [show (F0 m pc la ((As.reverse ++ Sum.inr r :: rest).map (rv w))).monitorRoom = 0 from rfl, Nat.mul_zero, Nat.zero_add]; exact len8 hr) hd ⟨by show _ ≤ M'.2.2.length - k0; omega, by show _ ≤ slK M'.2.2 - z0; omega⟩⟩
/-! the JDK's methods -/
theorem ev_coder {r : Nat} (g1 : 2 ≤ r) (g2 : r < 26) : Ev w mdJ0_coder_7d493 d [.inr r] M (.inl (some (.inl 0))) M := by
  refine ev_of okJ0_coder_7d493 trivial (Nat.le_of_ble_eq_true rfl) ?_
  refine wp_compact dJ0_coder_7d493_0 fl_RJ0_38 ?_
  refine wp_if_eq (tgt := 13) dJ0_coder_7d493_3 (by decide) (fun q => absurd q (by decide)) (fun _ => ?_)
  refine wp_aload_n dJ0_coder_7d493_6 rfl ?_
  refine wp_strCod dJ0_coder_7d493_7 g1 g2 fl_RJ0_15 ?_
  refine wp_goto (tgt := 14) dJ0_coder_7d493_10 (by decide) ?_
  exact wp_bret dJ0_coder_7d493_14 rfl (by decide)
theorem ev_isLatin1 {r : Nat} (g1 : 2 ≤ r) (g2 : r < 26) : Ev w mdJ0_isLatin1_aae02 d [.inr r] M (.inl (some (.inl 1))) M := by
  refine ev_of okJ0_isLatin1_aae02 trivial (Nat.le_of_ble_eq_true rfl) ?_
  refine wp_compact dJ0_isLatin1_aae02_0 fl_RJ0_38 ?_
  refine wp_if_eq (tgt := 17) dJ0_isLatin1_aae02_3 (by decide) (fun q => absurd q (by decide)) (fun _ => ?_)
  refine wp_aload_n dJ0_isLatin1_aae02_6 rfl ?_
  refine wp_strCod dJ0_isLatin1_aae02_7 g1 g2 fl_RJ0_15 ?_
  refine wp_if_ne (tgt := 17) dJ0_isLatin1_aae02_10 (by decide) (fun q => absurd rfl q) (fun _ => ?_)
  refine wp_iconst (v := 1) dJ0_isLatin1_aae02_13 (by decide) ?_
  refine wp_goto (tgt := 18) dJ0_isLatin1_aae02_14 (by decide) ?_
  exact wp_zret dJ0_isLatin1_aae02_18 rfl (Or.inr rfl)
theorem ev_length {r : Nat} (g1 : 2 ≤ r) (g2 : r < 26) : Ev w mdJ0_length_8abf5 (d + 1) [.inr r] M (.inl (some (.inl (Int32.ofNat (strLen.getD (r - 2) 0))))) M := by
  refine ev_of okJ0_length_8abf5 trivial (Nat.le_of_ble_eq_true rfl) ?_
  refine wp_aload_n dJ0_length_8abf5_0 rfl ?_
  refine wp_strVal dJ0_length_8abf5_1 g1 g2 fl_RJ0_9 ?_
  refine wp_strAlen dJ0_length_8abf5_4 g1 g2 ?_
  refine wp_aload_n dJ0_length_8abf5_5 rfl ?_
  refine wp_callT (As := []) dJ0_length_8abf5_6 g1 g2 (ev_coder g1 g2) okJ0_coder_7d493 nnJ0_coder_7d493 vsJ0_coder_7d493 rfl ml_RJ0_335 rfl (Nat.le_of_ble_eq_true rfl) ?_
  refine wp_ishr dJ0_length_8abf5_9 ?_
  rw [sb_shr0]
  exact wp_iret dJ0_length_8abf5_10 rfl
theorem ev_pcheck {i n : Int32} {f : Nat} (h1 : ¬ i < 0) (h2 : i < n) : Ev w mdJ3_checkIndex_8e157 d [.inl i, .inl n, .inr f] M (.inl (some (.inl i))) M := by
  refine ev_of okJ3_checkIndex_8e157 trivial (Nat.le_of_ble_eq_true rfl) ?_
  refine wp_iload_n dJ3_checkIndex_8e157_0 rfl ?_
  refine wp_if_lt (tgt := 9) dJ3_checkIndex_8e157_1 (by decide) (fun q => absurd q h1) (fun _ => ?_)
  refine wp_iload_n dJ3_checkIndex_8e157_4 rfl ?_
  refine wp_iload_n dJ3_checkIndex_8e157_5 rfl ?_
  refine wp_icmp_lt (tgt := 16) dJ3_checkIndex_8e157_6 (by decide) (fun _ => ?_) (fun q => absurd h2 q)
  refine wp_iload_n dJ3_checkIndex_8e157_16 rfl ?_
  exact wp_iret dJ3_checkIndex_8e157_17 rfl
theorem ev_scheck {i n : Int32} (h1 : ¬ i < 0) (h2 : i < n) : Ev w mdJ0_checkIndex_df160 (d + 1) [.inl i, .inl n] M (.inl none) M := by
  refine ev_of okJ0_checkIndex_df160 trivial (Nat.le_of_ble_eq_true rfl) ?_
  refine wp_iload_n dJ0_checkIndex_df160_0 rfl ?_
  refine wp_iload_n dJ0_checkIndex_df160_1 rfl ?_
  refine wp_fmt dJ0_checkIndex_df160_2 fl_RJ0_1053 (fun f => ?_)
  refine wp_callS (As := [.inl i, .inl n, .inr f]) dJ0_checkIndex_df160_5 (ev_pcheck h1 h2) okJ3_checkIndex_8e157 nnJ3_checkIndex_8e157 ssJ3_checkIndex_8e157 ml_RJ0_1059 rfl (Nat.le_of_ble_eq_true rfl) ?_
  refine wp_pop dJ0_checkIndex_df160_8 ?_
  exact wp_ret dJ0_checkIndex_df160_9 rfl
theorem strByt_ok : ∀ k, k < 24 → ∀ j, j < strLen.getD k 0 → (((strByt.getD k []).getD j 0 &&& 255).toUInt32 % 65536).toInt32 = (strByt.getD k []).getD j 0 ∧ narrow .char (.int ((strByt.getD k []).getD j 0)) = .int ((strByt.getD k []).getD j 0) := by decide +kernel
theorem strLen_ok : ∀ k, k < 24 → strLen.getD k 0 < 100 := by decide +kernel
theorem inb_lt {i : Int32} {n : Nat} (hn : n < 100) (h : inb i n) : i < Int32.ofNat n := by
  rcases nI_of h.1 with ⟨j, hj, rfl⟩
  have h2 := h.2
  rw [nI_clamp hj] at h2
  exact nI_lt h2 (by omega)
theorem ev_lcharAt {r : Nat} {i : Int32} (g1 : 2 ≤ r) (g2 : r < 26) (hi : inb i (strLen.getD (r - 2) 0)) : Ev w mdJ1_charAt_3b067 (d + 2) [.inr (r + 24), .inl i] M (.inl (some (.inl ((strByt.getD (r - 2) []).getD i.toNatClampNeg 0)))) M := by
  have hb := strByt_ok (r - 2) (by omega) i.toNatClampNeg hi.2
  refine ev_of okJ1_charAt_3b067 trivial (Nat.le_of_ble_eq_true rfl) ?_
  refine wp_iload_n dJ1_charAt_3b067_0 rfl ?_
  refine wp_aload_n dJ1_charAt_3b067_1 rfl ?_
  refine wp_strAlen dJ1_charAt_3b067_2 g1 g2 ?_
  refine wp_callS (As := [.inl i, .inl (Int32.ofNat (strLen.getD (r - 2) 0))]) dJ1_charAt_3b067_3 (ev_scheck hi.1 (inb_lt (strLen_ok _ (by omega)) hi)) okJ0_checkIndex_df160 nnJ0_checkIndex_df160 ssJ0_checkIndex_df160 ml_RJ1_9 rfl (Nat.le_of_ble_eq_true rfl) ?_
  refine wp_aload_n dJ1_charAt_3b067_6 rfl ?_
  refine wp_iload_n dJ1_charAt_3b067_7 rfl ?_
  refine wp_strBald dJ1_charAt_3b067_8 g1 g2 hi ?_
  refine wp_sipush (v := 255) dJ1_charAt_3b067_9 (by decide) ?_
  refine wp_iand dJ1_charAt_3b067_12 ?_
  refine wp_i2c dJ1_charAt_3b067_13 ?_
  rw [hb.1]
  exact wp_cret dJ1_charAt_3b067_14 rfl hb.2
theorem ev_charAt {r : Nat} {i : Int32} (g1 : 2 ≤ r) (g2 : r < 26) (hi : inb i (strLen.getD (r - 2) 0)) : Ev w mdJ0_charAt_5068e (d + 3) [.inr r, .inl i] M (.inl (some (.inl ((strByt.getD (r - 2) []).getD i.toNatClampNeg 0)))) M := by
  have hb := strByt_ok (r - 2) (by omega) i.toNatClampNeg hi.2
  refine ev_of okJ0_charAt_5068e trivial (Nat.le_of_ble_eq_true rfl) ?_
  refine wp_aload_n dJ0_charAt_5068e_0 rfl ?_
  refine wp_callT (As := []) dJ0_charAt_5068e_1 g1 g2 (ev_isLatin1 (d := d + 2) g1 g2) okJ0_isLatin1_aae02 nnJ0_isLatin1_aae02 vsJ0_isLatin1_aae02 rfl ml_RJ0_492 rfl (Nat.le_of_ble_eq_true rfl) ?_
  refine wp_if_eq (tgt := 16) dJ0_charAt_5068e_4 (by decide) (fun q => absurd q (by decide)) (fun _ => ?_)
  refine wp_aload_n dJ0_charAt_5068e_7 rfl ?_
  refine wp_strVal dJ0_charAt_5068e_8 g1 g2 fl_RJ0_9 ?_
  refine wp_iload_n dJ0_charAt_5068e_11 rfl ?_
  refine wp_callS (As := [.inr (r + 24), .inl i]) dJ0_charAt_5068e_12 (ev_lcharAt g1 g2 hi) okJ1_charAt_3b067 nnJ1_charAt_3b067 ssJ1_charAt_3b067 ml_RJ0_495 rfl (Nat.le_of_ble_eq_true rfl) ?_
  exact wp_cret dJ0_charAt_5068e_15 rfl hb.2
theorem wp_strLn {i r : Nat} {x : Int32} {As rest : List Gv} (hd : decode (mdC md) pc = .ok (.invokevirtual i, 3)) (h : strLn r = some x) (hlink : Cond.methodLink (mdY md).cls i yJ0_length_8abf5 ∈ gtbl) (hAs : As = []) (hst : st = As.reverse ++ .inr r :: rest) (hr : rest.length ≤ 8) (kk : Wp w md (d + 6) (pc + 3) ls (.inl x :: rest) M o M') : Wp w md (d + 6) pc ls st M o M' := by
  obtain ⟨⟨g1, g2⟩, rfl⟩ := if_some h
  subst hAs
  exact wp_callT (As := []) hd g1 g2 (ev_length (d := d + 4) g1 g2) okJ0_length_8abf5 nnJ0_length_8abf5 vsJ0_length_8abf5 rfl hlink hst hr kk
theorem wp_strCh {i r : Nat} {j x : Int32} {As rest : List Gv} (hd : decode (mdC md) pc = .ok (.invokevirtual i, 3)) (h : strCh r j = some x) (hlink : Cond.methodLink (mdY md).cls i yJ0_charAt_5068e ∈ gtbl) (hAs : As = [.inl j]) (hst : st = As.reverse ++ .inr r :: rest) (hr : rest.length ≤ 8) (kk : Wp w md (d + 6) (pc + 3) ls (.inl x :: rest) M o M') : Wp w md (d + 6) pc ls st M o M' := by
  obtain ⟨⟨⟨g1, g2⟩, hi⟩, rfl⟩ := if_some h
  subst hAs
  exact wp_callT (As := [.inl j]) hd g1 g2 (ev_charAt (d := d + 2) g1 g2 hi) okJ0_charAt_5068e nnJ0_charAt_5068e vsJ0_charAt_5068e rfl hlink hst hr kk
end Rules
