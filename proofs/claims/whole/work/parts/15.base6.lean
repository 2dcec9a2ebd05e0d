/-! ===== BASE 6: loops as functions, small words of the printed methods, Strings ===== -/
/-- a loop: the body goes on (.inl) or leaves (.inr) -/
def lp {σ ε : Type} (B : σ → Option (σ ⊕ ε)) : Nat → σ → Option ε
  | 0, _ => none
  | n + 1, q => (B q).bind fun r => match r with
    | .inl t => lp B n t
    | .inr e => some e
theorem lp_succ {σ ε : Type} (B : σ → Option (σ ⊕ ε)) (n : Nat) (q : σ) : lp B (n + 1) q = (B q).bind fun r => match r with
    | .inl t => lp B n t
    | .inr e => some e := rfl
/-- more turns than any loop here takes -/
def FU : Nat := 20000
theorem FU_eq : FU = 20000 := rfl
theorem bnd {α β : Type} {x : Option α} {f : α → Option β} {y : β} (h : x.bind f = some y) : ∃ v, x = some v ∧ f v = some y := by
  cases x with
  | none => cases h
  | some v => exact ⟨v, rfl, h⟩
theorem ite_t {α : Sort _} {c : Prop} [Decidable c] {a b x : α} (hc : c) (h : (if c then a else b) = x) : a = x := by rw [if_pos hc] at h; exact h
theorem ite_f {α : Sort _} {c : Prop} [Decidable c] {a b x : α} (hc : ¬ c) (h : (if c then a else b) = x) : b = x := by rw [if_neg hc] at h; exact h
theorem lsZ : lsLe [] [] := ⟨rfl, fun _ _ h => h⟩
theorem lsS {x : Option Gv} {a b : List (Option Gv)} (h : lsLe a b) : lsLe (x :: a) (x :: b) := ⟨by rw [List.length_cons, List.length_cons, h.1], fun k v g => by
  cases k with
  | zero => exact g
  | succ k => exact h.2 k v g⟩
theorem lsN {x : Option Gv} {a b : List (Option Gv)} (h : lsLe a b) : lsLe (none :: a) (x :: b) := ⟨by rw [List.length_cons, List.length_cons, h.1], fun k v g => by
  cases k with
  | zero => cases g
  | succ k => exact h.2 k v g⟩
/-- a boolean answer -/
def zck (x : Int32) : Option Int32 := if x = 0 ∨ x = 1 then some x else none
theorem zck_of {x z : Int32} (h : zck x = some z) : (z = 0 ∨ z = 1) ∧ x = z := by
  obtain ⟨g1, g2⟩ := if_some h
  exact ⟨g2 ▸ g1, g2⟩
def xE : Nat → String
  | 1 => eNSE | _ => eIAE
def xoI : Int32 ⊕ (Nat × Gm) → Go
  | .inl r => .inl (some (.inl r)) | .inr t => .inr (xE t.1)
def xmI (M : Gm) : Int32 ⊕ (Nat × Gm) → Gm
  | .inl _ => M | .inr t => t.2
def xoV : Unit ⊕ (Nat × Gm) → Go
  | .inl _ => .inl none | .inr t => .inr (xE t.1)
def xmV (M : Gm) : Unit ⊕ (Nat × Gm) → Gm
  | .inl _ => M | .inr t => t.2
def xoP : (Int32 × Gm) ⊕ (Nat × Gm) → Go
  | .inl r => .inl (some (.inl r.1)) | .inr t => .inr (xE t.1)
def xmP : (Int32 × Gm) ⊕ (Nat × Gm) → Gm
  | .inl r => r.2 | .inr t => t.2
theorem isO_of {M : Gm} {a c : Nat} {u : Unit} (h : isO M a c = some u) (hc : c < 13) : M.2.2[a]? = some (c, 0) := by
  obtain ⟨g, -⟩ := if_some h
  unfold kd at g
  rw [List.getD_eq_getElem?_getD] at g
  cases e : M.2.2[a]? with
  | none => rw [e] at g; simp at g; omega
  | some q => rw [e] at g; exact congrArg some g
/-- the length of a String constant, a sign of it -/
def strLn (r : Nat) : Option Int32 := if 2 ≤ r ∧ r < 26 then some (Int32.ofNat (strLen.getD (r - 2) 0)) else none
def strCh (r : Nat) (i : Int32) : Option Int32 := if (2 ≤ r ∧ r < 26) ∧ inb i (strLen.getD (r - 2) 0) then some ((strByt.getD (r - 2) []).getD i.toNatClampNeg 0) else none
section Rules
variable {w : Gw} {md : Gd} {d pc : Nat} {ls : List (Option Gv)} {st : List Gv} {M : Gm} {o : Go} {M' : Gm}
theorem wp_ldc_w {i : Nat} {v : Int32} (hd : decode (mdC md) pc = .ok (.ldc_w i, 3)) (hc : Cond.constant (mdY md).cls i v ∈ gtbl) (k : Wp w md d (pc + 3) ls (.inl v :: st) M o M') : Wp w md d pc ls st M o M' :=
  ⟨k.1, fun hw p e s m args below meth c k0 z0 H locs la C h1 h2 hR hS hl hv => lv_ldcw C.1.1 C.1.2.1 C.2.1 (C.2.2.1 _ hc) hd (k.2 hw p e s m args below meth c k0 z0 H locs la C h1 h2 hR hS hl hv)⟩
/-- i2l, lastore -/
theorem wp_lastI {a : Nat} {i x : Int32} {M1 : Gm} (hd : decode (mdC md) pc = .ok (.i2l, 1)) (hd2 : decode (mdC md) (pc + 1) = .ok (.lastore, 1)) (h : stA M 3 a i x = some M1) (kk : Wp w md d (pc + 2) ls st M1 o M') : Wp w md d pc ls (.inl x :: .inl i :: .inr a :: st) M o M' :=
  ⟨by have e : M1.2.2 = M.2.2 := by (obtain ⟨-, g2⟩ := if_some h; subst g2; rfl)
      have := kk.1; unfold mono at this ⊢; rw [e] at this; exact this, fun hw p e s m args below meth c k0 z0 H locs la C h1 h2 hR hS hl hv => by
    obtain ⟨⟨g1, g2⟩, g0⟩ := if_some h
    subst g0
    obtain ⟨g3, g5, g4⟩ := ce_arr hR g1
    rw [show elA w M a (32 + 3) (kd M a).2 = ((kd M a).2, .inr (.inl fun k => (M.1 a k).toInt64)) from rfl] at g4
    have hge : w.1.heap.size ≤ rho w a := by rw [rho_ge w g3]; omega
    show W _ _ _ _ _ _ _ _ _ _ _ _ _ _ _ (F0 m pc la (.int x :: .int i :: rv w (.inr a) :: st.map (rv w)))
    rw [rv_pos w g3]
    refine lv_i2l C.1.1 C.1.2.1 hd rfl ?_
    refine W.last C.1.1 C.1.2.1 g4 ((C.2.2.2.2.1.2 3 _ (tysW_at w (by omega))).1 _ (fun j => .long (M.1 a j).toInt64)) (fun q => by cases q) (by show ¬ (i < 0 ∨ (arrV _ _ _).slots.size ≤ _); rw [arrV_size]; exact inb_vp g2) rfl rfl hd2 fun H1 e1 z oq => ?_
    refine kk.2 hw p e s m args below meth c k0 z0 H1 _ la C h1 h2 (HR.set hR g3 rfl (fun b hb => up2_row _ _ _ _ hb) (fun _ _ => rfl) ?_ z oq) (va_S_put hS z oq hge) hl hv
    unfold ceW
    rw [el_arr (t := 3) (n := (kd M a).2) (by exact g5)]
    show H1[rho w a]? = some (vp_cell _ ((kd M a).2, .inr (.inl fun k => (up2 M.1 a i.toNatClampNeg x a k).toInt64)))
    rw [e1, vp_cell_l, vp_cell_l, arrV_store]
    congr 2
    funext q
    by_cases hq : q = i.toNatClampNeg
    · subst hq; simp [updV, up2]
    · simp [updV, up2, hq]⟩
theorem l64_inj {x y : Int32} : x.toInt64 = y.toInt64 ↔ x = y := by
  constructor
  · intro h
    have := congrArg Int64.toInt32 h
    simpa using this
  · intro h; rw [h]
theorem lcmp0 {x y : Int32} : lg_cmp x.toInt64 y.toInt64 = 0 ↔ x = y := by
  unfold lg_cmp
  constructor
  · intro h
    split at h
    · cases h
    · split at h
      · exact l64_inj.mp (by assumption)
      · cases h
  · intro h
    rw [h]
    simp
/-- laload, iload, i2l, lcmp, ifeq -/
theorem wp_lneq {a j : Nat} {i x y : Int32} {off : Int} {tgt : Nat} (hd : decode (mdC md) pc = .ok (.laload, 1)) (hd1 : decode (mdC md) (pc + 1) = .ok (.iload j, 2)) (hd2 : decode (mdC md) (pc + 3) = .ok (.i2l, 1)) (hd3 : decode (mdC md) (pc + 4) = .ok (.lcmp, 1)) (hd4 : decode (mdC md) (pc + 5) = .ok (.ifCond .eq off, 3)) (h : ldA M 3 a i = some x) (ht : ((pc + 5 : Nat) : Int) + off = (tgt : Int)) (hj : ls[j]? = some (some (.inl y)))
    (kt : x = y → Wp w md d tgt ls st M o M') (kf : ¬ x = y → Wp w md d (pc + 8) ls st M o M') : Wp w md d pc ls (.inl i :: .inr a :: st) M o M' :=
  ⟨if g : x = y then (kt g).1 else (kf g).1, fun hw p e s m args below meth c k0 z0 H locs la C h1 h2 hR hS hl hv => by
    obtain ⟨⟨g1, g2⟩, g0⟩ := if_some h
    obtain ⟨g3, -, g4⟩ := ce_arr hR g1
    rw [show elA w M a (32 + 3) (kd M a).2 = ((kd M a).2, .inr (.inl fun k => (M.1 a k).toInt64)) from rfl] at g4
    show W _ _ _ _ _ _ _ _ _ _ _ _ _ _ _ (F0 m pc la (.int i :: rv w (.inr a) :: st.map (rv w)))
    rw [rv_pos w g3]
    refine va_lald C.1.1 C.1.2.1 C.2.2.2.2.1 (va_P1 g4) 0 3 rfl (tysW_at w (by omega)) (inb_vp g2) hd ?_
    rw [g0]
    refine lv_iload C.1.1 C.1.2.1 hd1 (lvl_get hv hj) ?_
    refine lv_i2l C.1.1 C.1.2.1 hd2 rfl ?_
    refine W.lcmp C.1.1 C.1.2.1 hd3 ?_
    exact lv_if_eq C.1.1 C.1.2.1 hd4 ht (fun q => (kt (lcmp0.mp q)).2 hw p e s m args below meth c k0 z0 H locs la C h1 h2 hR hS hl hv) (fun q => (kf (fun g => q (lcmp0.mpr g))).2 hw p e s m args below meth c k0 z0 H locs la C h1 h2 hR hS hl hv)⟩
end Rules
