/-! ===== BASE 1: an abstract memory, and how the machine's heap holds it ===== -/
/-- ints by (address, place), references by (address, place) (0: null), kinds by address: (class, 0), or (32 + array type, length) -/
abbrev Gm : Type := (Nat → Nat → Int32) × (Nat → Nat → Nat) × List (Nat × Nat)
/-- a value: an int, or a reference (0: null) -/
abbrev Gv : Type := Int32 ⊕ Nat
/-- how a method ends: it returns, or throws an object of a class -/
abbrev Go : Type := Option Gv ⊕ String
/-- a method: its name, code, number of locals, type, the class of its object, its handlers -/
abbrev Gd : Type := MethodName × ByteArray × Nat × Option FieldType × Option Nat × List (Nat × Nat × Nat × Nat)
/-- a world: the law's first state, the launch, the addresses of old cells, class numbers and slots, array classes -/
abbrev Gw : Type := State × Launch × (Nat → Nat) × va_G × (Nat → ClassId)
def up2 {α : Type} (f : Nat → Nat → α) (a k : Nat) (x : α) : Nat → Nat → α := fun b j => if b = a ∧ j = k then x else f b j
theorem up2_row {α : Type} (f : Nat → Nat → α) (a k : Nat) (x : α) {b : Nat} (h : b ≠ a) : up2 f a k x b = f b := by
  funext j; simp [up2, h]
theorem up2_own {α : Type} (f : Nat → Nat → α) (a k : Nat) (x : α) : up2 f a k x a = fun j => if j = k then x else f a j := by
  funext j; simp [up2]
def sI (M : Gm) (a k : Nat) (x : Int32) : Gm := (up2 M.1 a k x, M.2.1, M.2.2)
def sR (M : Gm) (a k : Nat) (x : Nat) : Gm := (M.1, up2 M.2.1 a k x, M.2.2)
/-- a new cell, all 0 and null, behind the others -/
def nwM (M : Gm) (q : Nat × Nat) : Gm := (fun b j => if b = M.2.2.length then 0 else M.1 b j, fun b j => if b = M.2.2.length then 0 else M.2.1 b j, M.2.2 ++ [q])
/-- a row of ints copied over another -/
def cpM (M : Gm) (a b sp dp n : Nat) : Gm := (fun c j => if c = b then va_cpy (M.1 a) (M.1 b) sp dp n j else M.1 c j, M.2.1, M.2.2)
def TXE : u_T := fun _ => ("", "", "", false)
abbrev eNSE : String := "java/util/NoSuchElementException"
abbrev eIAE : String := "java/lang/IllegalArgumentException"
abbrev clW : List vw_C := [(RX0, TX0, 3), (RX1, TX1, 2), (RX2, TX2, 4), (RX3, TX3, 8), (RX4, TX4, 9), (RX5, TX5, 12), (RX6, TX6, 6), (RX7, TX7, 20), (RX8, TX8, 6), (RX9, TX9, 3), (RX10, TX10, 4), (RX11, TX11, 11), (RX12, TX12, 44), (eNSE, TXE, 0), (eIAE, TXE, 0)]
def nfW : Nat → Nat
  | 0 => 3 | 1 => 2 | 2 => 4 | 3 => 8 | 4 => 9 | 5 => 12 | 6 => 6 | 7 => 20 | 8 => 6 | 9 => 3 | 10 => 4 | 11 => 11 | 12 => 44 | _ => 0
def tyW : Nat → Nat → FieldType
  | 0 => tyX0 | 1 => tyX1 | 2 => tyX2 | 3 => tyX3 | 4 => tyX4 | 5 => tyX5 | 6 => tyX6 | 7 => tyX7 | 8 => tyX8 | 9 => tyX9 | 10 => tyX10 | 11 => tyX11 | 12 => tyX12 | _ => fun _ => .int
def tyA : Nat → FieldType
  | 0 => .int | 1 => .byte | 2 => .boolean | 3 => .long | 4 => .object RX10 | 5 => .object RX8 | 6 => .object RX2 | 7 => .object RX0 | 8 => .object RX9 | 9 => .object RX7 | _ => .object "java/lang/String"
def isRf : FieldType → Bool
  | .object _ => true | .array _ => true | _ => false
def slE (q : Nat × Nat) : Nat := if q.1 < 13 then nfW q.1 else if q.1 < 31 then 6 else if q.1 = 31 then 0 else q.2
def slK (K : List (Nat × Nat)) : Nat := (K.map slE).sum
def rho (w : Gw) (a : Nat) : Nat := if a < 64 then w.2.2.1 a else w.1.heap.size + (a - 64)
def ro (w : Gw) : Nat → Option Nat
  | 0 => none | a + 1 => some (rho w (a + 1))
def rv (w : Gw) : Gv → Value
  | .inl x => .int x
  | .inr a => va_rf (ro w a)
theorem rv_ref (w : Gw) {a : Nat} (h : 0 < a) : rv w (.inr a) = .ref (rho w a) := by
  cases a with
  | zero => omega
  | succ a => rfl
theorem rv_cat (w : Gw) (v : Gv) : (rv w v).category = 1 := by
  cases v with
  | inl x => rfl
  | inr a => cases a <;> rfl
def flF (w : Gw) (M : Gm) (a c k : Nat) : Value := if isRf (tyW c k) = true then rv w (.inr (M.2.1 a k)) else .int (M.1 a k)
def fl (w : Gw) (M : Gm) (a c : Nat) : List Value := (List.range (nfW c)).map (flF w M a c)
theorem fl_at (w : Gw) (M : Gm) (a c k : Nat) (h : k < nfW c) : vp_V (fl w M a c) k = flF w M a c k := by
  simp [vp_V, fl, h]
def elA (w : Gw) (M : Gm) (a t n : Nat) : vp_A := (n, if t < 35 then .inl (M.1 a) else if t = 35 then .inr (.inl fun k => (M.1 a k).toInt64) else .inr (.inr (.inr (.inr fun k => ro w (M.2.1 a k)))))
def el (w : Gw) (M : Gm) (a : Nat) : va_E := match M.2.2[a]? with
  | none => .inr (99, [])
  | some q => if q.1 < 32 then .inr (q.1, fl w M a q.1) else .inl (w.2.2.2.2 (q.1 - 32), elA w M a q.1 q.2)
def ceW (w : Gw) (M : Gm) (a : Nat) (H : Heap) : Prop := va_at w.2.2.2.1 clW (rho w a, el w M a) H
/-- the heap H holds the memory M -/
def HR (w : Gw) (M : Gm) (H : Heap) : Prop :=
  (64 ≤ M.2.2.length ∧ ∀ a, a < 64 → M.2.2[a]? = some (31, 0)) ∧ H.size = w.1.heap.size + (M.2.2.length - 64) ∧ (∀ q, q < w.1.heap.size → H[q]? = w.1.heap[q]?) ∧ ∀ a, 64 ≤ a → a < M.2.2.length → ceW w M a H
theorem el_congr {w : Gw} {M M1 : Gm} {b : Nat} (hk : M1.2.2[b]? = M.2.2[b]?) (h1 : M1.1 b = M.1 b) (h2 : M1.2.1 b = M.2.1 b) : el w M1 b = el w M b := by
  have e1 : ∀ c, fl w M1 b c = fl w M b c := fun c => by
    unfold fl flF
    rw [h1, h2]
  have e2 : ∀ t n, elA w M1 b t n = elA w M b t n := fun t n => by
    unfold elA
    rw [h1, h2]
  unfold el
  rw [hk]
  cases M.2.2[b]? with
  | none => rfl
  | some q => simp only [e1, e2]
/-- one cell is written -/
theorem HR.set {w : Gw} {M M1 : Gm} {H H1 : Heap} (h : HR w M H) {a : Nat} (ha : 64 ≤ a) (hk : M1.2.2 = M.2.2) (h1 : ∀ b, b ≠ a → M1.1 b = M.1 b) (h2 : ∀ b, b ≠ a → M1.2.1 b = M.2.1 b)
    (hc : ceW w M1 a H1) (hz : H1.size = H.size) (ho : ∀ q, q ≠ rho w a → H1[q]? = H[q]?) : HR w M1 H1 := by
  obtain ⟨⟨g1, g0⟩, g2, g3, g4⟩ := h
  have hra : rho w a = w.1.heap.size + (a - 64) := by unfold rho; rw [if_neg (by omega)]
  refine ⟨⟨by rw [hk]; exact g1, by rw [hk]; exact g0⟩, by rw [hz, hk]; exact g2, fun q hq => ?_, fun b hb hb2 => ?_⟩
  · rw [ho q (by omega)]; exact g3 q hq
  · by_cases e : b = a
    · subst e; exact hc
    · have hrb : rho w b = w.1.heap.size + (b - 64) := by unfold rho; rw [if_neg (by omega)]
      unfold ceW
      rw [el_congr (by rw [hk]) (h1 b e) (h2 b e)]
      exact (g4 b hb (by rw [← hk]; exact hb2)).kept (ho _ (by rw [hra, hrb]; omega))
/-- a cell is made -/
theorem HR.push {w : Gw} {M : Gm} {H H1 : Heap} (h : HR w M H) {q : Nat × Nat} (hc : ceW w (nwM M q) M.2.2.length H1) (hz : H1.size = H.size + 1) (ho : ∀ q, q < H.size → H1[q]? = H[q]?) : HR w (nwM M q) H1 := by
  obtain ⟨⟨g1, g0⟩, g2, g3, g4⟩ := h
  have hl : (nwM M q).2.2.length = M.2.2.length + 1 := by simp [nwM]
  refine ⟨⟨by omega, fun b hb => by rw [show (nwM M q).2.2 = M.2.2 ++ [q] from rfl, List.getElem?_append_left (by omega)]; exact g0 b hb⟩, by omega, fun z hzz => ?_, fun b hb hb2 => ?_⟩
  · rw [ho z (by omega)]; exact g3 z hzz
  · by_cases e : b = M.2.2.length
    · subst e; exact hc
    · have hrb : rho w b = w.1.heap.size + (b - 64) := by unfold rho; rw [if_neg (by omega)]
      unfold ceW
      rw [el_congr (M := M) (by simp [nwM]; rw [List.getElem?_append_left (by omega)]) (by funext j; simp [nwM, e]) (by funext j; simp [nwM, e])]
      exact (g4 b hb (by omega)).kept (ho _ (by rw [hrb]; omega))
theorem HR.rho_len {w : Gw} {M : Gm} {H : Heap} (h : HR w M H) : rho w M.2.2.length = H.size := by
  obtain ⟨⟨g1, -⟩, g2, -, -⟩ := h
  unfold rho; rw [if_neg (by omega), g2]
/-- the class tables as the rules use them -/
def clOk (c : Nat) : Prop := ∃ (C : String) (T : u_T), clW[c]? = some (C, T, nfW c) ∧ (∀ k, k < nfW c → parseFieldDescriptor (T k).2.2.1 = some (tyW c k)) ∧ (∀ a, a < nfW c → ∀ b, b < nfW c → a ≠ b → (T a).2.1 ≠ (T b).2.1)
theorem clOk_all : ∀ c, c < 13 → clOk c := by
  intro c hc
  match c, hc with
  | 0, _ => exact ⟨_, _, rfl, tyX0_ok, nmX0⟩
  | 1, _ => exact ⟨_, _, rfl, tyX1_ok, nmX1⟩
  | 2, _ => exact ⟨_, _, rfl, tyX2_ok, nmX2⟩
  | 3, _ => exact ⟨_, _, rfl, tyX3_ok, nmX3⟩
  | 4, _ => exact ⟨_, _, rfl, tyX4_ok, nmX4⟩
  | 5, _ => exact ⟨_, _, rfl, tyX5_ok, nmX5⟩
  | 6, _ => exact ⟨_, _, rfl, tyX6_ok, nmX6⟩
  | 7, _ => exact ⟨_, _, rfl, tyX7_ok, nmX7⟩
  | 8, _ => exact ⟨_, _, rfl, tyX8_ok, nmX8⟩
  | 9, _ => exact ⟨_, _, rfl, tyX9_ok, nmX9⟩
  | 10, _ => exact ⟨_, _, rfl, tyX10_ok, nmX10⟩
  | 11, _ => exact ⟨_, _, rfl, tyX11_ok, nmX11⟩
  | 12, _ => exact ⟨_, _, rfl, tyX12_ok, nmX12⟩
def Fr (w : Gw) : Nat → Prop := fun q => w.1.heap.size ≤ q
/-! ===== String constants: entry by entry the text, and the number of its object (2 + its number among the texts) ===== -/
def strT : List (String × Nat × String × Nat) := [("HeatGovernor", 77, "the tape has not so many bytes", 2), ("HeatGovernor$Reader", 50, "zone", 3), ("HeatGovernor$Reader", 123, "mean", 4), ("HeatGovernor$Reader", 125, "median", 5), ("HeatGovernor$Reader", 127, "slow", 6), ("HeatGovernor$Reader", 59, "trip", 7), ("HeatGovernor$Reader", 165, "step", 8), ("HeatGovernor$Reader", 167, "share", 9), ("HeatGovernor$Reader", 169, "hot", 10), ("HeatGovernor$Reader", 171, "critical", 11), ("HeatGovernor$Reader", 64, "device", 12), ("HeatGovernor$Reader", 195, "fan", 13), ("HeatGovernor$Reader", 197, "valve", 14), ("HeatGovernor$Reader", 199, "pump", 15), ("HeatGovernor$Reader", 69, "bind", 16), ("HeatGovernor$Reader", 74, "wall", 17), ("HeatGovernor$Reader", 79, "foreseen", 18), ("HeatGovernor", 153, "no such what", 19), ("HeatGovernor", 369, "no such zone", 20), ("HeatGovernor", 374, "no such trip", 21), ("HeatGovernor", 376, "no such device", 22), ("HeatGovernor", 284, "no such row", 23), ("HeatGovernor", 378, "not so many minutes", 24), ("HeatGovernorModel", 9, "zone", 3), ("HeatGovernorModel", 11, "trip", 7), ("HeatGovernorModel", 13, "device", 12), ("HeatGovernorModel", 15, "bind", 16), ("HeatGovernorModel", 17, "wall", 17), ("HeatGovernorModel", 19, "foreseen", 18), ("HeatGovernorModel", 27, "raw", 25), ("HeatGovernorModel", 29, "mean", 4), ("HeatGovernorModel", 31, "median", 5), ("HeatGovernorModel", 33, "slow", 6), ("HeatGovernorModel", 38, "step", 8), ("HeatGovernorModel", 40, "share", 9), ("HeatGovernorModel", 42, "hot", 10), ("HeatGovernorModel", 44, "critical", 11), ("HeatGovernorModel", 49, "fan", 13), ("HeatGovernorModel", 51, "valve", 14), ("HeatGovernorModel", 53, "pump", 15)]
def strLen : List Nat := [30, 4, 4, 6, 4, 4, 4, 5, 3, 8, 6, 3, 5, 4, 4, 4, 8, 12, 12, 12, 14, 11, 19, 3]
def strByt : List (List Int32) := [[116, 104, 101, 32, 116, 97, 112, 101, 32, 104, 97, 115, 32, 110, 111, 116, 32, 115, 111, 32, 109, 97, 110, 121, 32, 98, 121, 116, 101, 115], [122, 111, 110, 101], [109, 101, 97, 110], [109, 101, 100, 105, 97, 110], [115, 108, 111, 119], [116, 114, 105, 112], [115, 116, 101, 112], [115, 104, 97, 114, 101], [104, 111, 116], [99, 114, 105, 116, 105, 99, 97, 108], [100, 101, 118, 105, 99, 101], [102, 97, 110], [118, 97, 108, 118, 101], [112, 117, 109, 112], [98, 105, 110, 100], [119, 97, 108, 108], [102, 111, 114, 101, 115, 101, 101, 110], [110, 111, 32, 115, 117, 99, 104, 32, 119, 104, 97, 116], [110, 111, 32, 115, 117, 99, 104, 32, 122, 111, 110, 101], [110, 111, 32, 115, 117, 99, 104, 32, 116, 114, 105, 112], [110, 111, 32, 115, 117, 99, 104, 32, 100, 101, 118, 105, 99, 101], [110, 111, 32, 115, 117, 99, 104, 32, 114, 111, 119], [110, 111, 116, 32, 115, 111, 32, 109, 97, 110, 121, 32, 109, 105, 110, 117, 116, 101, 115], [114, 97, 119]]
/-- what is given of String constants -/
def WokS (w : Gw) : Prop := (∀ q ∈ strT, vk_R q.1 q.2.1 q.2.2.1 (rho w q.2.2.2) w.1) ∧ (∀ i : Nat, i < 24 → va_O "java/lang/String" (w.2.2.1 (2 + i)) (Fr w) w.1 w.1.heap ∧ va_OF "java/lang/String" "coder" "B" (.int 0) (w.2.2.1 (2 + i)) (Fr w) w.1 w.1.heap ∧ va_OF "java/lang/String" "value" "[B" (.ref (w.2.2.1 (26 + i))) (w.2.2.1 (2 + i)) (Fr w) w.1 w.1.heap ∧ va_T .byte (w.2.2.1 (26 + i)) (strLen.getD i 0) (fun j => .int ((strByt.getD i []).getD j 0)) (Fr w) w.1 w.1.heap) ∧
  va_Z "java/lang/String" "COMPACT_STRINGS" "Z" (.int 1) (Fr w) w.1 w.1.heap ∧ (Cond.not (.castable eIAE eNSE)).before #[Value.ref (rho w 1)] w.1 = true ∧ ∃ f : Nat, (f = 0 ∨ f = 50) ∧ va_Z "jdk/internal/util/Preconditions" "SIOOBE_FORMATTER" "Ljava/util/function/BiFunction;" (rv w (.inr f)) (Fr w) w.1 w.1.heap
/-! ===== what an instruction does with the memory: none where the machine would throw ===== -/
def dvI (x y : Int32) : Option Int32 := if y = 0 then none else some (x / y)
def rmI (x y : Int32) : Option Int32 := if y = 0 then none else some (x - x / y * y)
def ushI (x y : Int32) : Int32 := (x.toUInt32 >>> (y.toUInt32 &&& Int32.toUInt32 31)).toInt32
theorem dvI_of {x y z : Int32} (h : dvI x y = some z) : ¬ y = 0 ∧ x / y = z := by
  unfold dvI at h
  split at h
  · cases h
  · exact ⟨by assumption, Option.some.inj h⟩
theorem rmI_of {x y z : Int32} (h : rmI x y = some z) : ¬ y = 0 ∧ x - x / y * y = z := by
  unfold rmI at h
  split at h
  · cases h
  · exact ⟨by assumption, Option.some.inj h⟩
/-- the kind of a cell -/
def kd (M : Gm) (a : Nat) : Nat × Nat := M.2.2.getD a (31, 0)
theorem kd_in {w : Gw} {M : Gm} {H : Heap} (h : HR w M H) {a : Nat} (hk : (kd M a).1 ≠ 31) : 64 ≤ a ∧ a < M.2.2.length ∧ M.2.2[a]? = some (kd M a) := by
  have hl : a < M.2.2.length := by
    rcases Nat.lt_or_ge a M.2.2.length with q | q
    · exact q
    · exact absurd (by unfold kd; rw [List.getD_eq_getElem?_getD, List.getElem?_eq_none q]; rfl) hk
  have he : M.2.2[a]? = some (kd M a) := by
    unfold kd
    rw [List.getD_eq_getElem?_getD, List.getElem?_eq_getElem hl]; rfl
  refine ⟨?_, hl, he⟩
  rcases Nat.lt_or_ge a 64 with q | q
  · have := h.1.2 a q
    rw [he] at this
    exact absurd (by rw [Option.some.inj this]) hk
  · exact q
abbrev inb (i : Int32) (n : Nat) : Prop := ¬ i < 0 ∧ i.toNatClampNeg < n
def gfI (M : Gm) (a c k : Nat) : Option Int32 := if kd M a = (c, 0) then some (M.1 a k) else none
def gfR (M : Gm) (a c k : Nat) : Option Nat := if kd M a = (c, 0) then some (M.2.1 a k) else none
def pfI (M : Gm) (a c k : Nat) (x : Int32) : Option Gm := if kd M a = (c, 0) then some (sI M a k x) else none
def pfZ (M : Gm) (a c k : Nat) (x : Int32) : Option Gm := if kd M a = (c, 0) ∧ (x = 0 ∨ x = 1) then some (sI M a k x) else none
def pfR (M : Gm) (a c k : Nat) (r : Nat) : Option Gm := if kd M a = (c, 0) then some (sR M a k r) else none
/-- an array's place is read: of the type t -/
def ldA (M : Gm) (t a : Nat) (i : Int32) : Option Int32 := if (kd M a).1 = 32 + t ∧ inb i (kd M a).2 then some (M.1 a i.toNatClampNeg) else none
def ldR (M : Gm) (t a : Nat) (i : Int32) : Option Nat := if (kd M a).1 = 32 + t ∧ inb i (kd M a).2 then some (M.2.1 a i.toNatClampNeg) else none
def stA (M : Gm) (t a : Nat) (i x : Int32) : Option Gm := if (kd M a).1 = 32 + t ∧ inb i (kd M a).2 then some (sI M a i.toNatClampNeg x) else none
def stR (M : Gm) (t c a : Nat) (i : Int32) (r : Nat) : Option Gm := if (kd M a).1 = 32 + t ∧ inb i (kd M a).2 ∧ kd M r = (c, 0) then some (sR M a i.toNatClampNeg r) else none
/-- a String constant is put into an array of Strings -/
def stS (M : Gm) (a : Nat) (i : Int32) (r : Nat) : Option Gm := if (kd M a).1 = 42 ∧ inb i (kd M a).2 ∧ 2 ≤ r ∧ r < 26 then some (sR M a i.toNatClampNeg r) else none
def alen (M : Gm) (a : Nat) : Option Int32 := if 32 ≤ (kd M a).1 ∧ (kd M a).1 < 43 then some (Int32.ofNat (kd M a).2) else none
def mkA (M : Gm) (t : Nat) (n : Int32) : Option Gm := if ¬ n < 0 ∧ n.toNatClampNeg ≤ 60000000 then some (nwM M (32 + t, n.toNatClampNeg)) else none
def cpI (M : Gm) (a : Nat) (sp : Int32) (b : Nat) (dp n : Int32) : Option Gm := if ((kd M a).1 = 32 ∧ (kd M b).1 = 32) ∧ (¬ sp < 0 ∧ ¬ dp < 0 ∧ ¬ n < 0) ∧ sp.toNatClampNeg + n.toNatClampNeg ≤ (kd M a).2 ∧ dp.toNatClampNeg + n.toNatClampNeg ≤ (kd M b).2 then some (cpM M a b sp.toNatClampNeg dp.toNatClampNeg n.toNatClampNeg) else none
/-- the object a is of the class c -/
def isO (M : Gm) (a c : Nat) : Option Unit := if kd M a = (c, 0) then some () else none
theorem if_some {α : Type} {c : Prop} [Decidable c] {x y : α} (h : (if c then some x else none) = some y) : c ∧ x = y := by
  split at h
  · exact ⟨by assumption, Option.some.inj h⟩
  · cases h
