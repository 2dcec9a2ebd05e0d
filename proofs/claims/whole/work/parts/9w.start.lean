/-! ===== the law's walk out of what its function answers ===== -/
theorem room_le {s : State} {pl : Platform} {r r' : Room} (h : s.hasRoom pl r = true) (h1 : r'.frames ≤ r.frames) (h2 : r'.cells ≤ r.cells) (h3 : r'.slots ≤ r.slots) (h4 : r'.locals ≤ r.locals) : s.hasRoom pl r' = true := by
  unfold State.hasRoom at *
  simp only [Bool.and_eq_true, decide_eq_true_eq] at *
  obtain ⟨⟨⟨⟨a, b1, b2, b3, b4, b5⟩, c⟩, d⟩, e⟩ := h
  exact ⟨⟨⟨⟨by omega, by omega, by omega, by omega, by omega, b5⟩, by omega⟩, by omega⟩, e⟩
section
variable {p : Program} {l : Launch} {e : Env} {R R' : Room} {s : State} {m : MethodId} {args : Array Value} {below : List Frame} {meth : Method} {c : Code} {H : Heap} {locs : List Loc} {cells slots : Nat} {Q Q' : State → Prop}
theorem W_room {g : JFrame} (h1 : R'.frames ≤ R.frames) (h2 : R'.cells ≤ R.cells) (h3 : R'.slots ≤ R.slots) (h4 : R'.locals ≤ R.locals) (k : W p l e R' s m args below meth c H locs cells slots Q g) : W p l e R s m args below meth c H locs cells slots Q g :=
  fun T hT X => k T hT ⟨X.admits, X.cas, X.clock, X.frames, room_le X.room h1 h2 h3 h4, X.hears, X.method, X.code, X.here, X.tail, X.warmed, X.limits, X.bytes, X.same⟩
theorem W_imp {g : JFrame} (h : ∀ t, Q t → Q' t) (k : W p l e R s m args below meth c H locs cells slots Q g) : W p l e R s m args below meth c H locs cells slots Q' g := fun T hT X => by
  obtain ⟨t, a, b⟩ := k T hT X
  exact ⟨t, a, h t b⟩
/-- nothing old was written -/
theorem framed_new {o : Outcome} {t : State} {Lc : List Loc} {k n : Nat} (h : FrameEnd s o t Lc k n) (hf : ∀ q ∈ Lc, s.heap.size ≤ q.base) (hk : k ≤ 601024) (hn : n ≤ 7293034) : Framed s o t [] 601024 7293034 := by
  obtain ⟨a, b, c1, c2, c3, c4, c5, c6⟩ := h
  refine ⟨a, b, c1, c2, Nat.le_trans c3 (Nat.add_le_add_left hk _), c4, Nat.le_trans c5 hn, fun a' cl hc => ?_⟩
  obtain ⟨cl', d1, d2, d3, d4⟩ := c6 a' cl hc
  refine ⟨cl', d1, d2, d3, fun i _ => d4 i (fun hm => ?_)⟩
  have h1 := hf _ hm
  have h2 := (Array.getElem?_eq_some_iff.mp hc).1
  exact absurd h2 (Nat.not_lt.mpr h1)
end
theorem slK_kz : slK kz ≤ 500000 := by decide +kernel
theorem law_true (L : Nat) (xs : Nat → Int32) (hL : L ≤ 3072) : ∃ M', L_law_F L xs M00 = some (1, M') ∧ M'.2.2.length - 64 ≤ 601024 ∧ slK M'.2.2 ≤ 7293034 := by
  obtain ⟨q2, q5, M7, e1, e2, e3, e4, e5, h⟩ := start_ok
  obtain ⟨M', f1, f2⟩ := law_loop (xs := xs) h hL
  refine ⟨M', ?_, ?_⟩
  · unfold L_law_F
    rw [bs, show M00.2.2.length = 64 from rfl, e1, bs, bs, e2, e3, bs, e5, bs, e4, f1, bs]
    rfl
  · obtain ⟨-, -, h2, h3⟩ := f2
    have := slK_kz
    omega
theorem whole_start {p : Program} {e : Env} {s : State} {m : MethodId} {below : List Frame} {meth : Method} {c : Code} (l : Launch) (hflags : l.flags = flags0) {b L : Nat} {xs : Nat → Int32} (hL : L ≤ 3072) (C0 : lw_At p s m meth c b L xs) (hnm : meth.name = "law") (htb : c.exceptionTable.toList = []) : W p l e room_1 s m #[Value.ref b] below meth c s.heap [] 0 0 (lw_Z below #[Value.ref b] s) (entryFrame m ([Value.ref b] : List Value).toArray 7) := by
  obtain ⟨w, hw1, hw2, hw3, hwok⟩ := mkWorld l hflags C0
  obtain ⟨hx, hb, hr, hml, hown, hts, hX, hbl, hlocks, hgv⟩ := C0
  subst hw1 hw2
  obtain ⟨M', e1, e2, e3⟩ := law_true L xs hL
  have wp := L_law_F_ok (w := w) (d := 1) (by rw [hw3]; exact hX) e1
  have cx : CxOk w mdL_law p w.1 m #[Value.ref b] meth c 64 := ⟨⟨hx, hb, hml, hr, hlocks, hnm⟩, hown, fun t ht => hts t (List.mem_filter.mp ht).1, State.WarmedH.refl _, hwok.1, ⟨by rw [Nat.sub_self]; rfl, fun _ _ => rfl⟩, htb⟩
  have hr0 : HR w M00 w.1.heap := ⟨⟨Nat.le_refl _, fun a ha => by
    show (List.replicate 64 ((31, 0) : Nat × Nat))[a]? = _
    rw [List.getElem?_replicate, if_pos ha]⟩, rfl, fun _ _ => rfl, fun a h1 h2 => absurd h2 (by show ¬ a < 64; omega)⟩
  have ea : ([Value.ref b] : List Value) = ([Sum.inr 1] : List Gv).map (rv w) := by rw [List.map_cons, List.map_nil, rv_ref w (by decide), hw3]
  have hla := lv_entry (([Sum.inr 1] : List Gv).map (rv w)) (n := 7) (by rw [lg_len]; decide)
  rw [show entryFrame m ([Value.ref b] : List Value).toArray 7 = entryFrame m (([Sum.inr 1] : List Gv).map (rv w)).toArray 7 by rw [← ea], lg_entry_eq]
  generalize (lg_sl (([Sum.inr 1] : List Gv).map (rv w)) ++ List.replicate (7 - (lg_sl (([Sum.inr 1] : List Gv).map (rv w))).length) Slot.unset).toArray = la at hla ⊢
  have hv : lv_has la 7 (lvl w 0 [some (.inr 1), none, none, none, none, none, none]) := by
    refine ⟨hla.1, hla.2.1, fun q hq => ?_⟩
    obtain ⟨k, v, g1, rfl⟩ := lvl_of w _ 0 q hq
    have := lvargs_mem w [Sum.inr 1] 0 k v (ls_get (n := 6) g1)
    exact hla.2.2 _ this
  have k9 := wp.2 hwok p e w.1 m #[Value.ref b] below meth c 64 0 w.1.heap [] la cx (Nat.le_refl _) (Nat.zero_le _) hr0 va_S.rf rfl hv
  have z0 : slK M00.2.2 = 0 := by decide +kernel
  rw [z0] at k9
  have k10 : W p w.2.1 e room_1 w.1 m #[Value.ref b] below meth c w.1.heap [] 0 0 (TgW w (.inl (some (.inl 1))) M' below #[Value.ref b] w.1 (M'.2.2.length - 64) (slK M'.2.2 - 0)) (F0 m 0 la []) :=
    W_room (R := room_1) (R' := rmW 14 (M'.2.2.length - 64) (slK M'.2.2 - 0)) (Nat.le_refl _) e2 (by show slK M'.2.2 - 0 ≤ 7293034; omega) (show 448 ≤ 522 by decide) k9
  refine W_imp (fun t ht => ?_) k10
  obtain ⟨o, h1, h2, ⟨h3, -⟩, Lc, h4, h5⟩ := ht
  exact ⟨o, h1, h2, h3, framed_new h4 h5 e2 (by omega)⟩
