/-! ===== PURE 30: the trial; runs of minutes ===== -/
def FsK (M : Gm) : Prop := M.2.1 302 0 = 304 ∧ M.2.1 302 5 = 299 ∧ M.2.1 302 6 = 303
/-- the class's world by a plan -/
def Wd (M : Gm) (P : Nat) (T : Nat → Int32) : Prop := Ky M ∧ CkK M ∧ FsK M ∧ PlK M P ∧ POk P ∧ TOk T ∧ PlV M P T
/-- a State of it -/
def Sd (M : Gm) (S P : Nat) (N T : Nat → Int32) (k : Nat) : Prop := StK M S P ∧ SOk S ∧ StV M S N T ∧ NOk N T ∧ LgOk N k
/-- nothing but the trial and the clock's and the foresight's own rows has changed -/
def Ft (M M' : Gm) : Prop := M'.2.2 = M.2.2 ∧ (∀ a k, (a ≠ 304 ∨ k ≠ 0) → M'.2.1 a k = M.2.1 a k) ∧ ∀ b, (b < 300 ∨ 318 < b) → M'.1 b = M.1 b
theorem Ft.rfl' (M : Gm) : Ft M M := ⟨rfl, fun _ _ _ => rfl, fun _ _ => rfl⟩
theorem Ft.trans {M M' M2 : Gm} (h : Ft M M') (g : Ft M' M2) : Ft M M2 := ⟨g.1.trans h.1, fun a k e => (g.2.1 a k e).trans (h.2.1 a k e), fun b e => (g.2.2 b e).trans (h.2.2 b e)⟩
theorem Ft.of {L : List Nat} {M M' : Gm} (h : Fm L M M') (hL : ∀ a, a ∈ L → 300 ≤ a ∧ a ≤ 318) : Ft M M' :=
  ⟨by rw [h.1], fun a k _ => by rw [h.1], fun b hb => h.2 b (fun e => by have := hL b e; omega)⟩
theorem Ft.kdE {M M' : Gm} (h : Ft M M') (a : Nat) : kd M' a = kd M a := by unfold kd; rw [h.1]
theorem Ft.set {M M' : Gm} (h : Ft M M') {a : Nat} (ha : 300 ≤ a ∧ a ≤ 318) (k : Nat) (x : Int32) : Ft M (sI M' a k x) :=
  ⟨h.1, h.2.1, fun b hb => by rw [sI_ne _ _ _ (by omega)]; exact h.2.2 b hb⟩
theorem PlK.ext {M M' : Gm} {P : Nat} (h : PlK M P) (hk : ∀ a, P ≤ a → a < P + 95 → kd M' a = kd M a) (hr : ∀ a k, P ≤ a → a < P + 95 → M'.2.1 a k = M.2.1 a k) : PlK M' P := by
  obtain ⟨a, b, ⟨c1, c2, c3, c4, c5⟩, d, e, f, g, i, j⟩ := h
  refine ⟨by rw [hk _ (by omega) (by omega)]; exact a, fun i hi => by rw [hr _ _ (by omega) (by omega)]; exact b i hi, ⟨?_, ?_, ?_, ?_, ?_⟩, fun i hi => ?_, fun i hi => ?_, fun i hi => ?_, fun i hi => ?_, fun a h1 h2 => ?_, fun i hi => ?_⟩
  · rw [hk _ (by omega) (by omega)]; exact c1
  · rw [hk _ (by omega) (by omega)]; exact c2
  · rw [hk _ (by omega) (by omega)]; exact c3
  · rw [hk _ (by omega) (by omega)]; exact c4
  · rw [hk _ (by omega) (by omega)]; exact c5
  · rw [hk _ (by omega) (by omega), hr _ _ (by omega) (by omega)]; exact d i hi
  · rw [hk _ (by omega) (by omega), hr _ _ (by omega) (by omega)]; exact e i hi
  · rw [hk _ (by omega) (by omega), hr _ _ (by omega) (by omega)]; exact f i hi
  · rw [hr _ _ (by omega) (by omega)]; exact g i hi
  · rw [hk _ (by omega) (by omega)]; exact i a h1 h2
  · rw [hk _ (by omega) (by omega), hr _ _ (by omega) (by omega)]; exact j i hi
theorem StK.ext {M M' : Gm} {S P : Nat} (h : StK M S P) (hk : ∀ a, S ≤ a → a ≤ S + 14 → kd M' a = kd M a) (hr : ∀ k, M'.2.1 S k = M.2.1 S k) : StK M' S P := by
  obtain ⟨a, b, c⟩ := h
  exact ⟨by rw [hk _ (by omega) (by omega)]; exact a, by rw [hr]; exact b, fun i hi => ⟨by rw [hr]; exact (c i hi).1, by rw [hk _ (by omega) (by omega)]; exact (c i hi).2⟩⟩
theorem PlV.ext {M M' : Gm} {P : Nat} {T : Nat → Int32} (pv : PlV M P T) (hP : PlK M P) (hT : TOk T) (hr : ∀ k, M'.2.1 (P + 4) k = M.2.1 (P + 4) k) (hi : ∀ a, P ≤ a → a < P + 95 → M'.1 a = M.1 a) : PlV M' P T := by
  have h10 := hT.t.2
  have h5 := hT.z.2
  have h6 := hT.d.2
  have h8 := hT.w.2
  obtain ⟨a, b, c, d, e, f⟩ := pv
  refine ⟨by rw [hi P (by omega) (by omega)]; exact a, fun z hz => by rw [hi _ (by omega) (by omega)]; exact b z hz, fun t ht => by rw [hi _ (by omega) (by omega)]; exact c t ht, fun d' hd => by rw [hi _ (by omega) (by omega)]; exact d d' hd, fun t i ht hi' => ?_, fun k hk => by rw [hi _ (by omega) (by omega)]; exact f k hk⟩
  have q1 := fb_60 hT
  have q2 := fb_mono T (i := t + 1) (j := tt T) (by omega)
  have q3 : fb T (t + 1) = fb T t + (dl T t).length := rfl
  have q4 := hP.2.2.2.2.2.2.1 (fb T t + i) (by omega)
  rw [hr, hi _ (by omega) (by omega)]
  exact e t i ht hi'
theorem StV.ext {M M' : Gm} {S : Nat} {N T : Nat → Int32} (sv : StV M S N T) (h : ∀ a, S ≤ a → a ≤ S + 14 → M'.1 a = M.1 a) : StV M' S N T := by
  unfold StV at *
  rw [h S (by omega) (by omega), h (S + 1) (by omega) (by omega), h (S + 2) (by omega) (by omega), h (S + 3) (by omega) (by omega), h (S + 4) (by omega) (by omega), h (S + 5) (by omega) (by omega), h (S + 6) (by omega) (by omega), h (S + 7) (by omega) (by omega), h (S + 8) (by omega) (by omega), h (S + 9) (by omega) (by omega), h (S + 10) (by omega) (by omega), h (S + 11) (by omega) (by omega), h (S + 12) (by omega) (by omega), h (S + 13) (by omega) (by omega), h (S + 14) (by omega) (by omega)]
  exact sv
theorem Ky.ext {M M' : Gm} (h : Ky M) (hk : ∀ a, a < 346 → kd M' a = kd M a) (hr : ∀ k, M'.2.1 319 k = M.2.1 319 k) : Ky M' := ⟨fun a ha => (hk a ha).trans (h.1 a ha), fun k h' => (hr k).trans (h.2 k h')⟩
theorem Wd.ft {M M' : Gm} {P : Nat} {T : Nat → Int32} (w : Wd M P T) (f : Ft M M') : Wd M' P T := by
  obtain ⟨a, b, c, d, e, g, i⟩ := w
  have e' := e
  unfold POk at e'
  refine ⟨a.ext (fun _ _ => f.kdE _) (fun k => f.2.1 _ _ (by omega)), ?_, ?_, d.ext (fun _ _ _ => f.kdE _) (fun a k _ _ => f.2.1 _ _ (by omega)), e, g, i.ext d g (fun k => f.2.1 _ _ (by omega)) (fun a _ _ => f.2.2 a (by omega))⟩
  · unfold CkK at *; rw [f.2.1 _ _ (by omega), f.2.1 _ _ (by omega)]; exact b
  · unfold FsK at *; rw [f.2.1 _ _ (by omega), f.2.1 _ _ (by omega), f.2.1 _ _ (by omega)]; exact c
theorem Sd.ft {M M' : Gm} {S P k : Nat} {N T : Nat → Int32} (s : Sd M S P N T k) (f : Ft M M') (h : S ≠ 304) : Sd M' S P N T k := by
  obtain ⟨a, b, c, d⟩ := s
  have b' := b
  unfold SOk at b'
  exact ⟨a.ext (fun _ _ _ => f.kdE _) (fun k => f.2.1 _ _ (by omega)), b, c.ext (fun a _ _ => f.2.2 a (by omega)), d⟩
noncomputable def mRun (T N : Nat → Int32) : Nat → Nat → Int32
  | 0 => N
  | n + 1 => mMinute T (mRun T N n)
theorem NOk.run {N T : Nat → Int32} (hT : TOk T) (h : NOk N T) : ∀ n, NOk (mRun T N n) T
  | 0 => h
  | n + 1 => (NOk.run hT h n).minute hT
theorem Lg_run {N T : Nat → Int32} {k : Nat} (hT : TOk T) (h : LgOk N k) : ∀ n, k + 20 * n + 20 < 2147483647 → LgOk (mRun T N n) (k + 20 * n)
  | 0, _ => h
  | n + 1, hk => by
    have := Lg_minute hT (Lg_run hT h n (by omega)) (by omega)
    exact this.w (by omega)
theorem Sd.sd {M : Gm} {S P k k' : Nat} {N T : Nat → Int32} (s : Sd M S P N T k) (h : k ≤ k') : Sd M S P N T k' := ⟨s.1, s.2.1, s.2.2.1, s.2.2.2.1, s.2.2.2.2.w h⟩
/-- a minute of a State -/
theorem c_pass {M : Gm} {S P k : Nat} {N T : Nat → Int32} (w : Wd M P T) (s : Sd M S P N T k) (hk : k < 2147483400) : ∃ M', sh_X1_passMinute 299 S M = some M' ∧ Fm (cl S) M M' ∧ Sd M' S P (mMinute T N) T (k + 20) := by
  obtain ⟨a, b, c, d, e, g, i⟩ := w
  obtain ⟨s1, s2, s3, s4, s5⟩ := s
  obtain ⟨M', h1, h2, h3⟩ := c_passMinute a b s1 d g i s3 s4 s2 e s5 hk
  exact ⟨M', h1, h2, s1.fm h2, s2, h3, s4.minute g, Lg_minute g s5 (by omega)⟩
theorem cl304 {a : Nat} (h : a ∈ cl 304) : 300 ≤ a ∧ a ≤ 318 := by have := cl_mem h; omega
/-- the trial begins -/
theorem c_try {M : Gm} {S P P' k : Nat} {N T : Nat → Int32} (w : Wd M P T) (s : Sd M S P N T k) (hS : S + 14 < 304 ∨ 318 < S) (t : StK M 304 P') : ∃ M', sh_X7_copyFrom 304 S M = some M' ∧ Ft M M' ∧ Sd M' 304 P N T k := by
  obtain ⟨s1, s2, s3, s4, s5⟩ := s
  obtain ⟨M', h1, h2, h3, h4, h5⟩ := c_copyFrom s1 t (by omega)
  have hk : M'.2.2 = M.2.2 := by rw [h2]; rfl
  have hr : ∀ a k, M'.2.1 a k = up2 M.2.1 304 0 P a k := fun a k => by rw [h2]; rfl
  refine ⟨M', h1, ⟨hk, fun a k hak => (hr a k).trans (upN _ hak), fun b hb => h3 b (by omega)⟩, ⟨?_, (hr _ _).trans (upA _ _ _ _), fun i hi => ⟨(hr _ _).trans ((upN _ (by omega)).trans (t.2.2 i hi).1), ?_⟩⟩, Or.inr (Or.inr (Or.inl rfl)), s3.cp w.2.2.2.2.2.1 h4 h5, s4, s5⟩
  · unfold kd; rw [hk]; exact t.1
  · unfold kd; rw [hk]; exact (t.2.2 i hi).2
theorem f_O {M : Gm} (h : Ky M) : isO M 302 3 = some () := i_O ((h.1 302 (by decide)).trans rfl)
theorem f_trial {M : Gm} (h : Ky M) (c : FsK M) : gfR M 302 3 0 = some 304 := (g_R 0 ((h.1 302 (by decide)).trans rfl)).trans (congrArg some c.1)
theorem f_clock {M : Gm} (h : Ky M) (c : FsK M) : gfR M 302 3 5 = some 299 := (g_R 5 ((h.1 302 (by decide)).trans rfl)).trans (congrArg some c.2.1)
theorem f_heats {M : Gm} (h : Ky M) (c : FsK M) : gfR M 302 3 6 = some 303 := (g_R 6 ((h.1 302 (by decide)).trans rfl)).trans (congrArg some c.2.2)
theorem f_I {M : Gm} (h : Ky M) (k : Nat) : gfI M 302 3 k = some (M.1 302 k) := g_I k ((h.1 302 (by decide)).trans rfl)
theorem f_P {M : Gm} (h : Ky M) (k : Nat) (x : Int32) : pfI M 302 3 k x = some (sI M 302 k x) := p_I k x ((h.1 302 (by decide)).trans rfl)
/-- a minute of the trial -/
theorem c_passT {M : Gm} {P k : Nat} {N T : Nat → Int32} (w : Wd M P T) (s : Sd M 304 P N T k) (hk : k < 2147483400) : ∃ M', sh_X1_passMinute 299 304 M = some M' ∧ Ft M M' ∧ Sd M' 304 P (mMinute T N) T (k + 20) := by
  obtain ⟨M', h1, h2, h3⟩ := c_pass w s hk
  exact ⟨M', h1, Ft.of h2 (fun a => cl304), h3⟩
theorem c_stateAhead {M : Gm} {P P' k n : Nat} {N T : Nat → Int32} (w : Wd M P T) (s : Sd M 263 P N T k) (t : StK M 304 P') (hn : n ≤ 200) (hk : k < 2147470000) : ∃ M', sh_X3_stateAhead 302 263 (Int32.ofNat n) M = some (304, M') ∧ Ft M M' ∧ Sd M' 304 P (mRun T N n) T (k + 20 * n) := by
  obtain ⟨M0, a1, a2, a3⟩ := c_try w s (by decide) t
  have key : ∃ M', lp (X3_stateAhead_B10 302 (Int32.ofNat n)) FU (0, M0) = some M' ∧ (Ft M M' ∧ Sd M' 304 P (mRun T N n) T (k + 20 * n)) := by
    refine lp_inv (fun j q => q.1 = Int32.ofNat j ∧ Ft M q.2 ∧ Sd q.2 304 P (mRun T N j) T (k + 20 * j)) _ n ?_ ?_ ⟨rfl, a2, a3⟩ (by omega)
    · rintro j ⟨i, M1⟩ hj ⟨h1, h2, h3⟩
      replace h1 : i = Int32.ofNat j := h1
      subst h1
      have w1 := w.ft h2
      obtain ⟨M2, b1, b2, b3⟩ := c_passT w1 h3 (by omega)
      refine Or.inl ⟨(Int32.ofNat (j + 1), M2), ?_, rfl, h2.trans b2, b3⟩
      unfold X3_stateAhead_B10
      simp (disch := omega) only [f_clock w1.1 w1.2.2.1, f_trial w1.1 w1.2.2.1, Option.bind_some, le_n, b1, suc_n]
      rw [if_neg (by omega)]
    · rintro ⟨i, M1⟩ ⟨h1, h2, h3⟩
      replace h1 : i = Int32.ofNat n := h1
      subst h1
      refine ⟨M1, ?_, h2, h3⟩
      unfold X3_stateAhead_B10
      simp (disch := omega) only [le_n]
      rw [if_pos (Nat.le_refl _)]
  obtain ⟨M', k1, k2, k3⟩ := key
  have w' := w.ft k2
  refine ⟨M', ?_, k2, k3⟩
  unfold sh_X3_stateAhead X3_stateAhead_F
  simp only [f_O w.1, f_trial w.1 w.2.2.1, Option.bind_some, a1, k1, f_trial w'.1 w'.2.2.1]
