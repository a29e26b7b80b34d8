/-! DISTANCES -/
def rB (Kd : Int → Int) (s : Int) : Nat → Int → Prop
  | 0, c => c = s ∧ ¬ Kd s = 2
  | n + 1, c => ∃ p way : Int, (0 ≤ way ∧ way ≤ 3) ∧ rB Kd s n p ∧ zNx Kd p way = c ∧ 0 ≤ c
def zDi (Kd : Int → Int) (s : Int) (f : Int → Int) : Prop := ∀ c : Int, 0 ≤ c → c < 36 → (f c = -4 ∨ (0 ≤ f c ∧ f c < 1000000)) ∧ (0 ≤ f c → rB Kd s (f c).toNat c) ∧ ∀ n : Nat, rB Kd s n c → 0 ≤ f c ∧ f c ≤ n
theorem zDi_u {Kd : Int → Int} {s : Int} {f g : Int → Int} (hf : zDi Kd s f) (hg : zDi Kd s g) {c : Int} (h0 : 0 ≤ c) (h1 : c < 36) : f c = g c := by
  obtain ⟨f1, f2, f3⟩ := hf c h0 h1
  obtain ⟨g1, g2, g3⟩ := hg c h0 h1
  by_cases a : 0 ≤ f c
  · have b := g3 _ (f2 a)
    have d := f3 _ (g2 b.1)
    omega
  · by_cases b : 0 ≤ g c
    · have d := f3 _ (g2 b)
      omega
    · omega
noncomputable def dS (Kd : Int → Int) (s : Int) : Int → Int := Classical.epsilon (fun f => zDi Kd s f)
theorem dS_is {Kd : Int → Int} {s : Int} {f : Int → Int} (hf : zDi Kd s f) : zDi Kd s (dS Kd s) := Classical.epsilon_spec (p := fun f => zDi Kd s f) ⟨f, hf⟩
theorem dS_eq {Kd : Int → Int} {s : Int} {f : Int → Int} (hf : zDi Kd s f) {c : Int} (h0 : 0 ≤ c) (h1 : c < 36) : f c = dS Kd s c := zDi_u hf (dS_is hf) h0 h1
theorem rB_in {Kd : Int → Int} {s : Int} (hs : 0 ≤ s ∧ s < 36) : ∀ (n : Nat) (c : Int), rB Kd s n c → 0 ≤ c ∧ c < 36 := by
  intro n
  induction n with
  | zero => intro c h; rw [h.1]; exact hs
  | succ n ih =>
    intro c h
    obtain ⟨p, way, hw, hp, hx, hc⟩ := h
    have := ih p hp
    rcases zNx_R (Kd := Kd) (way := way) this with z | z <;> omega
/-- relaxed all over: no way is shorter -/
theorem rB_rl {Kd : Int → Int} {s : Int} {f : Int → Int} (hs : 0 ≤ s ∧ s < 36) (h0 : ¬ Kd s = 2 → f s = 0) (h1 : ∀ c way : Int, 0 ≤ c → c < 36 → 0 ≤ way → way ≤ 3 → 0 ≤ f c → 0 ≤ zNx Kd c way → 0 ≤ f (zNx Kd c way) ∧ f (zNx Kd c way) ≤ f c + 1) : ∀ (n : Nat) (c : Int), rB Kd s n c → 0 ≤ f c ∧ f c ≤ n := by
  intro n
  induction n with
  | zero =>
    intro c h
    rw [h.1, h0 h.2]
    exact ⟨by decide, by decide⟩
  | succ n ih =>
    intro c h
    obtain ⟨p, way, hw, hp, hx, hc⟩ := h
    have hp2 := rB_in hs n p hp
    have hp3 := ih p hp
    have := h1 p way hp2.1 hp2.2 hw.1 hw.2 hp3.1 (by rw [hx]; exact hc)
    rw [hx] at this
    omega
theorem zN36_up {P : Int → Bool} {x : Int} (hP : P x = false) (h0 : 0 ≤ x) : ∀ n : Nat, zN36 (fun c => if c = x then true else P c) n = if x < n then zN36 P n + 1 else zN36 P n := by
  intro n
  induction n with
  | zero => rw [if_neg (by omega)]; rfl
  | succ n ih =>
    unfold zN36
    rw [ih]
    by_cases c : (n : Int) = x
    · rw [if_pos (show (if (n : Int) = x then true else P (n : Int)) = true by rw [if_pos c]), if_neg (show ¬ x < (n : Int) by omega), if_pos (show x < ((n + 1 : Nat) : Int) by omega), if_neg (show ¬ P (n : Int) = true by rw [c, hP]; decide)]
    · rw [if_neg c]
      by_cases d : x < (n : Int)
      · rw [if_pos d, if_pos (show x < ((n + 1 : Nat) : Int) by omega)]
        split <;> rfl
      · rw [if_neg d, if_neg (show ¬ x < ((n + 1 : Nat) : Int) by omega)]
theorem zN36_lt {P : Int → Bool} {x : Int} (hP : P x = false) (h0 : 0 ≤ x) {n : Nat} (h1 : x < n) : zN36 P n < n := by
  have h2 := zN36_up hP h0 n
  rw [if_pos h1] at h2
  have h3 := (zN36_R (fun c => if c = x then true else P c) n).2
  omega
def bF (Kd : Int → Int) (s : Int) (f q : Int → Int) (m i w : Int) : Prop :=
  (0 ≤ i ∧ i ≤ m ∧ 1 ≤ m ∧ m ≤ 36) ∧ (∀ j : Int, 0 ≤ j → j < m → (0 ≤ q j ∧ q j < 36) ∧ 0 ≤ f (q j) ∧ f (q j) ≤ j) ∧ (∀ c : Int, 0 ≤ c → c < 36 → f c = -4 ∨ (0 ≤ f c ∧ ∃ j : Int, 0 ≤ j ∧ j < m ∧ q j = c)) ∧ (∀ j k : Int, 0 ≤ j → j ≤ k → k < m → f (q j) ≤ f (q k)) ∧ (i < m → ∀ j : Int, 0 ≤ j → j < m → f (q j) ≤ f (q i) + 1) ∧ (∀ j way : Int, 0 ≤ j → (j < i ∨ (j = i ∧ way < w)) → j < m → 0 ≤ way → way ≤ 3 → 0 ≤ zNx Kd (q j) way → 0 ≤ f (zNx Kd (q j) way) ∧ f (zNx Kd (q j) way) ≤ f (q j) + 1) ∧ (∀ c : Int, 0 ≤ c → c < 36 → 0 ≤ f c → rB Kd s (f c).toNat c) ∧ zN36 (fun c => decide (0 ≤ f c)) 36 = m ∧ f s = 0
theorem bF_end {Kd : Int → Int} {s m w : Int} {f q : Int → Int} (hs : 0 ≤ s ∧ s < 36) (h : bF Kd s f q m m w) : zDi Kd s f := by
  obtain ⟨⟨a1, a2, a3, a4⟩, A, B, C, D, E, G, H, I⟩ := h
  intro c c0 c1
  refine ⟨?_, G c c0 c1, ?_⟩
  · rcases B c c0 c1 with z | ⟨z, j, j0, j1, e⟩
    · exact Or.inl z
    · have := (A j j0 j1).2
      rw [e] at this
      exact Or.inr ⟨z, by omega⟩
  · intro n hn
    refine rB_rl hs (fun _ => I) (fun p way p0 p1 w0 w1 pf px => ?_) n c hn
    rcases B p p0 p1 with z | ⟨z, j, j0, j1, e⟩
    · omega
    · have := E j way j0 (Or.inl j1) j1 w0 w1 (by rw [e]; exact px)
      rw [e] at this
      exact this
theorem bF_next {Kd : Int → Int} {s m i : Int} {f q : Int → Int} (h : bF Kd s f q m i 4) (hi : i < m) : bF Kd s f q m (i + 1) 0 := by
  obtain ⟨⟨a1, a2, a3, a4⟩, A, B, C, D, E, G, H, I⟩ := h
  refine ⟨⟨by omega, by omega, a3, a4⟩, A, B, C, fun z j j0 j1 => ?_, fun j way j0 jj j1 w0 w1 px => ?_, G, H, I⟩
  · have h1 := D hi j j0 j1
    have h2 := C i (i + 1) a1 (by omega) z
    omega
  · refine E j way j0 ?_ j1 w0 w1 px
    rcases jj with z | ⟨z, y⟩
    · by_cases c : j < i
      · exact Or.inl c
      · exact Or.inr ⟨by omega, by omega⟩
    · omega
theorem bF_skip {Kd : Int → Int} {s m i w : Int} {f q : Int → Int} (h : bF Kd s f q m i w) (hi : i < m) (hx : ¬ 0 ≤ zNx Kd (q i) w ∨ (0 ≤ zNx Kd (q i) w ∧ zNx Kd (q i) w < 36 ∧ 0 ≤ f (zNx Kd (q i) w))) : bF Kd s f q m i (w + 1) := by
  obtain ⟨⟨a1, a2, a3, a4⟩, A, B, C, D, E, G, H, I⟩ := h
  refine ⟨⟨a1, a2, a3, a4⟩, A, B, C, D, fun j way j0 jj j1 w0 w1 px => ?_, G, H, I⟩
  by_cases c : j = i ∧ way = w
  · rw [c.1, c.2] at px ⊢
    rcases hx with z | ⟨z1, z2, z3⟩
    · exact absurd px z
    · rcases B _ z1 z2 with y | ⟨y, k, k0, k1, e⟩
      · omega
      · have := D hi k k0 k1
        rw [e] at this
        exact ⟨z3, this⟩
  · exact E j way j0 (by omega) j1 w0 w1 px
theorem bF_add {Kd : Int → Int} {s m i w x : Int} {f q : Int → Int} (h : bF Kd s f q m i w) (hi : i < m) (hw : 0 ≤ w ∧ w ≤ 3) (ex : zNx Kd (q i) w = x) (hx : 0 ≤ x ∧ x < 36) (hf : f x < 0) : m < 36 ∧ bF Kd s (fun c => if c = x then f (q i) + 1 else f c) (fun j => if j = m then x else q j) (m + 1) i (w + 1) := by
  obtain ⟨⟨a1, a2, a3, a4⟩, A, B, C, D, E, G, H, I⟩ := h
  have hm : m < 36 := by
    have := zN36_lt (P := fun c => decide (0 ≤ f c)) (x := x) (decide_eq_false (by omega)) hx.1 (n := 36) hx.2
    rw [H] at this
    exact this
  have old : ∀ j : Int, 0 ≤ j → j < m → ¬ q j = x := by
    intro j j0 j1 e
    have := (A j j0 j1).2.1
    rw [e] at this
    omega
  have hqi := A i a1 hi
  have fo : ∀ j : Int, 0 ≤ j → j < m → (if (if j = m then x else q j) = x then f (q i) + 1 else f (if j = m then x else q j)) = f (q j) := by
    intro j j0 j1
    rw [if_neg (show ¬ j = m by omega), if_neg (old j j0 j1)]
  have fn : (if (if m = m then x else q m) = x then f (q i) + 1 else f (if m = m then x else q m)) = f (q i) + 1 := by
    rw [if_pos (show m = m from rfl), if_pos rfl]
  refine ⟨hm, ⟨a1, by omega, by omega, by omega⟩, fun j j0 j1 => ?_, fun c c0 c1 => ?_, fun j k j0 jk k1 => ?_, fun _ j j0 j1 => ?_, fun j way j0 jj j1 w0 w1 px => ?_, fun c c0 c1 cf => ?_, ?_, ?_⟩
  · by_cases e : j = m
    · subst e
      show (0 ≤ (if j = j then x else q j) ∧ (if j = j then x else q j) < 36) ∧ 0 ≤ (if (if j = j then x else q j) = x then f (q i) + 1 else f (if j = j then x else q j)) ∧ (if (if j = j then x else q j) = x then f (q i) + 1 else f (if j = j then x else q j)) ≤ j
      rw [fn, if_pos rfl]
      exact ⟨hx, by omega, by omega⟩
    · have := A j j0 (by omega)
      show (0 ≤ (if j = m then x else q j) ∧ (if j = m then x else q j) < 36) ∧ 0 ≤ (if (if j = m then x else q j) = x then f (q i) + 1 else f (if j = m then x else q j)) ∧ (if (if j = m then x else q j) = x then f (q i) + 1 else f (if j = m then x else q j)) ≤ j
      rw [fo j j0 (by omega), if_neg e]
      exact this
  · show (if c = x then f (q i) + 1 else f c) = -4 ∨ (0 ≤ (if c = x then f (q i) + 1 else f c) ∧ ∃ j : Int, 0 ≤ j ∧ j < m + 1 ∧ (if j = m then x else q j) = c)
    by_cases e : c = x
    · rw [if_pos e]
      exact Or.inr ⟨by omega, m, by omega, by omega, by rw [if_pos rfl, e]⟩
    · rw [if_neg e]
      rcases B c c0 c1 with z | ⟨z, j, j0, j1, ej⟩
      · exact Or.inl z
      · exact Or.inr ⟨z, j, j0, by omega, by rw [if_neg (by omega)]; exact ej⟩
  · show (if (if j = m then x else q j) = x then f (q i) + 1 else f (if j = m then x else q j)) ≤ (if (if k = m then x else q k) = x then f (q i) + 1 else f (if k = m then x else q k))
    by_cases e : k = m
    · subst e
      rw [fn]
      by_cases e2 : j = k
      · subst e2
        rw [fn]
        exact Int.le_refl _
      · rw [fo j j0 (by omega)]
        exact D hi j j0 (by omega)
    · rw [fo k (by omega) (by omega), fo j j0 (by omega)]
      exact C j k j0 jk (by omega)
  · show (if (if j = m then x else q j) = x then f (q i) + 1 else f (if j = m then x else q j)) ≤ (if (if i = m then x else q i) = x then f (q i) + 1 else f (if i = m then x else q i)) + 1
    rw [fo i a1 hi]
    by_cases e : j = m
    · subst e
      rw [fn]
      exact Int.le_refl _
    · rw [fo j j0 (by omega)]
      exact D hi j j0 (by omega)
  · have jm : j < m := by omega
    have e1 : (if j = m then x else q j) = q j := if_neg (by omega)
    show 0 ≤ (if zNx Kd (if j = m then x else q j) way = x then f (q i) + 1 else f (zNx Kd (if j = m then x else q j) way)) ∧ (if zNx Kd (if j = m then x else q j) way = x then f (q i) + 1 else f (zNx Kd (if j = m then x else q j) way)) ≤ (if (if j = m then x else q j) = x then f (q i) + 1 else f (if j = m then x else q j)) + 1
    have px' : 0 ≤ zNx Kd (q j) way := by
      have : 0 ≤ zNx Kd (if j = m then x else q j) way := px
      rw [e1] at this
      exact this
    rw [fo j j0 jm, e1]
    by_cases cc : j = i ∧ way = w
    · rw [cc.1, cc.2, ex, if_pos rfl]
      omega
    · have := E j way j0 (by omega) jm w0 w1 px'
      rw [if_neg (fun z => by rw [z] at this; omega)]
      exact this
  · have cf : 0 ≤ (if c = x then f (q i) + 1 else f c) := cf
    show rB Kd s (if c = x then f (q i) + 1 else f c).toNat c
    by_cases e : c = x
    · rw [if_pos e, show (f (q i) + 1).toNat = (f (q i)).toNat + 1 by omega]
      exact ⟨q i, w, hw, G (q i) hqi.1.1 hqi.1.2 hqi.2.1, by rw [ex, e], by omega⟩
    · rw [if_neg e] at cf ⊢
      exact G c c0 c1 cf
  · have := zN36_up (P := fun c => decide (0 ≤ f c)) (x := x) (decide_eq_false (by omega)) hx.1 36
    rw [if_pos (by omega), H] at this
    rw [← this]
    refine zN36_cg 36 (fun c c0 c1 => ?_)
    show decide (0 ≤ (if c = x then f (q i) + 1 else f c)) = (if c = x then true else decide (0 ≤ f c))
    by_cases e : c = x
    · rw [if_pos e, if_pos e]
      exact decide_eq_true (by omega)
    · rw [if_neg e, if_neg e]
  · show (if s = x then f (q i) + 1 else f s) = 0
    rw [if_neg (fun z => by rw [z] at I; omega)]
    exact I
def dF (h h' : zMm) : Prop := ∀ o : Nat, o ≠ 29 → o ≠ 30 → h' o = h o
theorem dF.trans {h h1 h2 : zMm} (a : dF h h1) (b : dF h1 h2) : dF h h2 := fun o c1 c2 => (b o c1 c2).trans (a o c1 c2)
theorem dF.CR {a h h' : zMm} (F : dF h h') (C : CR a h) : CR a h' := C.scr (fun o ho => F o (by omega) (by omega))
theorem dF.hi {h h' : zMm} (F : dF h h') : zHi81 h h' := fun o ho => F o (by omega) (by omega)
theorem meas_in {Kd : Int → Int} {s i : Int} {h0 : zMm} {K : zMm → Prop} (hK0 : zKd (h0 11) Kd)
    (kk : ∀ (m : Int) (h' : zMm), dF h0 h' → bF Kd s (h' 29) (h' 30) m i 4 → i < m → RR mX2_measure 0 0 37 [some (.ref 28), some (.ref 10), none, some (.int (zI m)), some (.int (zI (i + 1))), none, none] [] zS0 h' (zQv zS0 K)) : ∀ (n : Nat) (w m : Int) (h : zMm), 0 ≤ w → w + n = 4 → dF h0 h → bF Kd s (h 29) (h 30) m i w → i < m → i < 36 → RR mX2_measure 0 0 53 [some (.ref 28), some (.ref 10), none, some (.int (zI m)), some (.int (zI i)), some (.int (zI w)), none] [] zS0 h (zQv zS0 K) := by
  intro n
  induction n with
  | zero =>
    intro w m h w0 wn F H hi i36
    rw [show w = 4 by omega] at H ⊢
    exact bX2_measure_53 ⟨by decide, fun _ => kk m h F H hi, fun d => absurd (by decide) d⟩
  | succ n ih =>
    intro w m h w0 wn F H hi i36
    obtain ⟨⟨a1, a2, a3, a4⟩, A, B, C, D, E, G, N, I⟩ := id H
    have hqi := A i a1 hi
    have hk : zKd (h (10 + 1)) Kd := by rw [show (10 : Nat) + 1 = 11 from rfl, F 11 (by decide) (by decide)]; exact hK0
    have hxR := zNx_R (Kd := Kd) (way := w) hqi.1
    refine bX2_measure_53 ⟨⟨by omega, by omega⟩, fun d => absurd d (by omega), fun _ => ⟨⟨by omega, by omega⟩, sX3_ahead g0_10 hk hqi.1 ⟨w0, by omega⟩ ?_⟩⟩
    refine ⟨⟨by omega, by omega⟩, fun c => ih (w + 1) m h (by omega) (by omega) F (bF_skip H hi (Or.inl (by omega))) hi i36, fun c => ?_⟩
    have hx : 0 ≤ zNx Kd (h 30 i) w ∧ zNx Kd (h 30 i) w < 36 := by omega
    have fxR : zR (h 29 (zNx Kd (h 30 i) w)) := by
      rcases B _ hx.1 hx.2 with z | ⟨z, j, j0, j1, e⟩
      · rw [z]; decide
      · have := (A j j0 j1).2.2
        rw [e] at this
        exact ⟨by omega, by omega⟩
    refine ⟨hx, fxR, ⟨by omega, by omega⟩, fun d => ih (w + 1) m h (by omega) (by omega) F (bF_skip H hi (Or.inr ⟨hx.1, hx.2, d⟩)) hi i36, fun d => ?_⟩
    obtain ⟨b1, b2⟩ := bF_add H hi ⟨w0, by omega⟩ rfl hx (by omega)
    refine ⟨fun e => absurd b1 (by omega), fun _ => ⟨hqi.1, ⟨by omega, by omega⟩, ?_⟩⟩
    refine ih (w + 1) (m + 1) _ (by omega) (by omega) (fun o c1 c2 => by rw [zU_off o c2, zU_off o c1]; exact F o c1 c2) ?_ (by omega) i36
    have e29 : (zU (zU h 29 (zNx Kd (h 30 i) w) (h 29 (h 30 i) + 1)) 30 m (zNx Kd (h 30 i) w)) 29 = fun c => if c = zNx Kd (h 30 i) w then h 29 (h 30 i) + 1 else h 29 c := by
      rw [zU_off 29 (by decide)]
      funext c
      simp [zU_at]
    have e30 : (zU (zU h 29 (zNx Kd (h 30 i) w) (h 29 (h 30 i) + 1)) 30 m (zNx Kd (h 30 i) w)) 30 = fun j => if j = m then zNx Kd (h 30 i) w else h 30 j := by
      funext j
      simp [zU_at]
    rw [e29, e30]
    exact b2
theorem sX2_measure {a h : zMm} {s : Int} {K : zMm → Prop} (C : CR a h) (hs : 0 ≤ s ∧ s < 36) (hK : ∀ h', zDi (a 0) s (h' 29) → dF h h' → K h') : zCv mX2_measure [.ref 28, .ref 10, .int (zI s)] zS0 h K := by
  refine wX2_measure (sJ7_fill_i s0_29 (by decide) ?_)
  have F0 : dF h (zFi h 29 ((36 : Nat) : Int) (-4)) := fun o c1 _ => zFi_of c1
  have k0 : zKd ((zFi h 29 ((36 : Nat) : Int) (-4)) (10 + 1)) (a 0) := by
    rw [show (10 : Nat) + 1 = 11 from rfl, F0 11 (by decide) (by decide)]
    exact C.1.1.1
  refine sX3_isOpen' g0_10 k0 hs ?_
  simp only [decide_eq_true_eq, decide_eq_false_iff_not]
  have f4 : ∀ c : Int, 0 ≤ c → c < 36 → (zFi h 29 ((36 : Nat) : Int) (-4)) 29 c = -4 := fun c c0 c1 => zFi_in c0 c1
  refine ⟨fun c => ⟨hs, ?_⟩, fun c => ?_⟩
  · generalize hg : zFi h 29 ((36 : Nat) : Int) (-4) = g at *
    have F1 : dF h (zU (zU g 29 s 0) 30 0 s) := fun o c1 c2 => by rw [zU_off o c2, zU_off o c1]; exact F0 o c1 c2
    have e29 : (zU (zU g 29 s 0) 30 0 s) 29 = fun c => if c = s then 0 else g 29 c := by
      rw [zU_off 29 (by decide)]
      funext c
      simp [zU_at]
    have e30 : ∀ j, (zU (zU g 29 s 0) 30 0 s) 30 j = if j = 0 then s else g 30 j := by
      intro j
      simp [zU_at]
    have H0 : bF (a 0) s ((zU (zU g 29 s 0) 30 0 s) 29) ((zU (zU g 29 s 0) 30 0 s) 30) 1 0 0 := by
      rw [e29]
      refine ⟨by decide, fun j j0 j1 => ?_, fun x x0 x1 => ?_, fun j k j0 jk k1 => ?_, fun _ j j0 j1 => ?_, fun j way j0 jj j1 w0 w1 px => by omega, fun x x0 x1 xf => ?_, ?_, ?_⟩
      · have : j = 0 := by omega
        subst this
        show (0 ≤ _ ∧ _ < 36) ∧ 0 ≤ (if (zU (zU g 29 s 0) 30 0 s) 30 0 = s then (0 : Int) else _) ∧ (if (zU (zU g 29 s 0) 30 0 s) 30 0 = s then (0 : Int) else _) ≤ 0
        rw [e30, if_pos rfl, if_pos rfl]
        exact ⟨hs, by decide, by decide⟩
      · show (if x = s then (0 : Int) else g 29 x) = -4 ∨ (0 ≤ (if x = s then (0 : Int) else g 29 x) ∧ _)
        by_cases e : x = s
        · rw [if_pos e]
          exact Or.inr ⟨by decide, 0, by decide, by decide, by rw [e30, if_pos rfl, e]⟩
        · rw [if_neg e]
          exact Or.inl (f4 x x0 x1)
      · rw [show j = k by omega]
        exact Int.le_refl _
      · rw [show j = 0 by omega]
        omega
      · have xf : 0 ≤ (if x = s then (0 : Int) else g 29 x) := xf
        show rB (a 0) s (if x = s then (0 : Int) else g 29 x).toNat x
        by_cases e : x = s
        · rw [if_pos e]
          exact ⟨e, c⟩
        · rw [if_neg e, f4 x x0 x1] at xf
          exact absurd xf (by decide)
      · have := zN36_up (P := fun _ => false) (x := s) rfl hs.1 36
        rw [if_pos (by omega)] at this
        have z : ∀ n : Nat, zN36 (fun _ => false) n = 0 := by
          intro n
          induction n with
          | zero => rfl
          | succ n ih => unfold zN36; rw [ih]; rfl
        rw [z 36] at this
        rw [show (1 : Int) = 0 + 1 from rfl, ← this]
        refine zN36_cg 36 (fun x x0 x1 => ?_)
        show decide (0 ≤ (if x = s then (0 : Int) else g 29 x)) = (if x = s then true else false)
        by_cases e : x = s
        · rw [if_pos e, if_pos e]
          rfl
        · rw [if_neg e, if_neg e, f4 x x0 x1]
          rfl
      · show (if s = s then (0 : Int) else g 29 s) = 0
        rw [if_pos rfl]
    have loop : ∀ (n : Nat) (i m : Int) (h' : zMm), 0 ≤ i → i + n = 36 → dF h h' → bF (a 0) s (h' 29) (h' 30) m i 0 → RR mX2_measure 0 0 37 [some (.ref 28), some (.ref 10), none, some (.int (zI m)), some (.int (zI i)), none, none] [] zS0 h' (zQv zS0 K) := by
      intro n
      induction n with
      | zero =>
        intro i m h' i0 im F H
        obtain ⟨a1, a2, a3, a4⟩ := H.1
        have : m = i := by omega
        subst this
        exact bX2_measure_37 ⟨⟨by omega, by omega⟩, ⟨by omega, by omega⟩, fun _ => hK h' (bF_end hs H) F, fun _ => ⟨fun _ => hK h' (bF_end hs H) F, fun d => absurd (by omega) d⟩⟩
      | succ n ih =>
        intro i m h' i0 im F H
        obtain ⟨a1, a2, a3, a4⟩ := H.1
        refine bX2_measure_37 ⟨⟨by omega, by omega⟩, ⟨by omega, by omega⟩, fun d => ?_, fun d => ⟨fun e => absurd e (by omega), fun _ => ?_⟩⟩
        · have : m = i := by omega
          subst this
          exact hK h' (bF_end hs H) F
        · exact meas_in (h0 := h) C.1.1.1 (fun m2 h2 F2 H2 i2 => ih (i + 1) m2 h2 (by omega) (by omega) F2 (bF_next H2 i2)) 4 0 m h' (by decide) (by decide) F H (by omega) (by omega)
    exact loop 36 0 1 _ (by decide) (by decide) F1 H0
  · refine hK _ (fun x x0 x1 => ⟨Or.inl (f4 x x0 x1), fun z => ?_, fun n hn => ?_⟩) F0
    · rw [f4 x x0 x1] at z
      exact absurd z (by decide)
    · exfalso
      have : ∀ (n : Nat) (x : Int), ¬ rB (a 0) s n x := by
        intro n
        induction n with
        | zero => intro x hx; exact c hx.2
        | succ n ih => intro x hx; obtain ⟨p, way, _, hp, _⟩ := hx; exact ih p hp
      exact this n x hn
/-! the model's -/
theorem zSm_up {f : Int → Int} {x v : Int} (h0 : 0 ≤ x) : ∀ n : Nat, zSm (fun c => if c = x then v else f c) n = if x < n then zSm f n - f x + v else zSm f n := by
  intro n
  induction n with
  | zero => rw [if_neg (by omega)]; rfl
  | succ n ih =>
    unfold zSm
    rw [ih]
    by_cases c : (n : Int) = x
    · rw [if_neg (by omega), if_pos c, if_pos (by omega), c]
      omega
    · rw [if_neg c]
      by_cases d : x < (n : Int)
      · rw [if_pos d, if_pos (by omega)]
        omega
      · rw [if_neg d, if_neg (by omega)]
theorem zSm_R {f : Int → Int} {m : Int} : ∀ n : Nat, (∀ c : Int, 0 ≤ c → c < n → 0 ≤ f c ∧ f c ≤ m) → 0 ≤ zSm f n ∧ zSm f n ≤ n * m := by
  intro n
  induction n with
  | zero => intro _; exact ⟨Int.le_refl _, by show (0 : Int) ≤ ((0 : Nat) : Int) * m; rw [Int.natCast_zero, Int.zero_mul]; exact Int.le_refl _⟩
  | succ n ih =>
    intro h
    have h1 := ih (fun c c0 c1 => h c c0 (by omega))
    have h2 := h (n : Int) (by omega) (by omega)
    unfold zSm
    refine ⟨by omega, ?_⟩
    rw [show ((n + 1 : Nat) : Int) * m = (n : Int) * m + m by rw [Int.natCast_add, Int.add_mul]; omega]
    omega
def bN (f : Int → Int) : Int := zN36 (fun c => decide (f c < 1000000)) 36
def bM (Kd : Int → Int) (s : Int) (f : Int → Int) : Prop := (∀ c : Int, 0 ≤ c → c < 36 → (0 ≤ f c ∧ f c ≤ 1000000) ∧ (f c < 1000000 → rB Kd s (f c).toNat c ∧ f c < bN f)) ∧ (¬ Kd s = 2 → f s = 0)
theorem bN_R (f : Int → Int) : bN f ≤ 36 := (zN36_R _ 36).2
theorem bN_up {f : Int → Int} {x v : Int} (hx : 0 ≤ x ∧ x < 36) (hv : v < 1000000) : bN (fun c => if c = x then v else f c) = if f x < 1000000 then bN f else bN f + 1 := by
  unfold bN
  by_cases c : f x < 1000000
  · rw [if_pos c]
    refine zN36_cg 36 (fun j j0 j1 => ?_)
    show decide ((if j = x then v else f j) < 1000000) = decide (f j < 1000000)
    by_cases e : j = x
    · rw [if_pos e, e, decide_eq_true hv, decide_eq_true c]
    · rw [if_neg e]
  · rw [if_neg c]
    have := zN36_up (P := fun c => decide (f c < 1000000)) (x := x) (decide_eq_false c) hx.1 36
    rw [if_pos (by omega)] at this
    rw [← this]
    refine zN36_cg 36 (fun j j0 j1 => ?_)
    show decide ((if j = x then v else f j) < 1000000) = (if j = x then true else decide (f j < 1000000))
    by_cases e : j = x
    · rw [if_pos e, if_pos e]
      exact decide_eq_true hv
    · rw [if_neg e, if_neg e]
def eF (h h' : zMm) : Prop := ∀ o : Nat, o ≠ 101 → h' o = h o
theorem eF.MR {a h h' : zMm} (F : eF h h') (M : MR a h) : MR a h' := by
  have e := F 81 (by decide)
  exact M.scr (by rw [e]; exact ⟨rfl, rfl, rfl, rfl⟩) (fun o ho => F o (by omega))
theorem eF.mA {a h h' : zMm} (F : eF h h') (A : mA a h) : mA a h' := A.to (zAll_rf a) (F 92 (by decide)) (F 88 (by decide))
theorem eF.lo {h h' : zMm} (F : eF h h') : zLo81 h h' := fun o ho => F o (by omega)
theorem steps_pass {Kd : Int → Int} {s : Int} {h0 : zMm} {N : Int} {K : zMm → Prop} (hK0 : zKd (h0 92) Kd) (hs : 0 ≤ s ∧ s < 36)
    (kk : ∀ (v2 : Int) (h' : zMm), eF h0 h' → bM Kd s (h' 101) → (v2 = 0 ∨ v2 = 1) → (v2 = 0 → ∀ c way : Int, 0 ≤ c → c < 36 → 0 ≤ way → way ≤ 3 → 0 ≤ zNx Kd c way → h' 101 (zNx Kd c way) ≤ h' 101 c + 1) → (v2 = 1 → zSm (h' 101) 36 < N) → RR mX12_laySteps 0 0 43 [some (.ref 81), none, some (.int (zI v2)), none, none] [] zS0 h' (zQv zS0 K)) : ∀ (n : Nat) (k v2 : Int) (h : zMm), 0 ≤ k → k + n = 144 → eF h0 h → bM Kd s (h 101) → (v2 = 0 ∨ v2 = 1) → (v2 = 0 → ∀ j : Int, 0 ≤ j → j < k → 0 ≤ zNx Kd (j / 4) (j % 4) → h 101 (zNx Kd (j / 4) (j % 4)) ≤ h 101 (j / 4) + 1) → zSm (h 101) 36 ≤ N → (v2 = 1 → zSm (h 101) 36 < N) → RR mX12_laySteps 0 0 51 [some (.ref 81), none, some (.int (zI v2)), some (.int (zI k)), none] [] zS0 h (zQv zS0 K) := by
  intro n
  induction n with
  | zero =>
    intro k v2 h k0 kn F B hv R S1 S2
    refine bX12_laySteps_51 ⟨⟨by omega, by omega⟩, fun _ => kk v2 h F B hv (fun z c way c0 c1 w0 w1 px => ?_) S2, fun d => absurd (by omega) d⟩
    have := R z (4 * c + way) (by omega) (by omega)
    rw [show (4 * c + way) / 4 = c by omega, show (4 * c + way) % 4 = way by omega] at this
    exact this px
  | succ n ih =>
    intro k v2 h k0 kn F B hv R S1 S2
    have hk : zKd (h 92) Kd := by rw [F 92 (by decide)]; exact hK0
    have hc : 0 ≤ k / 4 ∧ k / 4 < 36 := by omega
    have hxR := zNx_R (Kd := Kd) (way := k % 4) hc
    have bc := (B.1 (k / 4) hc.1 hc.2)
    refine bX12_laySteps_51 ⟨⟨by omega, by omega⟩, fun d => absurd d (by omega), fun _ => ⟨⟨by omega, by omega⟩, sX12_nextOf hk hc ⟨by omega, by omega⟩ ?_⟩⟩
    have go : (0 ≤ zNx Kd (k / 4) (k % 4) → h 101 (zNx Kd (k / 4) (k % 4)) ≤ h 101 (k / 4) + 1) → RR mX12_laySteps 0 0 51 [some (.ref 81), none, some (.int (zI v2)), some (.int (zI (k + 1))), none] [] zS0 h (zQv zS0 K) := by
      intro q
      refine ih (k + 1) v2 h (by omega) (by omega) F B hv (fun z j j0 j1 px => ?_) S1 S2
      by_cases e : j = k
      · rw [e] at px ⊢
        exact q px
      · exact R z j j0 (by omega) px
    refine ⟨⟨by omega, by omega⟩, fun c => go (fun z => by omega), fun c => ?_⟩
    have hx : 0 ≤ zNx Kd (k / 4) (k % 4) ∧ zNx Kd (k / 4) (k % 4) < 36 := by omega
    have bx := B.1 _ hx.1 hx.2
    refine ⟨hc, hx, ⟨by omega, by omega⟩, ⟨by omega, by omega⟩, fun d => go (fun _ => d), fun d => ?_⟩
    have e1 : (zU h 101 (zNx Kd (k / 4) (k % 4)) (h 101 (k / 4) + 1)) 101 = fun c => if c = zNx Kd (k / 4) (k % 4) then h 101 (k / 4) + 1 else h 101 c := by
      funext c
      simp [zU_at]
    have sm := zSm_up (f := h 101) (x := zNx Kd (k / 4) (k % 4)) (v := h 101 (k / 4) + 1) hx.1 36
    rw [if_pos (by omega)] at sm
    have bb := bN_R (h 101)
    have hc2 : h 101 (k / 4) < 1000000 := by omega
    have bc2 := (bc.2 hc2).2
    refine ih (k + 1) 1 _ (by omega) (by omega) (fun o c1 => by rw [zU_off o c1]; exact F o c1) ?_ (Or.inr rfl) (fun z => absurd z (by decide)) (by rw [e1, sm]; omega) (fun _ => by rw [e1, sm]; omega)
    rw [e1]
    have bu := bN_up (f := h 101) (v := h 101 (k / 4) + 1) hx (by omega)
    refine ⟨fun x x0 x1 => ?_, fun z => ?_⟩
    · rw [bu]
      dsimp only
      by_cases e : x = zNx Kd (k / 4) (k % 4)
      · rw [if_pos e]
        refine ⟨by omega, fun _ => ⟨?_, ?_⟩⟩
        · rw [show (h 101 (k / 4) + 1).toNat = (h 101 (k / 4)).toNat + 1 by omega]
          exact ⟨k / 4, k % 4, by omega, (bc.2 hc2).1, e.symm, x0⟩
        · split
          · rename_i y
            have := (bx.2 y).2
            omega
          · omega
      · rw [if_neg e]
        refine ⟨(B.1 x x0 x1).1, fun y => ⟨((B.1 x x0 x1).2 y).1, ?_⟩⟩
        have := ((B.1 x x0 x1).2 y).2
        split <;> omega
    · have h1 := B.2 z
      show (if s = zNx Kd (k / 4) (k % 4) then h 101 (k / 4) + 1 else h 101 s) = 0
      rw [if_neg (fun y => by rw [← y, h1] at d; omega)]
      exact h1
theorem steps_fin {Kd : Int → Int} {s : Int} {f : Int → Int} (hs : 0 ≤ s ∧ s < 36) (B : bM Kd s f) (R : ∀ c way : Int, 0 ≤ c → c < 36 → 0 ≤ way → way ≤ 3 → 0 ≤ zNx Kd c way → f (zNx Kd c way) ≤ f c + 1) : zDi Kd s (fun c => if f c < 1000000 then f c else -4) := by
  have bb := bN_R f
  intro c c0 c1
  have b := B.1 c c0 c1
  refine ⟨?_, fun z => ?_, fun n => rB_rl (f := fun c => if f c < 1000000 then f c else -4) hs (fun z => ?_) (fun p way p0 p1 w0 w1 pf px => ?_) n c⟩
  · show (if f c < 1000000 then f c else -4) = -4 ∨ (0 ≤ (if f c < 1000000 then f c else -4) ∧ (if f c < 1000000 then f c else -4) < 1000000)
    split <;> omega
  · have z : 0 ≤ (if f c < 1000000 then f c else -4) := z
    show rB Kd s (if f c < 1000000 then f c else -4).toNat c
    by_cases y : f c < 1000000
    · rw [if_pos y]
      exact (b.2 y).1
    · rw [if_neg y] at z
      exact absurd z (by decide)
  · show (if f s < 1000000 then f s else -4) = 0
    rw [B.2 z]
    rfl
  · have pf : 0 ≤ (if f p < 1000000 then f p else -4) := pf
    show 0 ≤ (if f (zNx Kd p way) < 1000000 then f (zNx Kd p way) else -4) ∧ (if f (zNx Kd p way) < 1000000 then f (zNx Kd p way) else -4) ≤ (if f p < 1000000 then f p else -4) + 1
    have hp : f p < 1000000 := by
      by_cases y : f p < 1000000
      · exact y
      · rw [if_neg y] at pf
        exact absurd pf (by decide)
    have xr := zNx_R (Kd := Kd) (way := way) ⟨p0, p1⟩
    have bx := B.1 (zNx Kd p way) px (by omega)
    have r := R p way p0 p1 w0 w1 px
    have hp2 := ((B.1 p p0 p1).2 hp).2
    rw [if_pos hp, if_pos (by omega)]
    exact ⟨bx.1.1, r⟩
theorem sX12_laySteps {a h : zMm} {s : Int} {K : zMm → Prop} (A : mA a h) (hs : 0 ≤ s ∧ s < 36) (hK : ∀ h', (∀ c : Int, 0 ≤ c → c < 36 → h' 101 c = if dS (a 0) s c = -4 then 1000000 else dS (a 0) s c) → zDi (a 0) s (dS (a 0) s) → eF h h' → K h') : zCv mX12_laySteps [.ref 81, .int (zI s)] zS0 h K := by
  have k0 := A.1.1
  have fin : ∀ h' : zMm, eF h h' → bM (a 0) s (h' 101) → (∀ c way : Int, 0 ≤ c → c < 36 → 0 ≤ way → way ≤ 3 → 0 ≤ zNx (a 0) c way → h' 101 (zNx (a 0) c way) ≤ h' 101 c + 1) → K h' := by
    intro h' F B R
    have Z := steps_fin hs B R
    refine hK h' (fun c c0 c1 => ?_) (dS_is Z) F
    have e := dS_eq Z c0 c1
    have b := B.1 c c0 c1
    by_cases y : h' 101 c < 1000000
    · rw [if_pos y] at e
      rw [← e, if_neg (by omega)]
    · rw [if_neg y] at e
      rw [← e, if_pos rfl]
      omega
  have outer : ∀ (N : Nat) (h' : zMm), eF h h' → bM (a 0) s (h' 101) → zSm (h' 101) 36 ≤ (N : Int) → RR mX12_laySteps 0 0 43 [some (.ref 81), none, some (.int (zI 1)), none, none] [] zS0 h' (zQv zS0 K) := by
    intro N
    induction N with
    | zero =>
      intro h' F B S
      refine bX12_laySteps_43 ⟨by decide, fun d => absurd d (by decide), fun _ => ?_⟩
      refine steps_pass (N := ((0 : Nat) : Int)) (h0 := h) k0 hs (fun v2 h2 F2 B2 hv R2 S2 => ?_) 144 0 0 h' (by decide) (by decide) F B (Or.inl rfl) (fun _ j j0 j1 => by omega) S (fun z => absurd z (by decide))
      rcases hv with z | z
      · subst z
        exact bX12_laySteps_43 ⟨by decide, fun _ => fin h2 F2 B2 (R2 rfl), fun d => absurd rfl d⟩
      · have h1 := S2 z
        have h2 := (zSm_R (f := h2 101) (m := 1000000) 36 (fun c c0 c1 => (B2.1 c c0 c1).1)).1
        omega
    | succ N ih =>
      intro h' F B S
      refine bX12_laySteps_43 ⟨by decide, fun d => absurd d (by decide), fun _ => ?_⟩
      refine steps_pass (N := ((N + 1 : Nat) : Int)) (h0 := h) k0 hs (fun v2 h2 F2 B2 hv R2 S2 => ?_) 144 0 0 h' (by decide) (by decide) F B (Or.inl rfl) (fun _ j j0 j1 => by omega) S (fun z => absurd z (by decide))
      rcases hv with z | z
      · subst z
        exact bX12_laySteps_43 ⟨by decide, fun _ => fin h2 F2 B2 (R2 rfl), fun d => absurd rfl d⟩
      · have h1 := S2 z
        subst z
        exact ih h2 F2 B2 (by omega)
  refine wX12_laySteps ?_
  have init : ∀ (n k : Nat) (h' : zMm), k + n = 36 → eF h h' → (∀ c : Int, 0 ≤ c → c < k → h' 101 c = if c = s ∧ ¬ a 0 s = 2 then 0 else 1000000) → RR mX12_laySteps 0 0 2 [some (.ref 81), some (.int (zI s)), some (.int (zI (k : Int))), none, none] [] zS0 h' (zQv zS0 K) := by
    intro n
    induction n with
    | zero =>
      intro k h' hk F E
      refine bX12_laySteps_2 ⟨⟨by omega, by omega⟩, ⟨by omega, by omega⟩, fun _ => ?_, fun d => absurd (by omega) d⟩
      have B : bM (a 0) s (h' 101) := by
        refine ⟨fun c c0 c1 => ?_, fun z => ?_⟩
        · rw [E c c0 (by omega)]
          by_cases d : c = s ∧ ¬ a 0 s = 2
          · rw [if_pos d]
            refine ⟨by decide, fun _ => ⟨⟨d.1, d.2⟩, ?_⟩⟩
            by_cases y : 0 < bN (h' 101)
            · exact y
            · exfalso
              have := zN36_lt (P := fun c => decide (¬ h' 101 c < 1000000)) (x := s) (decide_eq_false (by rw [E s hs.1 (by omega), if_pos ⟨rfl, d.2⟩]; decide)) hs.1 (n := 36) hs.2
              have sum : ∀ n : Nat, zN36 (fun c => decide (h' 101 c < 1000000)) n + zN36 (fun c => decide (¬ h' 101 c < 1000000)) n = n := by
                intro n
                induction n with
                | zero => rfl
                | succ n ih =>
                  unfold zN36
                  by_cases q : h' 101 (n : Int) < 1000000
                  · rw [if_pos (decide_eq_true q), if_neg (fun z => (of_decide_eq_true z) q)]
                    omega
                  · rw [if_neg (fun z => q (of_decide_eq_true z)), if_pos (decide_eq_true q)]
                    omega
              have := sum 36
              unfold bN at y
              omega
          · rw [if_neg d]
            exact ⟨by decide, fun z => absurd z (by decide)⟩
        · rw [E s hs.1 (by omega), if_pos ⟨rfl, z⟩]
      have S := (zSm_R (f := h' 101) (m := 1000000) 36 (fun c c0 c1 => (B.1 c c0 c1).1))
      exact outer (36 * 1000000) h' F B (by have := S.2; omega)
    | succ n ih =>
      intro k h' hk F E
      have step : ∀ v : Int, v = (if (k : Int) = s ∧ ¬ a 0 s = 2 then 0 else 1000000) → RR mX12_laySteps 0 0 2 [some (.ref 81), some (.int (zI s)), some (.int (zI ((k : Int) + 1))), none, none] [] zS0 (zU h' 101 (k : Int) v) (zQv zS0 K) := by
        intro v ev
        have := ih (k + 1) (zU h' 101 (k : Int) v) (by omega) (fun o c1 => by rw [zU_off o c1]; exact F o c1) (fun c c0 c1 => ?_)
        · rw [show (k : Int) + 1 = ((k + 1 : Nat) : Int) by omega]
          exact this
        · rw [zU_at]
          by_cases e : c = (k : Int)
          · rw [if_pos ⟨rfl, e⟩, ev, e]
          · rw [if_neg (fun z => e z.2)]
            exact E c c0 (by omega)
      have k92 := k0 s hs.1 hs.2
      refine bX12_laySteps_2 ⟨⟨by omega, by omega⟩, ⟨by omega, by omega⟩, fun d => absurd d (by omega), fun _ => ⟨fun d => ⟨⟨by omega, by omega⟩, step _ ?_⟩, fun d => ⟨⟨by omega, by omega⟩, ?_⟩⟩⟩
      · rw [if_neg (fun z => d z.1)]
      · rw [F 92 (by decide), k92.1]
        refine ⟨⟨by omega, by omega⟩, ⟨by omega, by omega⟩, step _ ?_⟩
        by_cases c2 : a 0 s = 2
        · rw [if_pos c2, if_neg (fun z => z.2 c2)]
        · rw [if_neg c2, if_pos ⟨d, c2⟩]
  exact init 36 0 h (by decide) (fun _ _ => rfl) (fun c c0 c1 => absurd c1 (by omega))
