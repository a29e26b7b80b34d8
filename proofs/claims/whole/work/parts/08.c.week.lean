/-! week, high, weeks, stripes -/
/-- a cell's height behind n weeks -/
def hW (a : zMm) (n c : Int) : Int := if a 0 c ≤ 1 then min 60 (a 1 c + n * a 2 c) else 0
theorem zMulR {n s : Int} (hn : 0 ≤ n ∧ n ≤ 99) (hs : 0 ≤ s ∧ s ≤ 9) : 0 ≤ n * s ∧ n * s ≤ 891 :=
  ⟨Int.mul_nonneg hn.1 hs.1, Int.le_trans (Int.mul_le_mul hn.2 hs.2 hs.1 (by decide)) (by decide)⟩
theorem hW_R {a : zMm} {n c : Int} (W : WF a) (hn : 0 ≤ n ∧ n ≤ 99) (hc : 0 ≤ c ∧ c < 36) : 0 ≤ hW a n c ∧ hW a n c ≤ 60 := by
  obtain ⟨w0, w1, w2, w3, w4⟩ := W.1 c hc.1 hc.2
  have := zMulR hn w2
  unfold hW
  split <;> omega
theorem hW_0 {a : zMm} {c : Int} (W : WF a) (hc : 0 ≤ c ∧ c < 36) : hW a 0 c = a 1 c := by
  obtain ⟨w0, w1, w2, w3, w4⟩ := W.1 c hc.1 hc.2
  unfold hW
  split <;> omega
theorem hW_st {a : zMm} {n c : Int} (W : WF a) (hn : 0 ≤ n ∧ n ≤ 99) (hc : 0 ≤ c ∧ c < 36) : hW a (n + 1) c = if a 0 c ≤ 1 then min 60 (hW a n c + a 2 c) else 0 := by
  obtain ⟨w0, w1, w2, w3, w4⟩ := W.1 c hc.1 hc.2
  have := zMulR hn w2
  unfold hW
  rw [Int.add_mul, Int.one_mul]
  by_cases c1 : a 0 c ≤ 1
  · rw [if_pos c1, if_pos c1, if_pos c1]
    omega
  · rw [if_neg c1, if_neg c1]
theorem sX3_heightIn {S : zSh} {h : zMm} {K : Int → zMm → Prop} {o0 : Nat} {c n x s : Int} {Kd : Int → Int} (hg0 : zG3 S o0) (hK : zKd (h (o0 + 1)) Kd) (hc : 0 ≤ c ∧ c < 36) (hn : 0 ≤ n ∧ n ≤ 99) (e1 : h (o0 + 2) c = x) (e2 : h (o0 + 3) c = s) (hx : 0 ≤ x ∧ x ≤ 60) (hs : 0 ≤ s ∧ s ≤ 9) (w : K (if Kd c ≤ 1 then min 60 (x + n * s) else 0) h) : zCi mX3_heightIn [.ref o0, .int (zI c), .int (zI n)] S h K := by
  have := zMulR hn hs
  refine wX3_heightIn hg0 (sX3_isGrass' hg0 hK hc ?_)
  simp only [decide_eq_true_eq, decide_eq_false_iff_not]
  rw [e1, e2]
  refine ⟨fun c1 => ?_, fun c1 => ⟨hc, ⟨by omega, by omega⟩, ?_⟩⟩
  · rw [if_neg c1] at w
    exact w
  · rw [if_pos c1] at w
    exact w
/-- the greatest of the first n -/
def zMx (f : Int → Int) : Nat → Int
  | 0 => 0
  | n + 1 => max (zMx f n) (f (n : Int))
theorem zMx_R {f : Int → Int} : ∀ n : Nat, (∀ i : Int, 0 ≤ i → i < n → 0 ≤ f i ∧ f i ≤ 60) → 0 ≤ zMx f n ∧ zMx f n ≤ 60 := by
  intro n
  induction n with
  | zero => intro _; exact ⟨Int.le_refl _, by show (0 : Int) ≤ 60; decide⟩
  | succ n ih =>
    intro hf
    have h1 := ih (fun i i0 i1 => hf i i0 (by omega))
    have h2 := hf (n : Int) (by omega) (by omega)
    show 0 ≤ max (zMx f n) (f (n : Int)) ∧ max (zMx f n) (f (n : Int)) ≤ 60
    omega
def zWk (a : zMm) (n : Int) : zMm := fun o i => if o = 1 ∧ 0 ≤ i ∧ i < 36 then hW a n i else a o i
theorem zWk_at (a : zMm) (n : Int) : (∀ i : Int, 0 ≤ i → i < 36 → zWk a n 1 i = hW a n i) ∧ ∀ o : Nat, o ≠ 1 → zWk a n o = a o := by
  refine ⟨fun i i0 i1 => ?_, fun o c1 => ?_⟩
  · unfold zWk
    rw [if_pos ⟨rfl, i0, i1⟩]
  · funext i
    unfold zWk
    rw [if_neg (fun z => c1 z.1)]
def aWeek (a : zMm) (n : Int) : zMm := if 1 ≤ n ∧ n ≤ 99 then zWk a n else a
def fWeek (a : zMm) (n : Int) : Int := if 1 ≤ n ∧ n ≤ 99 then zMx (hW a n) 36 else -1
theorem wWeek {a : zMm} {n : Int} (W : WF a) : WF (aWeek a n) := by
  unfold aWeek
  by_cases c : 1 ≤ n ∧ n ≤ 99
  · rw [if_pos c]
    obtain ⟨e1, e2⟩ := zWk_at a n
    refine W.cells (fun o ho => e2 o (by omega)) (fun i i0 i1 => ?_) ?_ ?_
    · obtain ⟨w0, w1, w2, w3, w4⟩ := W.1 i i0 i1
      rw [e2 0 (by decide), e2 2 (by decide), e2 3 (by decide), e1 i i0 i1]
      refine ⟨w0, hW_R W (by omega) ⟨i0, i1⟩, w2, w3, fun d => ⟨?_, (w4 d).2⟩⟩
      unfold hW
      rw [if_neg (by omega)]
    · rw [e2 4 (by decide)]
      exact W.2.1
    · rw [e2 4 (by decide), e2 0 (by decide)]
      exact W.2.2.1
  · rw [if_neg c]
    exact W
theorem cWeek {a h : zMm} {v1 : Int} {K : Int → zMm → Prop} (W : WF a) (C : CR a h) (r1 : zR v1) (hK : ∀ h', CR (aWeek a v1) h' → zHi81 h h' → K (fWeek a v1) h') : zCi mX11_week [.ref 0, .int (zI v1)] zS0 h K := by
  unfold fWeek aWeek at hK
  refine wX11_week (sX11_isWithin r1 (by decide) (by decide) ?_)
  simp only [decide_eq_true_eq, decide_eq_false_iff_not]
  refine ⟨fun c => ?_, fun c => ?_⟩
  · rw [if_pos c, if_pos c] at hK
    obtain ⟨⟨q1, q2⟩, q3, q4⟩ := C.1
    obtain ⟨e1, e2⟩ := zWk_at a v1
    have key : ∀ (n k : Nat) (h' : zMm), k + n = 36 → (∀ o : Nat, o ≠ 12 → h' o = h o) → (∀ i : Int, 0 ≤ i → i < 36 → h' 12 i = if i < k then hW a v1 i else a 1 i) → RR mX11_week 0 0 16 [some (.ref 0), some (.int (zI v1)), some (.int (zI (zMx (hW a v1) k))), some (.int (zI (k : Int)))] [] zS0 h' (zQi zS0 K) := by
      intro n
      induction n with
      | zero =>
        intro k h' hk eo eh
        refine bX11_week_16 ⟨⟨by omega, by omega⟩, fun _ => ?_, fun d => absurd (by omega) d⟩
        rw [show k = 36 by omega] at eh ⊢
        refine hK h' (C.cells (fun o ho => e2 o (by omega)) (fun o c1 _ => eo o (by omega)) ⟨⟨fun i i0 i1 => ?_, fun r r0 r1 => ?_⟩, fun i i0 i1 => ?_, fun i i0 i1 => ?_⟩ (C.2.2.2.2.2.2.to ⟨e2 0 (by decide), e2 4 (by decide)⟩ ⟨eo _ (by decide), eo _ (by decide), eo _ (by decide)⟩)) (fun o ho => eo o (by omega))
        · rw [eo 11 (by decide), e2 0 (by decide)]
          exact q1 i i0 i1
        · rw [eo 15 (by decide), e2 4 (by decide)]
          exact q2 r r0 r1
        · rw [eh i i0 i1, if_pos (by omega), e1 i i0 i1, eo 14 (by decide), e2 3 (by decide)]
          exact ⟨rfl, (q3 i i0 i1).2⟩
        · rw [eo 13 (by decide), e2 2 (by decide)]
          exact q4 i i0 i1
      | succ n ih =>
        intro k h' hk eo eh
        obtain ⟨w0, w1, w2, w3, w4⟩ := W.1 (k : Int) (by omega) (by omega)
        have hr := hW_R (n := v1) (c := (k : Int)) W (by omega) ⟨by omega, by omega⟩
        have hm := zMx_R (f := hW a v1) k (fun i i0 i1 => hW_R W (by omega) ⟨i0, by omega⟩)
        have ex : h' (10 + 2) (k : Int) = a 1 (k : Int) := by
          rw [show (10 : Nat) + 2 = 12 from rfl, eh _ (by omega) (by omega), if_neg (by omega)]
        have es : h' (10 + 3) (k : Int) = a 2 (k : Int) := by
          rw [show (10 : Nat) + 3 = 13 from rfl, eo 13 (by decide)]
          exact q4 _ (by omega) (by omega)
        refine bX11_week_16 ⟨⟨by omega, by omega⟩, fun d => absurd d (by omega), fun _ => sX3_heightIn g0_10 (Kd := a 0) ?_ ⟨by omega, by omega⟩ (by omega) ex es w1 w2 ?_⟩
        · rw [show (10 : Nat) + 1 = 11 from rfl, eo 11 (by decide)]
          exact q1
        · rw [show (if a 0 (k : Int) ≤ 1 then min 60 (a 1 (k : Int) + v1 * a 2 (k : Int)) else 0) = hW a v1 (k : Int) from rfl]
          refine ⟨⟨by omega, by omega⟩, ⟨by omega, by omega⟩, ⟨by omega, by omega⟩, ?_⟩
          have := ih (k + 1) (zU h' 12 (k : Int) (hW a v1 (k : Int))) (by omega) (fun o ho => by rw [zU_off o ho]; exact eo o ho) (fun i i0 i1 => ?_)
          · rw [show (k : Int) + 1 = ((k + 1 : Nat) : Int) by omega]
            exact this
          · rw [zU_at]
            by_cases ci : i = (k : Int)
            · rw [if_pos ⟨rfl, ci⟩, if_pos (by omega), ci]
            · rw [if_neg (fun z => ci z.2), eh i i0 i1]
              by_cases cj : i < (k : Int)
              · rw [if_pos cj, if_pos (by omega)]
              · rw [if_neg cj, if_neg (by omega)]
    have := key 36 0 h (by decide) (fun _ _ => rfl) (fun i i0 i1 => by rw [if_neg (by omega)]; exact (q3 i i0 i1).1)
    exact this
  · rw [if_neg c, if_neg c] at hK
    exact hK h C (fun _ _ => rfl)
theorem sX12_grownTo {h : zMm} {K : Int → zMm → Prop} {c x s : Int} (hc : 0 ≤ c ∧ c < 36) (e1 : h 92 (36 + c) = x) (e2 : h 92 (108 + c) = s) (hx : 0 ≤ x ∧ x ≤ 60) (hs : 0 ≤ s ∧ s ≤ 9) (w : K (min 60 (x + s)) h) : zCi mX12_grownTo [.ref 81, .int (zI c)] zS0 h K := by
  refine wX12_grownTo ⟨⟨by omega, by omega⟩, ⟨by omega, by omega⟩, ?_⟩
  rw [e1, e2]
  refine ⟨⟨by omega, by omega⟩, ?_⟩
  rw [show (if x + s ≤ 60 then x + s else (60 : Int)) = min 60 (x + s) by split <;> omega]
  exact w
theorem mweek_in {a h : zMm} {v1 j : Int} {K : Int → zMm → Prop} (W : WF a) (A : mA a h) (hj : 0 ≤ j ∧ j < v1) (hv : v1 ≤ 99) (hK : ∀ h', (∀ o : Nat, o ≠ 92 → h' o = h o) → (∀ i : Int, ¬ (36 ≤ i ∧ i < 72) → h' 92 i = h 92 i) → (∀ i : Int, 0 ≤ i → i < 36 → h' 92 (36 + i) = hW a (j + 1) i) → RR mX12_week 0 0 22 [some (.ref 81), some (.int (zI v1)), some (.int (zI (zMx (hW a (j + 1)) 36))), some (.int (zI (j + 1))), none] [] zS0 h' (zQi zS0 K)) : ∀ (n k : Nat) (h' : zMm), k + n = 36 → (∀ o : Nat, o ≠ 92 → h' o = h o) → (∀ i : Int, ¬ (36 ≤ i ∧ i < 72) → h' 92 i = h 92 i) → (∀ i : Int, 0 ≤ i → i < 36 → h' 92 (36 + i) = if i < k then hW a (j + 1) i else hW a j i) → RR mX12_week 0 0 32 [some (.ref 81), some (.int (zI v1)), some (.int (zI (zMx (hW a (j + 1)) k))), some (.int (zI j)), some (.int (zI (k : Int)))] [] zS0 h' (zQi zS0 K) := by
  intro n
  induction n with
  | zero =>
    intro k h' hk eo ei eh
    refine bX12_week_32 ⟨⟨by omega, by omega⟩, fun _ => ?_, fun d => absurd (by omega) d⟩
    rw [show k = 36 by omega] at eh ⊢
    exact hK h' eo ei (fun i i0 i1 => by rw [eh i i0 i1, if_pos (by omega)])
  | succ n ih =>
    intro k h' hk eo ei eh
    obtain ⟨w0, w1, w2, w3, w4⟩ := W.1 (k : Int) (by omega) (by omega)
    have hr := hW_R (n := j + 1) (c := (k : Int)) W (by omega) ⟨by omega, by omega⟩
    have hm := zMx_R (f := hW a (j + 1)) k (fun i i0 i1 => hW_R W (by omega) ⟨i0, by omega⟩)
    have hst := hW_st (a := a) (n := j) (c := (k : Int)) W (by omega) ⟨by omega, by omega⟩
    have kd : zKd (h' 92) (a 0) := by
      intro i i0 i1
      rw [ei i (by omega)]
      exact A.1.1 i i0 i1
    have go : ∀ x : Int, x = hW a (j + 1) (k : Int) → ∀ y : Int, y = zMx (hW a (j + 1)) (k + 1) → RR mX12_week 0 0 32 [some (.ref 81), some (.int (zI v1)), some (.int (zI y)), some (.int (zI j)), some (.int (zI ((k : Int) + 1)))] [] zS0 (zU h' 92 (36 + (k : Int)) x) (zQi zS0 K) := by
      intro x ex y ey
      have := ih (k + 1) (zU h' 92 (36 + (k : Int)) x) (by omega) (fun o ho => by rw [zU_off o ho]; exact eo o ho) (fun i ci => by rw [zU_ne (by omega)]; exact ei i ci) (fun i i0 i1 => ?_)
      · rw [ey, show (k : Int) + 1 = ((k + 1 : Nat) : Int) by omega]
        exact this
      · rw [zU_at]
        by_cases ci : i = (k : Int)
        · rw [if_pos ⟨rfl, by omega⟩, if_pos (by omega), ci, ex]
        · rw [if_neg (fun z => ci (by omega)), eh i i0 i1]
          by_cases cj : i < (k : Int)
          · rw [if_pos cj, if_pos (by omega)]
          · rw [if_neg cj, if_neg (by omega)]
    have ez : zMx (hW a (j + 1)) (k + 1) = max (zMx (hW a (j + 1)) k) (hW a (j + 1) (k : Int)) := rfl
    refine bX12_week_32 ⟨⟨by omega, by omega⟩, fun d => absurd d (by omega), fun _ => sX12_isGrass kd ⟨by omega, by omega⟩ ?_⟩
    simp only [decide_eq_true_eq, decide_eq_false_iff_not]
    refine ⟨fun c => ⟨⟨by omega, by omega⟩, ⟨by omega, by omega⟩, fun d => go 0 ?_ _ ?_, fun d => absurd hm.1 d⟩, fun c => sX12_grownTo ⟨by omega, by omega⟩ (x := hW a j (k : Int)) (s := a 2 (k : Int)) ?_ ?_ (hW_R W (by omega) ⟨by omega, by omega⟩) w2 ⟨⟨by omega, by omega⟩, ⟨by omega, by omega⟩, ⟨by omega, by omega⟩, fun d => go _ ?_ _ ?_, fun d => go _ ?_ _ ?_⟩⟩
    · rw [hst, if_neg c]
    · rw [if_neg c] at hst
      rw [ez, hst]
      omega
    · rw [eh _ (by omega) (by omega), if_neg (by omega)]
    · rw [ei _ (by omega)]
      exact A.2 _ (by omega) (by omega)
    · rw [hst, if_pos c]
    · rw [if_pos c] at hst
      rw [ez, hst]
      omega
    · rw [hst, if_pos c]
    · rw [if_pos c] at hst
      rw [ez, hst]
      omega
theorem mWeek {a h : zMm} {v1 : Int} {K : Int → zMm → Prop} (W : WF a) (M : MR a h) (r1 : zR v1) (hK : ∀ h', MR (aWeek a v1) h' → zLo81 h h' → K (fWeek a v1) h') : zCi mX12_week [.ref 81, .int (zI v1)] zS0 h K := by
  unfold fWeek aWeek at hK
  refine wX12_week (sX12_awake M ?_)
  intro h1 M1 A1 L1
  refine ⟨r1, sX12_in r1 (by decide) (by decide) ?_⟩
  simp only [decide_eq_true_eq, decide_eq_false_iff_not]
  refine ⟨fun c => ?_, fun c => ?_⟩
  · rw [if_pos c, if_pos c] at hK
    obtain ⟨e1, e2⟩ := zWk_at a v1
    have on := mA.on M1 A1
    obtain ⟨⟨q1, q2, q3, q4, q5⟩, q6⟩ := id A1
    have key : ∀ (n : Nat) (j y : Int) (h' : zMm), 0 ≤ j → j + n = v1 → (j = 0 → y = 0) → (0 < j → y = zMx (hW a j) 36) → (∀ o : Nat, o ≠ 92 → h' o = h1 o) → (∀ i : Int, ¬ (36 ≤ i ∧ i < 72) → h' 92 i = h1 92 i) → (∀ i : Int, 0 ≤ i → i < 36 → h' 92 (36 + i) = hW a j i) → RR mX12_week 0 0 22 [some (.ref 81), some (.int (zI v1)), some (.int (zI y)), some (.int (zI j)), none] [] zS0 h' (zQi zS0 K) := by
      intro n
      induction n with
      | zero =>
        intro j y h' j0 jn y0 y1 eo ei eh
        refine bX12_week_22 ⟨⟨by omega, by omega⟩, r1, fun _ => ?_, fun d => absurd (by omega) d⟩
        have ej : j = v1 := by omega
        rw [ej] at eh y1
        rw [y1 (by omega)]
        refine hK h' (M1.state (fun o ho => e2 o (by omega)) (fun i _ => congrFun (e2 7 (by decide)) i) (fun o c1 _ => eo o c1) (fun i ci => ei i (by omega)) (Or.inl ⟨?_, ⟨fun i i0 i1 => ?_, fun r r0 r1 => ?_, ?_, fun i i0 i1 => ?_, fun i i0 i1 => ?_⟩, fun i i0 i1 => ?_⟩)) (L1.trans (fun o ho => eo o (by omega)))
        · rw [eo 81 (by decide)]
          exact on
        · rw [ei i (by omega), e2 0 (by decide)]
          exact q1 i i0 i1
        · rw [eo 88 (by decide), e2 4 (by decide)]
          exact q2 r r0 r1
        · rw [ei 192 (by omega), e2 7 (by decide)]
          exact q3
        · rw [e2 7 (by decide)] at i1
          rw [ei _ (by omega), ei _ (by omega), e2 5 (by decide), e2 6 (by decide)]
          exact q4 i i0 i1
        · rw [eh i i0 i1, e1 i i0 i1, ei _ (by omega), e2 3 (by decide)]
          exact ⟨rfl, (q5 i i0 i1).2⟩
        · rw [ei _ (by omega), e2 2 (by decide)]
          exact q6 i i0 i1
      | succ n ih =>
        intro j y h' j0 jn y0 y1 eo ei eh
        refine bX12_week_22 ⟨⟨by omega, by omega⟩, r1, fun d => absurd d (by omega), fun _ => ?_⟩
        exact mweek_in W A1 ⟨j0, by omega⟩ c.2 (fun h2 z1 z2 z3 => ih (j + 1) _ h2 (by omega) (by omega) (fun z => by omega) (fun _ => rfl) z1 z2 z3) 36 0 h' (by decide) eo ei (fun i i0 i1 => by rw [if_neg (by omega)]; exact eh i i0 i1)
    exact key v1.toNat 0 0 h1 (by decide) (by omega) (fun _ => rfl) (fun z => absurd z (by decide)) (fun _ _ => rfl) (fun _ _ => rfl) (fun i i0 i1 => by rw [hW_0 W ⟨i0, i1⟩]; exact (q5 i i0 i1).1)
  · rw [if_neg c, if_neg c] at hK
    exact hK h1 M1 L1
/-! high -/
theorem iF {p : Prop} [Decidable p] {x y : Int} : (if (if p then false else true) = true then x else y) = if p then y else x := by
  by_cases c : p
  · rw [if_pos c, if_pos c, if_neg (by decide)]
  · rw [if_neg c, if_neg c, if_pos rfl]
def gHi (a : zMm) (v w : Int) : Int → Bool := fun c => decide (a 0 c ≤ 1 ∧ (if w = 0 then v < a 1 c else (¬ v < a 1 c ∧ v < min 60 (a 1 c + a 2 c))))
def fHigh (a : zMm) (v w : Int) : Int := if (0 ≤ v ∧ v ≤ 60) ∧ (0 ≤ w ∧ w ≤ 1) then zB (gHi a v w) 36 else -1
theorem cHigh {a h : zMm} {v1 v2 : Int} {K : Int → zMm → Prop} (W : WF a) (C : CR a h) (r1 : zR v1) (r2 : zR v2) (hK : K (fHigh a v1 v2) h) : zCl mX11_high [.ref 0, .int (zI v1), .int (zI v2)] zS0 h K := by
  unfold fHigh at hK
  refine wX11_high (sX11_isWithin r1 (by decide) (by decide) ?_)
  simp only [decide_eq_true_eq, decide_eq_false_iff_not]
  refine ⟨fun c => ?_, fun c => sX11_isWithin r2 (by decide) (by decide) ?_⟩
  · rw [if_neg (fun z => c z.1)] at hK
    exact hK
  simp only [decide_eq_true_eq, decide_eq_false_iff_not]
  refine ⟨fun d => ?_, fun d => ?_⟩
  · rw [if_pos ⟨c, d⟩] at hK
    obtain ⟨⟨q1, q2⟩, q3, q4⟩ := C.1
    have key : ∀ (n k : Nat), k + n = 36 → RR mX11_high 0 0 28 [some (.ref 0), some (.int (zI v1)), some (.int (zI v2)), some (.long (zJ (zB (gHi a v1 v2) k))), none, some (.int (zI (k : Int))), none, none] [] zS0 h (zQl zS0 K) := by
      intro n
      induction n with
      | zero =>
        intro k hk
        refine bX11_high_28 ⟨⟨by omega, by omega⟩, fun _ => ?_, fun z => absurd (by omega) z⟩
        rw [show k = 36 by omega]
        exact hK
      | succ n ih =>
        intro k hk
        obtain ⟨w0, w1, w2, w3, w4⟩ := W.1 (k : Int) (by omega) (by omega)
        have e1 : h 12 (k : Int) = a 1 (k : Int) := (q3 _ (by omega) (by omega)).1
        have e2 : h (10 + 3) (k : Int) = a 2 (k : Int) := q4 _ (by omega) (by omega)
        refine bX11_high_28 ⟨⟨by omega, by omega⟩, fun z => absurd z (by omega), fun _ => ⟨⟨by omega, by omega⟩, ?_⟩⟩
        rw [e1]
        refine ⟨⟨by omega, by omega⟩, r1, sX3_heightIn g0_10 q1 ⟨by omega, by omega⟩ (by decide) e1 e2 w1 w2 ⟨by split <;> exact ⟨by omega, by omega⟩, r2, ?_⟩⟩
        have := ih (k + 1) (by omega)
        rw [show ((k + 1 : Nat) : Int) = (k : Int) + 1 by omega] at this
        have e : ∀ y, y = zB (gHi a v1 v2) (k + 1) → RR mX11_high 0 0 28 [some (.ref 0), some (.int (zI v1)), some (.int (zI v2)), some (.long (zJ y)), none, some (.int (zI ((k : Int) + 1))), none, none] [] zS0 h (zQl zS0 K) := by
          intro y ey
          rw [ey]
          exact this
        refine e _ ?_
        simp only [iF]
        by_cases g : gHi a v1 v2 (k : Int) = true
        · have g2 := of_decide_eq_true g
          rw [← zB_on (by omega) g]
          by_cases cw : v2 = 0
          · rw [if_pos cw] at g2 ⊢
            rw [if_neg (by omega)]
          · rw [if_neg cw] at g2 ⊢
            rw [if_pos g2.1, Int.one_mul, if_neg (by omega), if_pos (by omega)]
        · have g1 : gHi a v1 v2 (k : Int) = false := by simpa using g
          have g2 := of_decide_eq_false g1
          rw [zB_off g1]
          by_cases cw : v2 = 0
          · rw [if_pos cw] at g2 ⊢
            by_cases c2 : a 0 (k : Int) ≤ 1
            · rw [if_pos (by omega)]
            · have := w4 (by omega)
              rw [if_pos (by omega)]
          · rw [if_neg cw] at g2 ⊢
            by_cases c1 : a 1 (k : Int) ≤ v1
            · rw [if_pos c1]
              by_cases c2 : a 0 (k : Int) ≤ 1
              · rw [if_pos c2, Int.one_mul, if_pos (by omega)]
              · rw [if_neg c2, if_pos c.1]
            · rw [if_neg c1]
              exact ite_self _
    exact key 36 0 (by decide)
  · rw [if_neg (fun z => d z.2)] at hK
    exact hK
theorem mHigh {a h : zMm} {v1 v2 : Int} {K : Int → zMm → Prop} (W : WF a) (M : MR a h) (r1 : zR v1) (r2 : zR v2) (hK : ∀ h', MR a h' → zLo81 h h' → K (fHigh a v1 v2) h') : zCl mX12_high [.ref 81, .int (zI v1), .int (zI v2)] zS0 h K := by
  refine wX12_high (sX12_awake M ?_)
  intro h1 M1 A1 L1
  have hK := hK h1 M1 L1
  unfold fHigh at hK
  refine ⟨r1, sX12_in r1 (by decide) (by decide) ?_⟩
  simp only [decide_eq_true_eq, decide_eq_false_iff_not]
  refine ⟨fun c => ?_, fun c => ⟨r2, sX12_in r2 (by decide) (by decide) ?_⟩⟩
  · rw [if_neg (fun z => c z.1)] at hK
    exact hK
  simp only [decide_eq_true_eq, decide_eq_false_iff_not]
  refine ⟨fun d => ?_, fun d => ?_⟩
  · rw [if_pos ⟨c, d⟩] at hK
    have key : ∀ (n k : Nat), k + n = 36 → RR mX12_high 0 0 35 [some (.ref 81), some (.int (zI v1)), some (.int (zI v2)), some (.long (zJ (zB (gHi a v1 v2) k))), none, some (.int (zI (k : Int))), none, none] [] zS0 h1 (zQl zS0 K) := by
      intro n
      induction n with
      | zero =>
        intro k hk
        refine bX12_high_35 ⟨⟨by omega, by omega⟩, fun _ => ?_, fun z => absurd (by omega) z⟩
        rw [show k = 36 by omega]
        exact hK
      | succ n ih =>
        intro k hk
        obtain ⟨w0, w1, w2, w3, w4⟩ := W.1 (k : Int) (by omega) (by omega)
        have e1 : h1 92 (36 + (k : Int)) = a 1 (k : Int) := (A1.1.2.2.2.2 _ (by omega) (by omega)).1
        have e2 : h1 92 (108 + (k : Int)) = a 2 (k : Int) := A1.2 _ (by omega) (by omega)
        have this := ih (k + 1) (by omega)
        rw [show ((k + 1 : Nat) : Int) = (k : Int) + 1 by omega] at this
        have e : ∀ y, y = zB (gHi a v1 v2) (k + 1) → RR mX12_high 0 0 35 [some (.ref 81), some (.int (zI v1)), some (.int (zI v2)), some (.long (zJ y)), none, some (.int (zI ((k : Int) + 1))), none, none] [] zS0 h1 (zQl zS0 K) := by
          intro y ey
          rw [ey]
          exact this
        have hB := zB_R (P := gHi a v1 v2) (n := k) (by omega)
        have on : gHi a v1 v2 (k : Int) = true → lO (zB (gHi a v1 v2) k) (lSl 1 (k : Int)) = zB (gHi a v1 v2) (k + 1) := fun g => zB_on (by omega) g
        have off : gHi a v1 v2 (k : Int) = false → lO (zB (gHi a v1 v2) k) 0 = zB (gHi a v1 v2) (k + 1) := fun g => by rw [lO_0 ⟨by omega, by omega⟩, zB_off g]
        refine bX12_high_35 ⟨⟨by omega, by omega⟩, fun z => absurd z (by omega), fun _ => ⟨⟨by omega, by omega⟩, ?_⟩⟩
        rw [e1]
        refine ⟨⟨by omega, by omega⟩, r1, r2, fun f => ⟨fun g => sX12_isGrass A1.1.1 ⟨by omega, by omega⟩ (e _ ?_), fun g => sX12_grownTo ⟨by omega, by omega⟩ e1 e2 w1 w2 ⟨⟨by omega, by omega⟩, sX12_isGrass A1.1.1 ⟨by omega, by omega⟩ (e _ ?_)⟩⟩, fun f => sX12_isGrass A1.1.1 ⟨by omega, by omega⟩ (e _ ?_)⟩
        · refine off (decide_eq_false (fun z => ?_))
          rw [if_neg f] at z
          by_cases c1 : a 1 (k : Int) ≤ v1
          · rw [if_pos c1] at g
            cases g
          · exact z.2.1 (by omega)
        · have c1 : a 1 (k : Int) ≤ v1 := by
            by_cases c1 : a 1 (k : Int) ≤ v1
            · exact c1
            · rw [if_neg c1] at g
              cases g
          by_cases c2 : a 0 (k : Int) ≤ 1
          · rw [if_pos (decide_eq_true c2)]
            by_cases c3 : min 60 (a 1 (k : Int) + a 2 (k : Int)) ≤ v1
            · rw [if_pos c3, if_neg (by decide)]
              refine off (decide_eq_false (fun z => ?_))
              rw [if_neg f] at z
              omega
            · rw [if_neg c3, if_pos rfl]
              refine on (decide_eq_true ?_)
              rw [if_neg f]
              omega
          · rw [if_neg (fun z => c2 (of_decide_eq_true z))]
            exact off (decide_eq_false (fun z => c2 z.1))
        · by_cases c2 : a 0 (k : Int) ≤ 1
          · rw [if_pos (decide_eq_true c2)]
            by_cases c3 : a 1 (k : Int) ≤ v1
            · rw [if_pos c3, if_neg (by decide)]
              refine off (decide_eq_false (fun z => ?_))
              rw [if_pos f] at z
              omega
            · rw [if_neg c3, if_pos rfl]
              refine on (decide_eq_true ?_)
              rw [if_pos f]
              omega
          · rw [if_neg (fun z => c2 (of_decide_eq_true z))]
            exact off (decide_eq_false (fun z => c2 z.1))
    exact key 36 0 (by decide)
  · rw [if_neg (fun z => d z.2)] at hK
    exact hK
