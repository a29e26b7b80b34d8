/-! weeks -/
def gCan (a : zMm) (v c : Int) : Prop := a 0 c ≤ 1 ∧ v < 60 ∧ (v + 1 - a 1 c ≤ 0 ∨ 0 < a 2 c)
def gNd (a : zMm) (v c : Int) : Int := if v + 1 - a 1 c ≤ 0 then 0 else (v + 1 - a 1 c + a 2 c - 1) / a 2 c
theorem gDv {x s n : Int} (hs : 1 ≤ s ∧ s ≤ 9) : (x + s - 1) / s ≤ n ↔ x ≤ n * s := by
  rcases (show s = 1 ∨ s = 2 ∨ s = 3 ∨ s = 4 ∨ s = 5 ∨ s = 6 ∨ s = 7 ∨ s = 8 ∨ s = 9 by omega) with e | e | e | e | e | e | e | e | e <;> (subst e; omega)
theorem gDw {x s : Int} (hs : 1 ≤ s ∧ s ≤ 9) (hx : 1 ≤ x ∧ x ≤ 60) : 0 ≤ (x + s - 1) / s ∧ (x + s - 1) / s ≤ 60 := by
  rcases (show s = 1 ∨ s = 2 ∨ s = 3 ∨ s = 4 ∨ s = 5 ∨ s = 6 ∨ s = 7 ∨ s = 8 ∨ s = 9 by omega) with e | e | e | e | e | e | e | e | e <;> (subst e; omega)
theorem gNd_R {a : zMm} {v c : Int} (W : WF a) (hv : 0 ≤ v ∧ v ≤ 60) (hc : 0 ≤ c ∧ c < 36) (H : gCan a v c) : 0 ≤ gNd a v c ∧ gNd a v c ≤ 60 := by
  obtain ⟨w0, w1, w2, w3, w4⟩ := W.1 c hc.1 hc.2
  obtain ⟨c1, c2, c3⟩ := H
  unfold gNd
  split
  · exact ⟨by decide, by decide⟩
  · exact gDw ⟨by omega, by omega⟩ ⟨by omega, by omega⟩
theorem gHv {a : zMm} {v c n : Int} (W : WF a) (hv : 0 ≤ v ∧ v ≤ 60) (hc : 0 ≤ c ∧ c < 36) (hn : 0 ≤ n ∧ n ≤ 99) : v < hW a n c ↔ gCan a v c ∧ gNd a v c ≤ n := by
  obtain ⟨w0, w1, w2, w3, w4⟩ := W.1 c hc.1 hc.2
  have hm := zMulR hn w2
  unfold hW gCan gNd
  by_cases c1 : a 0 c ≤ 1
  · rw [if_pos c1]
    by_cases c2 : v + 1 - a 1 c ≤ 0
    · rw [if_pos c2]
      omega
    · rw [if_neg c2]
      by_cases c3 : a 2 c = 0
      · have : n * a 2 c = 0 := by rw [c3, Int.mul_zero]
        omega
      · have := gDv (x := v + 1 - a 1 c) (s := a 2 c) (n := n) ⟨by omega, by omega⟩
        rw [this]
        omega
  · rw [if_neg c1]
    omega
/-- the least of the first n -/
def gBw (a : zMm) (v : Int) : Nat → Int
  | 0 => -4
  | n + 1 => if a 0 (n : Int) ≤ 1 ∧ v < 60 ∧ (v + 1 - a 1 (n : Int) ≤ 0 ∨ 0 < a 2 (n : Int)) then (if gBw a v n = -4 then gNd a v (n : Int) else if gBw a v n ≤ gNd a v (n : Int) then gBw a v n else gNd a v (n : Int)) else gBw a v n
theorem gBw_is {a : zMm} {v : Int} (W : WF a) (hv : 0 ≤ v ∧ v ≤ 60) : ∀ n : Nat, n ≤ 36 → (gBw a v n = -4 ∧ ∀ c : Int, 0 ≤ c → c < n → ¬ gCan a v c) ∨ (0 ≤ gBw a v n ∧ gBw a v n ≤ 60 ∧ (∃ c : Int, 0 ≤ c ∧ c < n ∧ gCan a v c ∧ gNd a v c = gBw a v n) ∧ ∀ c : Int, 0 ≤ c → c < n → gCan a v c → gBw a v n ≤ gNd a v c) := by
  intro n
  induction n with
  | zero => intro _; exact Or.inl ⟨rfl, fun c c0 c1 => absurd c1 (by omega)⟩
  | succ n ih =>
    intro hn
    have ih := ih (by omega)
    unfold gBw
    by_cases g : a 0 (n : Int) ≤ 1 ∧ v < 60 ∧ (v + 1 - a 1 (n : Int) ≤ 0 ∨ 0 < a 2 (n : Int))
    · rw [if_pos g]
      have hr := gNd_R (c := (n : Int)) W hv ⟨by omega, by omega⟩ g
      right
      rcases ih with ⟨i1, i2⟩ | ⟨i1, i2, ⟨c0, d1, d2, d3, d4⟩, i4⟩
      · rw [if_pos i1]
        refine ⟨hr.1, hr.2, ⟨(n : Int), by omega, by omega, g, rfl⟩, fun c c0 c1 cc => ?_⟩
        by_cases ce : c = (n : Int)
        · rw [ce]
          exact Int.le_refl _
        · exact absurd cc (i2 c c0 (by omega))
      · rw [if_neg (by omega)]
        by_cases ce : gBw a v n ≤ gNd a v (n : Int)
        · rw [if_pos ce]
          refine ⟨i1, i2, ⟨c0, d1, by omega, d3, d4⟩, fun c e0 e1 cc => ?_⟩
          by_cases cf : c = (n : Int)
          · rw [cf]
            exact ce
          · exact i4 c e0 (by omega) cc
        · rw [if_neg ce]
          refine ⟨hr.1, hr.2, ⟨(n : Int), by omega, by omega, g, rfl⟩, fun c e0 e1 cc => ?_⟩
          by_cases cf : c = (n : Int)
          · rw [cf]
            exact Int.le_refl _
          · have := i4 c e0 (by omega) cc
            omega
    · rw [if_neg g]
      rcases ih with ⟨i1, i2⟩ | ⟨i1, i2, ⟨c0, d1, d2, d3, d4⟩, i4⟩
      · left
        refine ⟨i1, fun c e0 e1 cc => ?_⟩
        by_cases cf : c = (n : Int)
        · rw [cf] at cc
          exact g cc
        · exact i2 c e0 (by omega) cc
      · right
        refine ⟨i1, i2, ⟨c0, d1, by omega, d3, d4⟩, fun c e0 e1 cc => ?_⟩
        by_cases cf : c = (n : Int)
        · rw [cf] at cc
          exact absurd cc g
        · exact i4 c e0 (by omega) cc
def fWeeks (a : zMm) (v : Int) : Int := if 0 ≤ v ∧ v ≤ 60 then gBw a v 36 else -1
theorem weeksc_in {a h : zMm} {v1 n : Int} {K : Int → zMm → Prop} (W : WF a) (C : CR a h) (hv : 0 ≤ v1 ∧ v1 ≤ 60) (hn : 0 ≤ n ∧ n ≤ 60) (hT : ∀ c : Int, 0 ≤ c → c < 36 → v1 < hW a n c → K n h) (hF : (∀ c : Int, 0 ≤ c → c < 36 → ¬ v1 < hW a n c) → RR mX11_weeks 0 0 14 [some (.ref 0), some (.int (zI v1)), some (.int (zI (n + 1))), none] [] zS0 h (zQi zS0 K)) : ∀ (m k : Nat), k + m = 36 → (∀ c : Int, 0 ≤ c → c < k → ¬ v1 < hW a n c) → RR mX11_weeks 0 0 22 [some (.ref 0), some (.int (zI v1)), some (.int (zI n)), some (.int (zI (k : Int)))] [] zS0 h (zQi zS0 K) := by
  obtain ⟨⟨q1, q2⟩, q3, q4⟩ := C.1
  intro m
  induction m with
  | zero =>
    intro k hk hc
    refine bX11_weeks_22 ⟨⟨by omega, by omega⟩, fun _ => hF (fun c c0 c1 => hc c c0 (by omega)), fun d => absurd (by omega) d⟩
  | succ m ih =>
    intro k hk hc
    obtain ⟨w0, w1, w2, w3, w4⟩ := W.1 (k : Int) (by omega) (by omega)
    have hr := hW_R (n := n) (c := (k : Int)) W (by omega) ⟨by omega, by omega⟩
    refine bX11_weeks_22 ⟨⟨by omega, by omega⟩, fun d => absurd d (by omega), fun _ => sX3_heightIn g0_10 q1 ⟨by omega, by omega⟩ (by omega) (q3 _ (by omega) (by omega)).1 (q4 _ (by omega) (by omega)) w1 w2 ?_⟩
    rw [show (if a 0 (k : Int) ≤ 1 then min 60 (a 1 (k : Int) + n * a 2 (k : Int)) else 0) = hW a n (k : Int) from rfl]
    refine ⟨⟨by omega, by omega⟩, ⟨by omega, by omega⟩, fun d => ?_, fun d => hT (k : Int) (by omega) (by omega) (by omega)⟩
    rw [show (k : Int) + 1 = ((k + 1 : Nat) : Int) by omega]
    refine ih (k + 1) (by omega) (fun c c0 c1 => ?_)
    by_cases ce : c = (k : Int)
    · rw [ce]
      omega
    · exact hc c c0 (by omega)
theorem cWeeks {a h : zMm} {v1 : Int} {K : Int → zMm → Prop} (W : WF a) (C : CR a h) (r1 : zR v1) (hK : K (fWeeks a v1) h) : zCi mX11_weeks [.ref 0, .int (zI v1)] zS0 h K := by
  unfold fWeeks at hK
  refine wX11_weeks (sX11_isWithin r1 (by decide) (by decide) ?_)
  simp only [decide_eq_true_eq, decide_eq_false_iff_not]
  refine ⟨fun c => ?_, fun c => ?_⟩
  · rw [if_pos c] at hK
    have hB := gBw_is W c 36 (by decide)
    have key : ∀ (m : Nat) (n : Int), 0 ≤ n → n + m = 61 → (0 ≤ gBw a v1 36 → n ≤ gBw a v1 36) → RR mX11_weeks 0 0 14 [some (.ref 0), some (.int (zI v1)), some (.int (zI n)), none] [] zS0 h (zQi zS0 K) := by
      intro m
      induction m with
      | zero =>
        intro n n0 nm hn
        refine bX11_weeks_14 ⟨⟨by omega, by omega⟩, fun _ => ?_, fun d => absurd (by omega) d⟩
        rcases hB with ⟨i1, i2⟩ | ⟨i1, i2, i3, i4⟩
        · rw [i1] at hK
          exact hK
        · have := hn i1
          omega
      | succ m ih =>
        intro n n0 nm hn
        refine bX11_weeks_14 ⟨⟨by omega, by omega⟩, fun d => absurd d (by omega), fun _ => weeksc_in W C c ⟨n0, by omega⟩ (fun d d0 d1 dd => ?_) (fun dd => ih (n + 1) (by omega) (by omega) (fun hb => ?_)) 36 0 (by decide) (fun d d0 d1 => absurd d1 (by omega))⟩
        · obtain ⟨f1, f2⟩ := (gHv W c ⟨d0, d1⟩ ⟨n0, by omega⟩).1 dd
          rcases hB with ⟨i1, i2⟩ | ⟨i1, i2, i3, i4⟩
          · exact absurd f1 (i2 d d0 d1)
          · have h1 := i4 d d0 d1 f1
            have h2 := hn i1
            rw [show n = gBw a v1 36 by omega]
            exact hK
        · rcases hB with ⟨i1, i2⟩ | ⟨i1, i2, ⟨c0, d1, d2, d3, d4⟩, i4⟩
          · omega
          · have h2 := hn i1
            have h3 := dd c0 d1 d2
            have h4 := (gHv W c ⟨d1, d2⟩ ⟨n0, by omega⟩).2
            by_cases he : n = gBw a v1 36
            · exact absurd (h4 ⟨d3, by omega⟩) h3
            · omega
    exact key 61 0 (by decide) (by decide) (fun z => z)
  · rw [if_neg c] at hK
    exact hK
theorem mWeeks {a h : zMm} {v1 : Int} {K : Int → zMm → Prop} (W : WF a) (M : MR a h) (r1 : zR v1) (hK : ∀ h', MR a h' → zLo81 h h' → K (fWeeks a v1) h') : zCi mX12_weeks [.ref 81, .int (zI v1)] zS0 h K := by
  refine wX12_weeks (sX12_awake M ?_)
  intro h1 M1 A1 L1
  have hK := hK h1 M1 L1
  unfold fWeeks at hK
  refine ⟨r1, sX12_in r1 (by decide) (by decide) ?_⟩
  simp only [decide_eq_true_eq, decide_eq_false_iff_not]
  refine ⟨fun c => ?_, fun c => ?_⟩
  · rw [if_pos c] at hK
    have key : ∀ (m k : Nat), k + m = 36 → RR mX12_weeks 0 0 23 [some (.ref 81), some (.int (zI v1)), some (.int (zI (gBw a v1 k))), some (.int (zI (k : Int))), none, none, none, none] [] zS0 h1 (zQi zS0 K) := by
      intro m
      induction m with
      | zero =>
        intro k hk
        refine bX12_weeks_23 ⟨⟨by omega, by omega⟩, fun _ => ?_, fun d => absurd (by omega) d⟩
        rw [show k = 36 by omega]
        exact hK
      | succ m ih =>
        intro k hk
        obtain ⟨w0, w1, w2, w3, w4⟩ := W.1 (k : Int) (by omega) (by omega)
        have e1 : h1 92 (36 + (k : Int)) = a 1 (k : Int) := (A1.1.2.2.2.2 _ (by omega) (by omega)).1
        have e2 : h1 92 (108 + (k : Int)) = a 2 (k : Int) := A1.2 _ (by omega) (by omega)
        have this := ih (k + 1) (by omega)
        rw [show ((k + 1 : Nat) : Int) = (k : Int) + 1 by omega] at this
        have e : ∀ y, y = gBw a v1 (k + 1) → RR mX12_weeks 0 0 23 [some (.ref 81), some (.int (zI v1)), some (.int (zI y)), some (.int (zI ((k : Int) + 1))), none, none, none, none] [] zS0 h1 (zQi zS0 K) := by
          intro y ey
          rw [ey]
          exact this
        have hB : zR (gBw a v1 k) := by
          rcases gBw_is W c k (by omega) with ⟨i1, i2⟩ | ⟨i1, i2, i3, i4⟩ <;> exact ⟨by omega, by omega⟩
        refine bX12_weeks_23 ⟨⟨by omega, by omega⟩, fun z => absurd z (by omega), fun _ => ⟨⟨by omega, by omega⟩, ⟨by omega, by omega⟩, sX12_isGrass A1.1.1 ⟨by omega, by omega⟩ ?_⟩⟩
        rw [e1, e2]
        have hT : ((if decide (a 0 (k : Int) ≤ 1) = true then (if 60 ≤ v1 then false else (if ((v1 + 1) - (a 1 (k : Int))) ≤ 0 then true else (if (a 2 (k : Int)) ≤ 0 then false else true))) else false) = true) ↔ (a 0 (k : Int) ≤ 1 ∧ v1 < 60 ∧ (v1 + 1 - a 1 (k : Int) ≤ 0 ∨ 0 < a 2 (k : Int))) := by
          by_cases c1 : a 0 (k : Int) ≤ 1
          · rw [if_pos (decide_eq_true c1)]
            by_cases c2 : 60 ≤ v1
            · rw [if_pos c2]
              exact ⟨fun z => (by cases z), fun z => absurd z.2.1 (by omega)⟩
            · rw [if_neg c2]
              by_cases c3 : v1 + 1 - a 1 (k : Int) ≤ 0
              · rw [if_pos c3]
                exact ⟨fun _ => ⟨c1, by omega, Or.inl c3⟩, fun _ => rfl⟩
              · rw [if_neg c3]
                by_cases c4 : a 2 (k : Int) ≤ 0
                · rw [if_pos c4]
                  exact ⟨fun z => (by cases z), fun z => absurd z.2.2 (by omega)⟩
                · rw [if_neg c4]
                  exact ⟨fun _ => ⟨c1, by omega, Or.inr (by omega)⟩, fun _ => rfl⟩
          · rw [if_neg (fun z => c1 (of_decide_eq_true z))]
            exact ⟨fun z => (by cases z), fun z => absurd z.1 c1⟩
        generalize (if decide (a 0 (k : Int) ≤ 1) = true then (if 60 ≤ v1 then false else (if ((v1 + 1) - (a 1 (k : Int))) ≤ 0 then true else (if (a 2 (k : Int)) ≤ 0 then false else true))) else false) = b at hT ⊢
        have es : gBw a v1 (k + 1) = if a 0 (k : Int) ≤ 1 ∧ v1 < 60 ∧ (v1 + 1 - a 1 (k : Int) ≤ 0 ∨ 0 < a 2 (k : Int)) then (if gBw a v1 k = -4 then gNd a v1 (k : Int) else if gBw a v1 k ≤ gNd a v1 (k : Int) then gBw a v1 k else gNd a v1 (k : Int)) else gBw a v1 k := rfl
        refine ⟨r1, ⟨by omega, by omega⟩, ⟨by omega, by omega⟩, fun hb => ?_, fun hb => ⟨hB, e _ ?_⟩⟩
        · have hc := hT.1 hb
          rw [if_pos hc] at es
          refine ⟨fun d => ?_, fun d => ⟨hB, e _ ?_⟩⟩
          · have en : gNd a v1 (k : Int) = (v1 + 1 - a 1 (k : Int) + a 2 (k : Int) - 1) / a 2 (k : Int) := by
              unfold gNd
              rw [if_neg (by omega)]
            have hr := gNd_R (c := (k : Int)) W c ⟨by omega, by omega⟩ hc
            rw [← en]
            refine ⟨⟨by omega, by omega⟩, ⟨by omega, by omega⟩, hB, ⟨by omega, by omega⟩, e _ ?_⟩
            rw [if_pos hb, es]
          · have en : gNd a v1 (k : Int) = 0 := by
              unfold gNd
              rw [if_pos (by omega)]
            rw [if_pos hb, es, en]
        · have hc : ¬ (a 0 (k : Int) ≤ 1 ∧ v1 < 60 ∧ (v1 + 1 - a 1 (k : Int) ≤ 0 ∨ 0 < a 2 (k : Int))) := fun z => by
            have := hT.2 z
            rw [hb] at this
            cases this
          rw [if_neg hc] at es
          rw [es, hb, if_neg (by decide)]
    exact key 36 0 (by decide)
  · rw [if_neg c] at hK
    exact hK
/-! stripes -/
def gSk (a : zMm) (c : Int) : Int := if a 3 c = -4 then 2 else if a 3 c = (if c % 2 = 0 then 0 else 2) then 0 else 1
def gSt (a : zMm) (w : Int) : Int → Bool := fun c => decide (a 0 c ≤ 1 ∧ gSk a c = w)
def fStripes (a : zMm) (w : Int) : Int := if 0 ≤ w ∧ w ≤ 2 then zN36 (gSt a w) 36 else -1
theorem gSk_R (a : zMm) (c : Int) : 0 ≤ gSk a c ∧ gSk a c ≤ 2 := by
  unfold gSk
  split
  · omega
  · split <;> (split <;> omega)
theorem cStripes {a h : zMm} {v1 : Int} {K : Int → zMm → Prop} (W : WF a) (C : CR a h) (r1 : zR v1) (hK : K (fStripes a v1) h) : zCi mX11_stripes [.ref 0, .int (zI v1)] zS0 h K := by
  unfold fStripes at hK
  refine wX11_stripes (sX11_isWithin r1 (by decide) (by decide) ?_)
  simp only [decide_eq_true_eq, decide_eq_false_iff_not]
  refine ⟨fun c => ?_, fun c => ?_⟩
  · rw [if_pos c] at hK
    obtain ⟨⟨q1, q2⟩, q3, q4⟩ := C.1
    have key : ∀ (m k : Nat), k + m = 36 → RR mX11_stripes 0 0 15 [some (.ref 0), some (.int (zI v1)), some (.int (zI (zN36 (gSt a v1) k))), some (.int (zI (k : Int)))] [] zS0 h (zQi zS0 K) := by
      intro m
      induction m with
      | zero =>
        intro k hk
        refine bX11_stripes_15 ⟨⟨by omega, by omega⟩, fun _ => ?_, fun d => absurd (by omega) d⟩
        rw [show k = 36 by omega]
        exact hK
      | succ m ih =>
        intro k hk
        obtain ⟨w0, w1, w2, w3, w4⟩ := W.1 (k : Int) (by omega) (by omega)
        have e1 : h (10 + 4) (k : Int) = a 3 (k : Int) := (q3 _ (by omega) (by omega)).2
        have this := ih (k + 1) (by omega)
        rw [show ((k + 1 : Nat) : Int) = (k : Int) + 1 by omega] at this
        have e : ∀ y, y = zN36 (gSt a v1) (k + 1) → RR mX11_stripes 0 0 15 [some (.ref 0), some (.int (zI v1)), some (.int (zI y)), some (.int (zI ((k : Int) + 1)))] [] zS0 h (zQi zS0 K) := by
          intro y ey
          rw [ey]
          exact this
        have es : zN36 (gSt a v1) (k + 1) = if gSt a v1 (k : Int) = true then zN36 (gSt a v1) k + 1 else zN36 (gSt a v1) k := rfl
        have hk2 := gSk_R a (k : Int)
        refine bX11_stripes_15 ⟨⟨by omega, by omega⟩, fun z => absurd z (by omega), fun _ => sX3_isGrass' g0_10 q1 ⟨by omega, by omega⟩ ?_⟩
        simp only [decide_eq_true_eq, decide_eq_false_iff_not]
        refine ⟨fun d => e _ ?_, fun d => wX3_stripeOf g0_10 (sX11_isCell ⟨by omega, by omega⟩ ?_)⟩
        · rw [es, if_neg (show ¬ gSt a v1 (k : Int) = true from fun z => d (of_decide_eq_true z).1)]
        have fin : ∀ x, x = gSk a (k : Int) → zR x ∧ zR v1 ∧ RR mX11_stripes 0 0 15 [some (.ref 0), some (.int (zI v1)), some (.int (zI (if x = v1 then zN36 (gSt a v1) k + 1 else zN36 (gSt a v1) k))), some (.int (zI ((k : Int) + 1)))] [] zS0 h (zQi zS0 K) := by
          intro x ex
          refine ⟨⟨by omega, by omega⟩, r1, e _ ?_⟩
          rw [es, ex]
          by_cases f : gSk a (k : Int) = v1
          · rw [if_pos f, if_pos (show gSt a v1 (k : Int) = true from decide_eq_true ⟨d, f⟩)]
          · rw [if_neg f, if_neg (show ¬ gSt a v1 (k : Int) = true from fun z => f (of_decide_eq_true z).2)]
        simp only [decide_eq_true_eq, decide_eq_false_iff_not]
        rw [e1]
        refine ⟨fun z => absurd (by omega) z, fun _ => ⟨⟨by omega, by omega⟩, ⟨by omega, by omega⟩, fun f => ⟨⟨by omega, by omega⟩, ⟨by omega, by omega⟩, by split <;> exact ⟨by decide, by decide⟩, fin _ ?_⟩, fun f => fin _ ?_⟩⟩
        · unfold gSk
          rw [if_neg f, show ((k : Int) % 6) % 2 = (k : Int) % 2 by omega]
          by_cases g : a 3 (k : Int) = (if (k : Int) % 2 = 0 then (0 : Int) else (2 : Int))
          · rw [if_pos g, if_pos g]
            rfl
          · rw [if_neg g, if_neg g]
            rfl
        · unfold gSk
          rw [if_pos f]
    exact key 36 0 (by decide)
  · rw [if_neg c] at hK
    exact hK
theorem mStripes {a h : zMm} {v1 : Int} {K : Int → zMm → Prop} (W : WF a) (M : MR a h) (r1 : zR v1) (hK : ∀ h', MR a h' → zLo81 h h' → K (fStripes a v1) h') : zCi mX12_stripes [.ref 81, .int (zI v1)] zS0 h K := by
  refine wX12_stripes (sX12_awake M ?_)
  intro h1 M1 A1 L1
  have hK := hK h1 M1 L1
  unfold fStripes at hK
  refine ⟨r1, sX12_in r1 (by decide) (by decide) ?_⟩
  simp only [decide_eq_true_eq, decide_eq_false_iff_not]
  refine ⟨fun c => ?_, fun c => ?_⟩
  · rw [if_pos c] at hK
    have key : ∀ (m k : Nat), k + m = 36 → RR mX12_stripes 0 0 22 [some (.ref 81), some (.int (zI v1)), some (.int (zI (zN36 (gSt a v1) k))), some (.int (zI (k : Int))), none, none, none] [] zS0 h1 (zQi zS0 K) := by
      intro m
      induction m with
      | zero =>
        intro k hk
        refine bX12_stripes_22 ⟨⟨by omega, by omega⟩, fun _ => ?_, fun d => absurd (by omega) d⟩
        rw [show k = 36 by omega]
        exact hK
      | succ m ih =>
        intro k hk
        obtain ⟨w0, w1, w2, w3, w4⟩ := W.1 (k : Int) (by omega) (by omega)
        have e1 : h1 92 (72 + (k : Int)) = zPi (a 3 (k : Int)) := (A1.1.2.2.2.2 _ (by omega) (by omega)).2
        obtain ⟨p1, p2, p3, p4⟩ := zPi_b w3
        have this := ih (k + 1) (by omega)
        rw [show ((k + 1 : Nat) : Int) = (k : Int) + 1 by omega] at this
        have e : ∀ y, y = zN36 (gSt a v1) (k + 1) → RR mX12_stripes 0 0 22 [some (.ref 81), some (.int (zI v1)), some (.int (zI y)), some (.int (zI ((k : Int) + 1))), none, none, none] [] zS0 h1 (zQi zS0 K) := by
          intro y ey
          rw [ey]
          exact this
        have es : zN36 (gSt a v1) (k + 1) = if gSt a v1 (k : Int) = true then zN36 (gSt a v1) k + 1 else zN36 (gSt a v1) k := rfl
        have hk2 := gSk_R a (k : Int)
        have ek : (if zPi (a 3 (k : Int)) = 0 then (2 : Int) else (if zPi (a 3 (k : Int)) = (if (k : Int) % 2 = 0 then (1 : Int) else (3 : Int)) then (0 : Int) else (1 : Int))) = gSk a (k : Int) := by
          unfold gSk
          by_cases f : a 3 (k : Int) = -4
          · rw [if_pos f, if_pos (p1.2 f)]
          · have f2 : ¬ zPi (a 3 (k : Int)) = 0 := fun z => f (p1.1 z)
            have f3 := p4 f2
            rw [if_neg f, if_neg f2]
            by_cases g : (k : Int) % 2 = 0
            · rw [if_pos g, if_pos g]
              by_cases g2 : a 3 (k : Int) = 0
              · rw [if_pos g2, if_pos (by omega)]
              · rw [if_neg g2, if_neg (by omega)]
            · rw [if_neg g, if_neg g]
              by_cases g2 : a 3 (k : Int) = 2
              · rw [if_pos g2, if_pos (by omega)]
              · rw [if_neg g2, if_neg (by omega)]
        refine bX12_stripes_22 ⟨⟨by omega, by omega⟩, fun z => absurd z (by omega), fun _ => ⟨⟨by omega, by omega⟩, ⟨by omega, by omega⟩, ?_⟩⟩
        rw [e1]
        refine ⟨⟨by omega, by omega⟩, by split <;> exact ⟨by decide, by decide⟩, sX12_isGrass A1.1.1 ⟨by omega, by omega⟩ ?_⟩
        rw [ek]
        refine ⟨⟨by omega, by omega⟩, r1, e _ ?_⟩
        rw [es]
        by_cases c1 : a 0 (k : Int) ≤ 1
        · rw [if_pos (decide_eq_true c1)]
          by_cases f : gSk a (k : Int) = v1
          · rw [if_pos f, if_pos (show gSt a v1 (k : Int) = true from decide_eq_true ⟨c1, f⟩)]
            rfl
          · rw [if_neg f, if_neg (show ¬ gSt a v1 (k : Int) = true from fun z => f (of_decide_eq_true z).2)]
            exact Int.add_zero _
        · rw [if_neg (fun z => c1 (of_decide_eq_true z)), if_neg (show ¬ gSt a v1 (k : Int) = true from fun z => c1 (of_decide_eq_true z).1)]
          exact Int.add_zero _
    exact key 36 0 (by decide)
  · rw [if_neg c] at hK
    exact hK
