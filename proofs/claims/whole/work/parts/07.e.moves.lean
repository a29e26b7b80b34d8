/-! put -/
def aPut (a : zMm) (c v : Int) : zMm := if (0 ≤ c ∧ c < 36 ∧ 0 ≤ v ∧ v ≤ 4) ∧ ¬ (v = 2 ∧ c = a 4 0) ∧ ¬ a 0 c = v then zU (zU (zU a 0 c v) 1 c 0) 3 c (-4) else a
def fPut (a : zMm) (c v : Int) : Int := if 0 ≤ c ∧ c < 36 ∧ 0 ≤ v ∧ v ≤ 4 then (if v = 2 ∧ c = a 4 0 then -2 else a 0 c) else -1
theorem aPut_at (a : zMm) (c v : Int) : (∀ i, (zU (zU (zU a 0 c v) 1 c 0) 3 c (-4)) 0 i = if i = c then v else a 0 i) ∧ (∀ i, (zU (zU (zU a 0 c v) 1 c 0) 3 c (-4)) 1 i = if i = c then 0 else a 1 i) ∧ (∀ i, (zU (zU (zU a 0 c v) 1 c 0) 3 c (-4)) 3 i = if i = c then -4 else a 3 i) ∧ (zU (zU (zU a 0 c v) 1 c 0) 3 c (-4)) 2 = a 2 ∧ ∀ o : Nat, 3 < o → (zU (zU (zU a 0 c v) 1 c 0) 3 c (-4)) o = a o := by
  refine ⟨fun i => ?_, fun i => ?_, fun i => ?_, ?_, fun o ho => ?_⟩
  · simp [zU_at]
  · simp [zU_at]
  · simp [zU_at]
  · rw [zU_off 2 (by decide), zU_off 2 (by decide), zU_off 2 (by decide)]
  · rw [zU_off o (by omega), zU_off o (by omega), zU_off o (by omega)]
theorem wPut {a : zMm} {c v : Int} (W : WF a) : WF (aPut a c v) := by
  unfold aPut
  by_cases d : (0 ≤ c ∧ c < 36 ∧ 0 ≤ v ∧ v ≤ 4) ∧ ¬ (v = 2 ∧ c = a 4 0) ∧ ¬ a 0 c = v
  · rw [if_pos d]
    obtain ⟨e0, e1, e3, e2, eo⟩ := aPut_at a c v
    refine W.cells (fun o ho => eo o (by omega)) (fun i i0 i1 => ?_) ?_ ?_
    · obtain ⟨w0, w1, w2, w3, w4⟩ := W.1 i i0 i1
      rw [e0, e1, e2, e3]
      by_cases ci : i = c
      · simp only [if_pos ci]
        exact ⟨⟨by omega, by omega⟩, ⟨by decide, by decide⟩, w2, Or.inl trivial, fun _ => ⟨trivial, trivial⟩⟩
      · simp only [if_neg ci]
        exact ⟨w0, w1, w2, w3, w4⟩
    · rw [eo 4 (by decide)]
      exact W.2.1
    · rw [eo 4 (by decide), e0]
      have := W.2.2.1
      split
      · omega
      · exact this
  · rw [if_neg d]
    exact W
theorem putc_to {a h : zMm} {c v : Int} (W : WF a) (C : CR a h) (hc : 0 ≤ c ∧ c < 36) (hv : 0 ≤ v ∧ v ≤ 4) : CR (zU (zU (zU a 0 c v) 1 c 0) 3 c (-4)) (zU (zU (zU (zU (zU h 11 c v) 12 c 0) 14 c (-4)) 31 13 0) 31 14 0) := by
  obtain ⟨e0, e1, e3, e2, eo⟩ := aPut_at a c v
  obtain ⟨⟨g1, g2⟩, g3, g4⟩ := C.1
  refine C.cells (fun o ho => eo o (by omega)) (fun o c1 c2 => ?_) ⟨⟨fun i i0 i1 => ?_, fun r r0 r1 => ?_⟩, fun i i0 i1 => ?_, fun i i0 i1 => ?_⟩ (C.2.2.2.2.2.2.forget ?_ ?_ ?_)
  · rw [zU_off o c2, zU_off o c2, zU_off o (by omega), zU_off o (by omega), zU_off o (by omega)]
  · have := g1 i i0 i1
    rw [e0, show (zU (zU (zU (zU (zU h 11 c v) 12 c 0) 14 c (-4)) 31 13 0) 31 14 0) 11 i = if i = c then v else h 11 i by simp [zU_at]]
    by_cases ci : i = c
    · rw [if_pos ci, if_pos ci]
      exact ⟨rfl, hv⟩
    · rw [if_neg ci, if_neg ci]
      exact this
  · rw [eo 4 (by decide), zU_off 15 (by decide), zU_off 15 (by decide), zU_off 15 (by decide), zU_off 15 (by decide), zU_off 15 (by decide)]
    exact g2 r r0 r1
  · have := g3 i i0 i1
    rw [e1, e3, show (zU (zU (zU (zU (zU h 11 c v) 12 c 0) 14 c (-4)) 31 13 0) 31 14 0) 12 i = if i = c then 0 else h 12 i by simp [zU_at], show (zU (zU (zU (zU (zU h 11 c v) 12 c 0) 14 c (-4)) 31 13 0) 31 14 0) 14 i = if i = c then -4 else h 14 i by simp [zU_at]]
    by_cases ci : i = c
    · rw [if_pos ci, if_pos ci, if_pos ci, if_pos ci]
      exact ⟨rfl, rfl⟩
    · rw [if_neg ci, if_neg ci, if_neg ci, if_neg ci]
      exact this
  · rw [e2, zU_off 13 (by decide), zU_off 13 (by decide), zU_off 13 (by decide), zU_off 13 (by decide), zU_off 13 (by decide)]
    exact g4 i i0 i1
  · rw [zU_off 45 (by decide), zU_off 45 (by decide), zU_off 45 (by decide), zU_off 45 (by decide), zU_off 45 (by decide)]
  · simp [zU_at]
  · simp [zU_at]
theorem cPut {a h : zMm} {v1 v2 : Int} {K : Int → zMm → Prop} (W : WF a) (C : CR a h) (r1 : zR v1) (r2 : zR v2) (hK : ∀ h', CR (aPut a v1 v2) h' → zHi81 h h' → K (fPut a v1 v2) h') : zCi mX11_put [.ref 0, .int (zI v1), .int (zI v2)] zS0 h K := by
  unfold aPut fPut at hK
  refine wX11_put (sX11_isCell r1 ?_)
  simp only [decide_eq_true_eq, decide_eq_false_iff_not]
  refine ⟨fun c => ?_, fun c => sX11_isWithin r2 (by decide) (by decide) ?_⟩
  · rw [if_neg (by omega), if_neg (by omega)] at hK
    exact hK h C (fun _ _ => rfl)
  simp only [decide_eq_true_eq, decide_eq_false_iff_not]
  have e0 : h 11 v1 = a 0 v1 := (C.1.1.1 v1 c.1 c.2).1
  have b0 := (C.1.1.1 v1 c.1 c.2).2
  have W0 := W.2.1.1
  refine ⟨fun d => ⟨r2, fun f => ⟨c, ?_⟩, fun f => sX3_told g0_10 (by omega) ?_⟩, fun d => ?_⟩
  · rw [e0]
    refine ⟨⟨by omega, by omega⟩, fun g => ?_, fun g => wX4_forget ?_⟩
    · rw [if_neg (by omega), if_pos (by omega), if_neg (by omega)] at hK
      exact hK h C (fun _ _ => rfl)
    · rw [if_pos (by omega), if_pos (by omega), if_neg (by omega)] at hK
      exact hK _ (putc_to W C c d) (fun o ho => by rw [zU_off o (by omega), zU_off o (by omega), zU_off o (by omega), zU_off o (by omega), zU_off o (by omega)])
  · rw [show h (10 + 5) 0 = a 4 0 from C.1.1.2 0 (by decide) (by decide), e0]
    refine ⟨r1, ⟨by omega, by omega⟩, fun z => ⟨c, ⟨by omega, by omega⟩, fun g => ?_, fun g => wX4_forget ?_⟩, fun z => ?_⟩
    · rw [if_neg (by omega), if_pos (by omega), if_neg (by omega)] at hK
      exact hK h C (fun _ _ => rfl)
    · rw [if_pos (by omega), if_pos (by omega), if_neg (by omega)] at hK
      exact hK _ (putc_to W C c d) (fun o ho => by rw [zU_off o (by omega), zU_off o (by omega), zU_off o (by omega), zU_off o (by omega), zU_off o (by omega)])
    · rw [if_neg (by omega), if_pos (by omega), if_pos (by omega)] at hK
      exact hK h C (fun _ _ => rfl)
  · rw [if_neg (by omega), if_neg (by omega)] at hK
    exact hK h C (fun _ _ => rfl)
theorem putm_to {a h : zMm} {c v : Int} (M : MR a h) (A : mA a h) (h21 : h 81 21 = 1) (hc : 0 ≤ c ∧ c < 36) (hv : 0 ≤ v ∧ v ≤ 4) (hm : 0 ≤ a 7 0 ∧ a 7 0 ≤ 24) : MR (zU (zU (zU a 0 c v) 1 c 0) 3 c (-4)) (zU (zU (zU h 92 c v) 92 (36 + c) 0) 92 (72 + c) 0) := by
  obtain ⟨e0, e1, e3, e2, eo⟩ := aPut_at a c v
  obtain ⟨⟨g1, g2, g3, g4, g5⟩, g6⟩ := A
  have eh : ∀ i, (zU (zU (zU h 92 c v) 92 (36 + c) 0) 92 (72 + c) 0) 92 i = if i = 72 + c then 0 else if i = 36 + c then 0 else if i = c then v else h 92 i := by
    intro i
    simp only [zU_at, true_and]
  have ez : ∀ o : Nat, o ≠ 92 → (zU (zU (zU h 92 c v) 92 (36 + c) 0) 92 (72 + c) 0) o = h o := fun o ho => by rw [zU_off o ho, zU_off o ho, zU_off o ho]
  refine M.state (fun o ho => eo o (by omega)) (fun i _ => congrFun (eo 7 (by decide)) i) (fun o c1 _ => ez o c1) (fun i ci => ?_) (Or.inl ⟨?_, ⟨fun i i0 i1 => ?_, fun r r0 r1 => ?_, ?_, fun i i0 i1 => ?_, fun i i0 i1 => ?_⟩, fun i i0 i1 => ?_⟩)
  · rw [eh, if_neg (by omega), if_neg (by omega), if_neg (by omega)]
  · rw [ez 81 (by decide)]
    exact h21
  · have := g1 i i0 i1
    rw [eh, e0, if_neg (by omega), if_neg (by omega)]
    by_cases ci : i = c
    · simp only [if_pos ci]
      exact ⟨trivial, hv⟩
    · simp only [if_neg ci]
      exact this
  · rw [ez 88 (by decide), eo 4 (by decide)]
    exact g2 r r0 r1
  · rw [eh, eo 7 (by decide), if_neg (by omega), if_neg (by omega), if_neg (by omega)]
    exact g3
  · rw [eo 7 (by decide)] at i1
    have := g4 i i0 i1
    rw [eh, eh, eo 5 (by decide), eo 6 (by decide), if_neg (by omega), if_neg (by omega), if_neg (by omega), if_neg (by omega), if_neg (by omega), if_neg (by omega)]
    exact this
  · have := g5 i i0 i1
    rw [eh, eh, e1, e3]
    by_cases ci : i = c
    · constructor
      · rw [if_neg (by omega), if_pos (by omega), if_pos ci]
      · rw [if_pos (by omega), if_pos ci]
        rfl
    · constructor
      · rw [if_neg (by omega), if_neg (by omega), if_neg (by omega), if_neg ci]
        exact this.1
      · rw [if_neg (by omega), if_neg (by omega), if_neg (by omega), if_neg ci]
        exact this.2
  · rw [eh, e2, if_neg (by omega), if_neg (by omega), if_neg (by omega)]
    exact g6 i i0 i1
theorem mA.on {a h : zMm} (M : MR a h) (A : mA a h) : h 81 21 = 1 := by
  rcases M.1 with ⟨g, _⟩ | ⟨g, z, _⟩
  · exact g
  · obtain ⟨b0, b1, b2, b3, b4, b5, b6⟩ := z.2.2.2.2 0 (by decide) (by decide)
    have := (A.1.2.2.2.2 0 (by decide) (by decide)).1
    rw [b4, b1] at this
    exact absurd this (by decide)
theorem mPut {a h : zMm} {v1 v2 : Int} {K : Int → zMm → Prop} (W : WF a) (M : MR a h) (r1 : zR v1) (r2 : zR v2) (hK : ∀ h', MR (aPut a v1 v2) h' → zLo81 h h' → K (fPut a v1 v2) h') : zCi mX12_put [.ref 81, .int (zI v1), .int (zI v2)] zS0 h K := by
  unfold aPut fPut at hK
  refine wX12_put (sX12_awake M ?_)
  intro h1 M1 A1 L1
  refine sX12_isCell r1 ?_
  simp only [decide_eq_true_eq, decide_eq_false_iff_not]
  refine ⟨fun c => ?_, fun c => ⟨r2, sX12_in r2 (by decide) (by decide) ?_⟩⟩
  · rw [if_neg (by omega), if_neg (by omega)] at hK
    exact hK h1 M1 L1
  simp only [decide_eq_true_eq, decide_eq_false_iff_not]
  have e0 : h1 92 v1 = a 0 v1 := (A1.1.1 v1 c.1 c.2).1
  have b0 := (A1.1.1 v1 c.1 c.2).2
  have e8 : h1 88 0 = a 4 0 := A1.1.2.1 0 (by decide) (by decide)
  have W0 := W.2.1.1
  have Wm := W.2.2.2.1.1
  have key : (0 ≤ v2 ∧ v2 ≤ 4) → ¬ (v2 = 2 ∧ v1 = a 4 0) → ((0 ≤ v1 ∧ v1 < 600) ∧ (zR (a 0 v1) ∧ ((a 0 v1 = v2 → K (a 0 v1) h1) ∧ (¬ a 0 v1 = v2 → ((0 ≤ (36 + v1) ∧ (36 + v1) < 600) ∧ ((0 ≤ (72 + v1) ∧ (72 + v1) < 600) ∧ K (a 0 v1) (zU (zU (zU h1 92 v1 v2) 92 (36 + v1) 0) 92 (72 + v1) 0))))))) := by
    intro d f
    refine ⟨⟨by omega, by omega⟩, ⟨by omega, by omega⟩, fun g => ?_, fun g => ⟨⟨by omega, by omega⟩, ⟨by omega, by omega⟩, ?_⟩⟩
    · rw [if_neg (by omega), if_pos (by omega), if_neg f] at hK
      exact hK h1 M1 L1
    · rw [if_pos ⟨by omega, f, g⟩, if_pos (by omega), if_neg f] at hK
      exact hK _ (putm_to M1 A1 (mA.on M1 A1) c d Wm) (fun o ho => by rw [zU_off o (by omega), zU_off o (by omega), zU_off o (by omega)]; exact L1 o ho)
  rw [e8, e0]
  refine ⟨fun d => ⟨r1, ⟨by omega, by omega⟩, fun f => key d (fun z => f z.2), fun f => ⟨fun g => key d (fun z => g z.1), fun g => ?_⟩⟩, fun d => ?_⟩
  · rw [if_neg (by omega), if_pos (by omega), if_pos (by omega)] at hK
    exact hK h1 M1 L1
  · rw [if_neg (by omega), if_neg (by omega)] at hK
    exact hK h1 M1 L1
/-! move, clear, moved -/
theorem MR.mv {a h a' h' : zMm} (M : MR a h) (ha : ∀ o : Nat, o ≠ 5 → o ≠ 6 → o ≠ 7 → a' o = a o) (ha7 : ∀ i : Int, i ≠ 0 → a' 7 i = a 7 i) (hh : ∀ o : Nat, o ≠ 92 → h' o = h o) (h92 : ∀ i : Int, i < 144 ∨ 193 ≤ i → h' 92 i = h 92 i) (hn : h' 92 192 = a' 7 0) (hm : ∀ i : Int, 0 ≤ i → i < a' 7 0 → h' 92 (144 + 2 * i) = a' 5 i ∧ h' 92 (144 + 2 * i + 1) = a' 6 i) : MR a' h' := by
  refine M.state (fun o ho => ha o (by omega) (by omega) (by omega)) ha7 (fun o c1 _ => hh o c1) (fun i ci => h92 i (by omega)) ?_
  rcases M.1 with ⟨g, ⟨g1, g2, g3, g4, g5⟩, g6⟩ | ⟨g, ⟨g1, g2, g3, g4, g5⟩, g6, g7⟩
  · refine Or.inl ⟨by rw [hh 81 (by decide)]; exact g, ⟨fun i i0 i1 => ?_, fun r r0 r1 => ?_, hn, hm, fun i i0 i1 => ?_⟩, fun i i0 i1 => ?_⟩
    · rw [h92 i (by omega), ha 0 (by decide) (by decide) (by decide)]
      exact g1 i i0 i1
    · rw [hh 88 (by decide), ha 4 (by decide) (by decide) (by decide)]
      exact g2 r r0 r1
    · rw [h92 (36 + i) (by omega), h92 (72 + i) (by omega), ha 1 (by decide) (by decide) (by decide), ha 3 (by decide) (by decide) (by decide)]
      exact g5 i i0 i1
    · rw [h92 (108 + i) (by omega), ha 2 (by decide) (by decide) (by decide)]
      exact g6 i i0 i1
  · refine Or.inr ⟨by rw [hh 81 (by decide)]; exact g, ⟨fun i i0 i1 => ?_, fun r r0 r1 => ?_, hn, hm, fun i i0 i1 => ?_⟩, by rw [ha7 4 (by decide)]; exact g6, by rw [ha7 5 (by decide)]; exact g7⟩
    · rw [h92 i (by omega), ha 0 (by decide) (by decide) (by decide)]
      exact g1 i i0 i1
    · rw [hh 88 (by decide), ha 4 (by decide) (by decide) (by decide)]
      exact g2 r r0 r1
    · rw [h92 (36 + i) (by omega), h92 (72 + i) (by omega), h92 (108 + i) (by omega), ha 0 (by decide) (by decide) (by decide), ha 1 (by decide) (by decide) (by decide), ha 2 (by decide) (by decide) (by decide), ha 3 (by decide) (by decide) (by decide)]
      exact g5 i i0 i1
/-- one MOVE more -/
def zMv (a : zMm) (w s : Int) : zMm := zU (zU (zU a 5 (a 7 0) w) 6 (a 7 0) s) 7 0 (a 7 0 + 1)
theorem zMv_at (a : zMm) (w s : Int) : (∀ o : Nat, o ≠ 5 → o ≠ 6 → o ≠ 7 → zMv a w s o = a o) ∧ (∀ i : Int, i ≠ 0 → zMv a w s 7 i = a 7 i) ∧ zMv a w s 7 0 = a 7 0 + 1 ∧ (∀ i, zMv a w s 5 i = if i = a 7 0 then w else a 5 i) ∧ (∀ i, zMv a w s 6 i = if i = a 7 0 then s else a 6 i) := by
  unfold zMv
  refine ⟨fun o c1 c2 c3 => ?_, fun i ci => ?_, ?_, fun i => ?_, fun i => ?_⟩
  · rw [zU_off o c3, zU_off o c2, zU_off o c1]
  · rw [zU_ne (by omega), zU_off 7 (by decide), zU_off 7 (by decide)]
  · rw [zU_eq]
  · simp [zU_at]
  · simp [zU_at]
theorem zMv_W {a : zMm} {w s : Int} (W : zMW a) (hw : 0 ≤ w ∧ w ≤ 3) (hs : 1 ≤ s ∧ s ≤ 5) (hn : a 7 0 < 24) : zMW (zMv a w s) := by
  obtain ⟨e1, e2, e3, e4, e5⟩ := zMv_at a w s
  obtain ⟨w1, w2⟩ := W
  refine ⟨by rw [e3]; omega, fun i i0 i1 => ?_⟩
  rw [e3] at i1
  rw [e4, e5]
  by_cases ci : i = a 7 0
  · rw [if_pos ci, if_pos ci]
    exact ⟨hw, hs⟩
  · rw [if_neg ci, if_neg ci]
    exact w2 i i0 (by omega)
theorem zMv_WF {a : zMm} {w s : Int} (W : WF a) (hw : 0 ≤ w ∧ w ≤ 3) (hs : 1 ≤ s ∧ s ≤ 5) (hn : a 7 0 < 24) : WF (zMv a w s) :=
  W.moves (zMv_at a w s).1 (zMv_at a w s).2.1 (zMv_W W.2.2.2.1 hw hs hn)
theorem zMv_C {a h : zMm} {w s : Int} (C : CR a h) : CR (zMv a w s) (zU (zU (zU h 17 (a 7 0) w) 18 (a 7 0) s) 16 2 (a 7 0 + 1)) := by
  obtain ⟨e1, e2, e3, e4, e5⟩ := zMv_at a w s
  obtain ⟨m1, m2⟩ := C.2.1
  refine C.moves e1 e2 (fun o c1 c2 c3 => by rw [zU_off o c1, zU_off o c3, zU_off o c2]) ⟨by rw [zU_eq, e3], fun i i0 i1 => ?_⟩
  rw [e3] at i1
  rw [e4, e5, zU_off 17 (by decide), zU_off 17 (by decide), zU_off 18 (by decide), zU_at, zU_at, zU_off 18 (by decide)]
  simp only [true_and]
  by_cases ci : i = a 7 0
  · rw [if_pos ci, if_pos ci, if_pos ci, if_pos ci]
    exact ⟨rfl, rfl⟩
  · rw [if_neg ci, if_neg ci, if_neg ci, if_neg ci]
    exact m2 i i0 (by omega)
theorem zMv_M {a h h' : zMm} {w s : Int} (M : MR a h) (hn : 0 ≤ a 7 0 ∧ a 7 0 < 24) (hh : ∀ o : Nat, o ≠ 92 → h' o = h o) (e : ∀ i : Int, h' 92 i = if i = 192 then a 7 0 + 1 else if i = 144 + 2 * a 7 0 + 1 then s else if i = 144 + 2 * a 7 0 then w else h 92 i) : MR (zMv a w s) h' := by
  obtain ⟨e1, e2, e3, e4, e5⟩ := zMv_at a w s
  refine M.mv e1 e2 hh (fun i ci => ?_) ?_ (fun i i0 i1 => ?_)
  · rw [e, if_neg (by omega), if_neg (by omega), if_neg (by omega)]
  · rw [e, if_pos rfl, e3]
  · rw [e3] at i1
    rw [e, e, e4, e5]
    have mw := M.ways i i0
    by_cases ci : i = a 7 0
    · constructor
      · rw [if_neg (by omega), if_neg (by omega), if_pos (by omega), if_pos ci]
      · rw [if_neg (by omega), if_pos (by omega), if_pos ci]
    · constructor
      · rw [if_neg (by omega), if_neg (by omega), if_neg (by omega), if_neg ci]
        exact (mw (by omega)).1
      · rw [if_neg (by omega), if_neg (by omega), if_neg (by omega), if_neg ci]
        exact (mw (by omega)).2
theorem sX12_addMove {a h : zMm} {w s : Int} {K : zMm → Prop} (M : MR a h) (hn : 0 ≤ a 7 0 ∧ a 7 0 < 24) (hK : ∀ h', MR (zMv a w s) h' → (∀ o : Nat, o ≠ 92 → h' o = h o) → K h') : zCv mX12_addMove [.ref 81, .int (zI w), .int (zI s)] zS0 h K := by
  have e1 : h 92 192 = a 7 0 := M.size
  refine wX12_addMove ?_
  rw [e1]
  have e2 : (zU h 92 (144 + (2 * (a 7 0))) w) 92 192 = a 7 0 := by rw [zU_ne (by omega)]; exact e1
  rw [e2]
  have e3 : (zU (zU h 92 (144 + (2 * (a 7 0))) w) 92 ((144 + (2 * (a 7 0))) + 1) s) 92 192 = a 7 0 := by rw [zU_ne (by omega)]; exact e2
  rw [e3]
  refine ⟨⟨by omega, by omega⟩, ⟨by omega, by omega⟩, hK _ (zMv_M M hn (fun o ho => ?_) (fun i => ?_)) (fun o ho => ?_)⟩
  · rw [zU_off o ho, zU_off o ho, zU_off o ho]
  · simp only [zU_at, true_and]
  · rw [zU_off o ho, zU_off o ho, zU_off o ho]
def aMove (a : zMm) (w s : Int) : zMm := if (0 ≤ w ∧ w ≤ 3 ∧ 1 ≤ s ∧ s ≤ 5) ∧ a 7 0 < 24 then zMv a w s else a
def fMove (a : zMm) (w s : Int) : Int := if 0 ≤ w ∧ w ≤ 3 ∧ 1 ≤ s ∧ s ≤ 5 then (if a 7 0 < 24 then a 7 0 + 1 else -3) else -1
theorem wMove {a : zMm} {w s : Int} (W : WF a) : WF (aMove a w s) := by
  unfold aMove
  split
  · rename_i c
    exact zMv_WF W ⟨c.1.1, c.1.2.1⟩ ⟨c.1.2.2.1, c.1.2.2.2⟩ c.2
  · exact W
theorem sX5_append16 {a h : zMm} {w s : Int} {K : Bool → zMm → Prop} (W : WF a) (C : CR a h) (hT : a 7 0 < 24 → ∀ h', CR (zMv a w s) h' → zHi81 h h' → K true h') (hF : ¬ a 7 0 < 24 → K false h) : zCb mX5_append [.ref 16, .int (zI w), .int (zI s)] zS0 h K := by
  have e1 : h 16 2 = a 7 0 := C.2.1.1
  have w1 := W.2.2.2.1.1
  refine wX5_append m0_16 ?_
  rw [e1]
  refine ⟨⟨by omega, by omega⟩, fun c => ⟨⟨by omega, by omega⟩, hT c _ (zMv_C C) (fun o ho => by rw [zU_off o (by omega), zU_off o (by omega), zU_off o (by omega)])⟩, hF⟩
theorem cMove {a h : zMm} {v1 v2 : Int} {K : Int → zMm → Prop} (W : WF a) (C : CR a h) (r1 : zR v1) (r2 : zR v2) (hK : ∀ h', CR (aMove a v1 v2) h' → zHi81 h h' → K (fMove a v1 v2) h') : zCi mX11_move [.ref 0, .int (zI v1), .int (zI v2)] zS0 h K := by
  unfold aMove fMove at hK
  refine wX11_move (sX11_isMove r1 r2 ?_)
  simp only [decide_eq_true_eq, decide_eq_false_iff_not]
  refine ⟨fun c => sX5_append16 W C (fun d h' C' L' => ?_) (fun d => ?_), fun c => ?_⟩
  · rw [if_pos ⟨c, d⟩, if_pos c, if_pos d] at hK
    rw [if_pos rfl, show h' 16 2 = a 7 0 + 1 from (C'.2.1.1).trans (zMv_at a v1 v2).2.2.1]
    exact hK h' C' L'
  · rw [if_neg (fun z => d z.2), if_pos c, if_neg d] at hK
    exact hK h C (fun _ _ => rfl)
  · rw [if_neg (fun z => c z.1), if_neg c] at hK
    exact hK h C (fun _ _ => rfl)
theorem mMove {a h : zMm} {v1 v2 : Int} {K : Int → zMm → Prop} (W : WF a) (M : MR a h) (r1 : zR v1) (r2 : zR v2) (hK : ∀ h', MR (aMove a v1 v2) h' → zLo81 h h' → K (fMove a v1 v2) h') : zCi mX12_move [.ref 81, .int (zI v1), .int (zI v2)] zS0 h K := by
  unfold aMove fMove at hK
  have w1 := W.2.2.2.1.1
  have e1 : h 92 192 = a 7 0 := M.size
  refine wX12_move (sX12_isMove r1 r2 ?_)
  simp only [decide_eq_true_eq, decide_eq_false_iff_not]
  rw [e1]
  refine ⟨fun c => ⟨⟨by omega, by omega⟩, fun d => sX12_addMove M (by omega) (fun h' M' L' => ?_), fun d => ?_⟩, fun c => ?_⟩
  · rw [if_pos ⟨c, by omega⟩, if_pos c, if_pos (by omega)] at hK
    rw [show h' 92 192 = a 7 0 + 1 from (M'.size).trans (zMv_at a v1 v2).2.2.1]
    exact hK h' M' (fun o ho => L' o (by omega))
  · rw [if_neg (fun z => by omega), if_pos c, if_neg (by omega)] at hK
    exact hK h M (fun _ _ => rfl)
  · rw [if_neg (fun z => c z.1), if_neg c] at hK
    exact hK h M (fun _ _ => rfl)
def aClear (a : zMm) : zMm := zU a 7 0 0
theorem wClear {a : zMm} (W : WF a) : WF (aClear a) := by
  refine W.moves (fun o _ _ c3 => zU_off o c3) (fun i ci => zU_ne (by omega)) ⟨?_, fun i i0 i1 => ?_⟩
  · unfold aClear
    rw [zU_eq]
    decide
  · unfold aClear at i1
    rw [zU_eq] at i1
    omega
theorem cClear {a h : zMm} {K : Int → zMm → Prop} (C : CR a h) (hK : ∀ h', CR (aClear a) h' → zHi81 h h' → K (a 7 0) h') : zCi mX11_clear [.ref 0] zS0 h K := by
  refine wX11_clear ?_
  rw [show h 16 2 = a 7 0 from C.2.1.1]
  refine hK _ (C.moves (fun o _ _ c3 => zU_off o c3) (fun i ci => zU_ne (by omega)) (fun o c1 _ _ => zU_off o c1) ⟨?_, fun i i0 i1 => ?_⟩) (fun o ho => zU_off o (by omega))
  · unfold aClear
    rw [zU_eq, zU_eq]
  · unfold aClear at i1
    rw [zU_eq] at i1
    omega
theorem mClear {a h : zMm} {K : Int → zMm → Prop} (M : MR a h) (hK : ∀ h', MR (aClear a) h' → zLo81 h h' → K (a 7 0) h') : zCi mX12_clear [.ref 81] zS0 h K := by
  refine wX12_clear ?_
  rw [show h 92 192 = a 7 0 from M.size]
  refine hK _ (M.mv (fun o _ _ c3 => zU_off o c3) (fun i ci => zU_ne (by omega)) (fun o c1 => zU_off o c1) (fun i ci => zU_ne (by omega)) ?_ (fun i i0 i1 => ?_)) (fun o ho => zU_off o (by omega))
  · unfold aClear
    rw [zU_eq, zU_eq]
  · unfold aClear at i1
    rw [zU_eq] at i1
    omega
def fMoved (a : zMm) (i w : Int) : Int := if (0 ≤ i ∧ i < a 7 0) ∧ (0 ≤ w ∧ w ≤ 1) then (if w = 0 then a 5 i else a 6 i) else -1
theorem cMoved {a h : zMm} {v1 v2 : Int} {K : Int → zMm → Prop} (W : WF a) (C : CR a h) (r1 : zR v1) (r2 : zR v2) (hK : K (fMoved a v1 v2) h) : zCi mX11_moved [.ref 0, .int (zI v1), .int (zI v2)] zS0 h K := by
  unfold fMoved at hK
  have w1 := W.2.2.2.1.1
  obtain ⟨e1, e2⟩ := C.2.1
  refine wX11_moved ?_
  rw [e1]
  refine sX11_isWithin r1 (by decide) ⟨by omega, by omega⟩ ?_
  simp only [decide_eq_true_eq, decide_eq_false_iff_not]
  refine ⟨fun c => ?_, fun c => sX11_isWithin r2 (by decide) (by decide) ?_⟩
  · rw [if_neg (fun z => by omega)] at hK
    exact hK
  simp only [decide_eq_true_eq, decide_eq_false_iff_not]
  refine ⟨fun d => ⟨r2, fun f => sX5_stepsOf m0_16 (by omega) r1 ?_, fun f => sX5_wayOf m0_16 (by omega) r1 ?_⟩, fun d => ?_⟩
  · rw [if_pos (by omega), if_neg f] at hK
    rw [if_pos (by omega), show h (16 + 2) v1 = a 6 v1 from (e2 v1 (by omega) (by omega)).2]
    exact hK
  · rw [if_pos (by omega), if_pos f] at hK
    rw [if_pos (by omega), show h (16 + 1) v1 = a 5 v1 from (e2 v1 (by omega) (by omega)).1]
    exact hK
  · rw [if_neg (fun z => d z.2)] at hK
    exact hK
theorem mMoved {a h : zMm} {v1 v2 : Int} {K : Int → zMm → Prop} (W : WF a) (M : MR a h) (r1 : zR v1) (r2 : zR v2) (hK : K (fMoved a v1 v2) h) : zCi mX12_moved [.ref 81, .int (zI v1), .int (zI v2)] zS0 h K := by
  unfold fMoved at hK
  have w1 := W.2.2.2.1.1
  have e1 : h 92 192 = a 7 0 := M.size
  refine wX12_moved ?_
  rw [e1]
  refine ⟨r1, ⟨by omega, by omega⟩, sX12_in r1 (by decide) ⟨by omega, by omega⟩ ?_⟩
  simp only [decide_eq_true_eq, decide_eq_false_iff_not]
  refine ⟨fun c => ?_, fun c => ⟨r2, sX12_in r2 (by decide) (by decide) ?_⟩⟩
  · rw [if_neg (fun z => by omega)] at hK
    exact hK
  simp only [decide_eq_true_eq, decide_eq_false_iff_not]
  refine ⟨fun d => ?_, fun d => ⟨⟨by omega, by omega⟩, ?_⟩⟩
  · rw [if_neg (fun z => d z.2)] at hK
    exact hK
  · obtain ⟨m1, m2⟩ := M.ways v1 (by omega) (by omega)
    rw [if_pos (by omega)] at hK
    by_cases f : v2 = 0
    · rw [if_pos f] at hK
      rw [f, show 144 + 2 * v1 + 0 = 144 + 2 * v1 by omega, m1]
      exact hK
    · rw [if_neg f] at hK
      rw [show v2 = 1 by omega, m2]
      exact hK
