/-! end, fault, rule, cell, torn -/
theorem zTrue {p : Prop} [Decidable p] (h : p) : decide p = true := decide_eq_true h
def aEnd (a : zMm) (n : Int) : zMm := if 0 ≤ n ∧ n ≤ a 7 1 then zU a 7 1 n else a
def fEnd (a : zMm) (n : Int) : Int := if 0 ≤ n ∧ n ≤ a 7 1 then a 7 1 else -1
theorem wEnd {a : zMm} {n : Int} (W : WF a) : WF (aEnd a n) := by
  unfold aEnd
  by_cases c : 0 ≤ n ∧ n ≤ a 7 1
  · rw [if_pos c]
    obtain ⟨h1, h2⟩ := W.2.2.2.2.1
    refine W.tape (fun o c1 _ => zU_off o c1) (fun i ci => zU_ne (by omega)) ?_
    rw [zU_eq, zU_off 8 (by decide)]
    exact ⟨by omega, fun i c0 c1 => h2 i c0 (by omega)⟩
  · rw [if_neg c]
    exact W
theorem cEnd {a h : zMm} {v1 : Int} {K : Int → zMm → Prop} (W : WF a) (C : CR a h) (r1 : zR v1) (hK : ∀ h', CR (aEnd a v1) h' → zHi81 h h' → K (fEnd a v1) h') : zCi mX11_end [.ref 0, .int (zI v1)] zS0 h K := by
  obtain ⟨h1, h2⟩ := W.2.2.2.2.1
  have e1 : h 1 1 = a 7 1 := C.2.2.1.1
  unfold aEnd fEnd at hK
  refine wX11_end ⟨r1, fun c => ?_, fun c => ⟨by rw [e1]; exact ⟨by omega, by omega⟩, fun d => ?_, fun d => ?_⟩⟩
  · rw [if_neg (by omega), if_neg (by omega)] at hK
    exact hK h C (fun _ _ => rfl)
  · rw [e1] at d ⊢
    rw [if_pos (by omega), if_pos (by omega)] at hK
    refine hK _ (C.tape (fun o c1 _ => zU_off o c1) (fun i ci => zU_ne (by omega)) (fun o c1 _ => zU_off o c1) ⟨by rw [zU_eq, zU_eq], ?_⟩) (fun o ho => zU_off o (by omega))
    rw [zU_eq, zU_off 8 (by decide), zU_off 2 (by decide)]
    exact fun i ci cj => C.2.2.1.2 i ci (by omega)
  · rw [e1] at d
    rw [if_neg (by omega), if_neg (by omega)] at hK
    exact hK h C (fun _ _ => rfl)
theorem mEnd {a h : zMm} {v1 : Int} {K : Int → zMm → Prop} (W : WF a) (M : MR a h) (r1 : zR v1) (hK : ∀ h', MR (aEnd a v1) h' → zLo81 h h' → K (fEnd a v1) h') : zCi mX12_end [.ref 81, .int (zI v1)] zS0 h K := by
  obtain ⟨h1, h2⟩ := W.2.2.2.2.1
  have e1 : h 81 1 = a 7 1 := M.2.1.1
  unfold aEnd fEnd at hK
  refine wX12_end ⟨r1, by rw [e1]; exact ⟨by omega, by omega⟩, ?_⟩
  rw [e1]
  refine sX12_in r1 (by decide) ⟨by omega, by omega⟩ ?_
  simp only [decide_eq_true_eq, decide_eq_false_iff_not]
  refine ⟨fun d => ?_, fun d => ?_⟩
  · rw [e1]
    rw [if_pos d, if_pos d] at hK
    refine hK _ (M.tape (fun o c1 _ => zU_off o c1) (fun i ci => zU_ne (by omega)) (fun o c1 _ => zU_off o c1) (fun i ci => zU_ne (by omega)) ⟨by rw [zU_eq, zU_eq], ?_⟩) (fun o ho => zU_off o (by omega))
    rw [zU_eq, zU_off 8 (by decide), zU_off 82 (by decide)]
    exact fun i ci cj => M.2.1.2 i ci (by omega)
  · rw [if_neg d, if_neg d] at hK
    exact hK h M (fun _ _ => rfl)
theorem cFault {a h : zMm} {K : Int → zMm → Prop} (C : CR a h) (hK : K (a 7 2) h) : zCi mX11_fault [.ref 0] zS0 h K := by
  refine wX11_fault ?_
  rw [show h 3 1 = a 7 2 from C.2.2.2.2.2.1.1]
  exact hK
theorem mFault {a h : zMm} {K : Int → zMm → Prop} (M : MR a h) (hK : K (a 7 2) h) : zCi mX12_fault [.ref 81] zS0 h K := by
  refine wX12_fault ?_
  rw [show h 81 2 = a 7 2 from M.2.2.2.2.1.1]
  exact hK
theorem cTorn {a h : zMm} {K : Int → zMm → Prop} (C : CR a h) (hK : K (a 7 3) h) : zCi mX11_torn [.ref 0] zS0 h K := by
  refine wX11_torn ?_
  rw [show h 0 15 = a 7 3 from C.2.2.2.2.2.1.2]
  exact hK
theorem mTorn {a h : zMm} {K : Int → zMm → Prop} (M : MR a h) (hK : K (a 7 3) h) : zCi mX12_torn [.ref 81] zS0 h K := by
  refine wX12_torn ?_
  rw [show h 81 50 = a 7 3 from M.2.2.2.2.1.2]
  exact hK
def fRule (a : zMm) (n : Int) : Int := if 0 ≤ n ∧ n ≤ 6 then a 4 n else -1
theorem cRule {a h : zMm} {v1 : Int} {K : Int → zMm → Prop} (C : CR a h) (r1 : zR v1) (hK : K (fRule a v1) h) : zCi mX11_rule [.ref 0, .int (zI v1)] zS0 h K := by
  unfold fRule at hK
  refine wX11_rule (sX11_isWithin r1 (by decide) (by decide) ?_)
  simp only [decide_eq_true_eq, decide_eq_false_iff_not]
  refine ⟨fun c => ?_, fun c => sX3_told g0_10 (by omega) ?_⟩
  · rw [if_neg c] at hK
    exact hK
  · rw [if_pos c] at hK
    rw [show h (10 + 5) v1 = a 4 v1 from C.1.1.2 v1 (by omega) (by omega)]
    exact hK
theorem MR.rule {a h : zMm} (M : MR a h) : ∀ r : Int, 0 ≤ r → r ≤ 7 → h 88 r = a 4 r := by
  rcases M.1 with ⟨_, g⟩ | ⟨_, g, _⟩
  · exact g.1.2.1
  · exact g.2.1
theorem MR.kinds {a h : zMm} (M : MR a h) : zKd (h 92) (a 0) := by
  rcases M.1 with ⟨_, g⟩ | ⟨_, g, _⟩
  · exact g.1.1
  · exact g.1
theorem MR.size {a h : zMm} (M : MR a h) : h 92 192 = a 7 0 := by
  rcases M.1 with ⟨_, g⟩ | ⟨_, g, _⟩
  · exact g.1.2.2.1
  · exact g.2.2.1
theorem MR.ways {a h : zMm} (M : MR a h) : ∀ i : Int, 0 ≤ i → i < a 7 0 → h 92 (144 + 2 * i) = a 5 i ∧ h 92 (144 + 2 * i + 1) = a 6 i := by
  rcases M.1 with ⟨_, g⟩ | ⟨_, g, _⟩
  · exact g.1.2.2.2.1
  · exact g.2.2.2.1
theorem mRule {a h : zMm} {v1 : Int} {K : Int → zMm → Prop} (M : MR a h) (r1 : zR v1) (hK : K (fRule a v1) h) : zCi mX12_rule [.ref 81, .int (zI v1)] zS0 h K := by
  unfold fRule at hK
  refine wX12_rule ⟨r1, sX12_in r1 (by decide) (by decide) ?_⟩
  simp only [decide_eq_true_eq, decide_eq_false_iff_not]
  refine ⟨fun c => ?_, fun c => ⟨⟨by omega, by omega⟩, ?_⟩⟩
  · rw [if_neg c] at hK
    exact hK
  · rw [if_pos c] at hK
    rw [M.rule v1 (by omega) (by omega)]
    exact hK
def fCell (a : zMm) (c w : Int) : Int := if 0 ≤ c ∧ c < 36 ∧ 0 ≤ w ∧ w ≤ 3 then a w.toNat c else -1
theorem cCell {a h : zMm} {v1 v2 : Int} {K : Int → zMm → Prop} (C : CR a h) (r1 : zR v1) (r2 : zR v2) (hK : K (fCell a v1 v2) h) : zCi mX11_cell [.ref 0, .int (zI v1), .int (zI v2)] zS0 h K := by
  unfold fCell at hK
  obtain ⟨⟨g1, g2⟩, g3, g4⟩ := C.1
  refine wX11_cell (sX11_isCell r1 ?_)
  simp only [decide_eq_true_eq, decide_eq_false_iff_not]
  refine ⟨fun c => ⟨r2, fun d => ⟨c, ?_⟩, fun d => ⟨c, ?_⟩, fun d => ⟨c, ?_⟩, fun d => ⟨c, ?_⟩, fun d => ?_⟩, fun c => ?_⟩
  · rw [if_pos (by omega), d] at hK
    rw [(g1 v1 c.1 c.2).1]
    exact hK
  · rw [if_pos (by omega), d] at hK
    rw [(g3 v1 c.1 c.2).1]
    exact hK
  · rw [if_pos (by omega), d] at hK
    rw [g4 v1 c.1 c.2]
    exact hK
  · rw [if_pos (by omega), d] at hK
    rw [(g3 v1 c.1 c.2).2]
    exact hK
  · rw [if_neg (by omega)] at hK
    exact hK
  · rw [if_neg (by omega)] at hK
    exact hK
theorem zPi_b {p : Int} (hp : p = -4 ∨ (0 ≤ p ∧ p ≤ 3)) : (zPi p = 0 ↔ p = -4) ∧ 0 ≤ zPi p ∧ zPi p ≤ 4 ∧ (¬ zPi p = 0 → zPi p - 1 = p) := by
  unfold zPi
  split <;> omega
theorem mCell {a h : zMm} {v1 v2 : Int} {K : Int → zMm → Prop} (W : WF a) (M : MR a h) (r1 : zR v1) (r2 : zR v2) (hK : ∀ h', MR a h' → zLo81 h h' → K (fCell a v1 v2) h') : zCi mX12_cell [.ref 81, .int (zI v1), .int (zI v2)] zS0 h K := by
  unfold fCell at hK
  refine wX12_cell (sX12_awake M ?_)
  intro h1 M1 A1 L1
  refine sX12_isCell r1 ?_
  simp only [decide_eq_true_eq, decide_eq_false_iff_not]
  refine ⟨fun c => ?_, fun c => ⟨r2, sX12_in r2 (by decide) (by decide) ?_⟩⟩
  · rw [if_neg (by omega)] at hK
    exact hK h1 M1 L1
  simp only [decide_eq_true_eq, decide_eq_false_iff_not]
  obtain ⟨⟨g1, -, -, -, g3⟩, g4⟩ := A1
  obtain ⟨p1, p2⟩ := g3 v1 c.1 c.2
  have p3 := g4 v1 c.1 c.2
  have p0 := (g1 v1 c.1 c.2).1
  obtain ⟨q1, q2, q3, q4⟩ := zPi_b ((W.1 v1 c.1 c.2).2.2.2.1)
  refine ⟨fun d => ⟨fun f => ⟨⟨by omega, by omega⟩, ?_⟩, fun f => ⟨⟨by split <;> omega, by split <;> omega⟩, ?_⟩⟩, fun d => ?_⟩
  · have e3 : v2 = 3 := by omega
    rw [if_pos (by omega), e3] at hK
    rw [p2]
    refine ⟨⟨by omega, by omega⟩, fun z => ?_, fun z => ?_⟩
    · rw [q4 z]
      exact hK h1 M1 L1
    · have := q1.1 z
      rw [show a (3 : Int).toNat v1 = a 3 v1 from rfl, this] at hK
      exact hK h1 M1 L1
  · rw [if_pos (by omega)] at hK
    rcases (show v2 = 0 ∨ v2 = 1 ∨ v2 = 2 by omega) with e | e | e
    · rw [e] at hK ⊢
      rw [if_neg (by decide), show (36 * 0 + v1 : Int) = v1 by omega, p0]
      exact hK h1 M1 L1
    · rw [e] at hK ⊢
      rw [if_neg (by decide), show (36 * 1 + v1 : Int) = 36 + v1 by omega, p1]
      exact hK h1 M1 L1
    · rw [e] at hK ⊢
      rw [if_pos rfl, show (36 * 3 + v1 : Int) = 108 + v1 by omega, p3]
      exact hK h1 M1 L1
  · rw [if_neg (by omega)] at hK
    exact hK h1 M1 L1
