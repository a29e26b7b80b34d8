/-! BASICS: what the small methods answer -/
theorem sX11_isWithin {S : zSh} {h : zMm} {K : Bool → zMm → Prop} {v0 v1 v2 : Int} (r0 : zR v0) (r1 : zR v1) (r2 : zR v2) (w : K (decide (v1 ≤ v0 ∧ v0 ≤ v2)) h) : zCb mX11_isWithin [.int (zI v0), .int (zI v1), .int (zI v2)] S h K := by
  refine wX11_isWithin ⟨r0, r1, r2, ?_⟩
  have e : (if v0 < v1 then false else (if v2 < v0 then false else true)) = decide (v1 ≤ v0 ∧ v0 ≤ v2) := by
    rw [Bool.eq_iff_iff]
    simp
  rw [e]
  exact w
theorem sX11_isCell {S : zSh} {h : zMm} {K : Bool → zMm → Prop} {v0 : Int} (r0 : zR v0) (w : K (decide (0 ≤ v0 ∧ v0 < 36)) h) : zCb mX11_isCell [.int (zI v0)] S h K := by
  refine wX11_isCell ⟨r0, ?_⟩
  have e : (if v0 < 0 then false else (if 36 ≤ v0 then false else true)) = decide (0 ≤ v0 ∧ v0 < 36) := by
    rw [Bool.eq_iff_iff]
    simp
  rw [e]
  exact w
theorem sX11_isWay {S : zSh} {h : zMm} {K : Bool → zMm → Prop} {v0 : Int} (r0 : zR v0) (w : K (decide (0 ≤ v0 ∧ v0 ≤ 3)) h) : zCb mX11_isWay [.int (zI v0)] S h K :=
  wX11_isWay (sX11_isWithin r0 (by decide) (by decide) w)
theorem sX11_isMinute {S : zSh} {h : zMm} {K : Bool → zMm → Prop} {v0 : Int} (r0 : zR v0) (w : K (decide (0 ≤ v0 ∧ v0 ≤ 999)) h) : zCb mX11_isMinute [.int (zI v0)] S h K :=
  wX11_isMinute (sX11_isWithin r0 (by decide) (by decide) w)
theorem sX11_isSheet {S : zSh} {h : zMm} {K : Bool → zMm → Prop} {v0 : Int} (r0 : zR v0) (w : K (decide (0 ≤ v0 ∧ v0 ≤ 3)) h) : zCb mX11_isSheet [.int (zI v0)] S h K :=
  wX11_isSheet (sX11_isWithin r0 (by decide) (by decide) w)
theorem sX11_isLane {S : zSh} {h : zMm} {K : Bool → zMm → Prop} {v0 : Int} (r0 : zR v0) (w : K (decide (0 ≤ v0 ∧ v0 ≤ 2)) h) : zCb mX11_isLane [.int (zI v0)] S h K :=
  wX11_isLane (sX11_isWithin r0 (by decide) (by decide) w)
theorem sX11_isMove {S : zSh} {h : zMm} {K : Bool → zMm → Prop} {v0 v1 : Int} (r0 : zR v0) (r1 : zR v1) (w : K (decide (0 ≤ v0 ∧ v0 ≤ 3 ∧ 1 ≤ v1 ∧ v1 ≤ 5)) h) : zCb mX11_isMove [.int (zI v0), .int (zI v1)] S h K := by
  refine wX11_isMove (sX11_isWay r0 ?_)
  simp only [decide_eq_true_eq, decide_eq_false_iff_not]
  refine ⟨fun c => ?_, fun c => sX11_isWithin r1 (by decide) (by decide) ?_⟩
  · rw [decide_eq_false (by omega)] at w
    exact w
  · by_cases c2 : 1 ≤ v1 ∧ v1 ≤ 5
    · rw [decide_eq_true (by omega)] at w
      simpa [c2] using w
    · rw [decide_eq_false (by omega)] at w
      simpa [c2] using w
theorem sX11_isRobot {S : zSh} {h : zMm} {K : Bool → zMm → Prop} {v0 v1 v2 v3 : Int} (r0 : zR v0) (r1 : zR v1) (r2 : zR v2) (r3 : zR v3) (w : K (decide (0 ≤ v0 ∧ v0 < 36 ∧ 0 ≤ v1 ∧ v1 ≤ 3 ∧ 0 ≤ v2 ∧ v2 ≤ v3)) h) : zCb mX11_isRobot [.int (zI v0), .int (zI v1), .int (zI v2), .int (zI v3)] S h K := by
  refine wX11_isRobot (sX11_isCell r0 ?_)
  simp only [decide_eq_true_eq, decide_eq_false_iff_not]
  refine ⟨fun c => ?_, fun c => sX11_isWay r1 ?_⟩
  · rw [decide_eq_false (by omega)] at w
    exact w
  simp only [decide_eq_true_eq, decide_eq_false_iff_not]
  refine ⟨fun c => ?_, fun c2 => sX11_isWithin r2 (by decide) r3 ?_⟩
  · rw [decide_eq_false (by omega)] at w
    exact w
  · by_cases c3 : 0 ≤ v2 ∧ v2 ≤ v3
    · rw [decide_eq_true (by omega)] at w
      simpa [c3] using w
    · rw [decide_eq_false (by omega)] at w
      simpa [c3] using w
/-- quarters from one way to another -/
def zQ (a b : Int) : Int := if (b - a) % 4 = 3 then 1 else (b - a) % 4
theorem zQ_R (a b : Int) : 0 ≤ zQ a b ∧ zQ a b ≤ 2 := by unfold zQ; split <;> omega
theorem sX11_quartersBetween {S : zSh} {h : zMm} {K : Int → zMm → Prop} {v0 v1 : Int} (w : K (zQ v0 v1) h) : zCi mX11_quartersBetween [.int (zI v0), .int (zI v1)] S h K :=
  wX11_quartersBetween ⟨⟨by omega, by omega⟩, w⟩
theorem sX12_quarters {S : zSh} {h : zMm} {K : Int → zMm → Prop} {v0 v1 : Int} (w : K (zQ v0 v1) h) : zCi mX12_quarters [.int (zI v0), .int (zI v1)] S h K :=
  wX12_quarters ⟨⟨by omega, by omega⟩, w⟩
theorem sX12_in {S : zSh} {h : zMm} {K : Bool → zMm → Prop} {v0 v2 v4 : Int} (r0 : zR v0) (r2 : zR v2) (r4 : zR v4) (w : K (decide (v2 ≤ v0 ∧ v0 ≤ v4)) h) : zCb mX12_in [.long (zJ v0), .long (zJ v2), .long (zJ v4)] S h K := by
  refine wX12_in ⟨⟨by omega, by omega⟩, ⟨by omega, by omega⟩, fun c => ?_, fun c => ⟨⟨by omega, by omega⟩, ?_⟩⟩
  · rw [decide_eq_false (by omega)] at w
    exact w
  · have e : (if v4 < v0 then false else true) = decide (v2 ≤ v0 ∧ v0 ≤ v4) := by
      rw [Bool.eq_iff_iff]
      simp
      omega
    rw [e]
    exact w
theorem sX12_in' {S : zSh} {h : zMm} {K : Bool → zMm → Prop} {v0 v2 v4 : Int} (r0 : zRl v0) (r2 : zRl v2) (r4 : zRl v4) (w : K (decide (v2 ≤ v0 ∧ v0 ≤ v4)) h) : zCb mX12_in [.long (zJ v0), .long (zJ v2), .long (zJ v4)] S h K := by
  refine wX12_in ⟨r0, r2, fun c => ?_, fun c => ⟨r4, ?_⟩⟩
  · rw [decide_eq_false (by omega)] at w
    exact w
  · have e : (if v4 < v0 then false else true) = decide (v2 ≤ v0 ∧ v0 ≤ v4) := by
      rw [Bool.eq_iff_iff]
      simp
      omega
    rw [e]
    exact w
theorem sX12_isCell {S : zSh} {h : zMm} {K : Bool → zMm → Prop} {v0 : Int} (r0 : zR v0) (w : K (decide (0 ≤ v0 ∧ v0 < 36)) h) : zCb mX12_isCell [.int (zI v0)] S h K := by
  refine wX12_isCell ⟨r0, sX12_in r0 (by decide) (by decide) ?_⟩
  have e : decide (0 ≤ v0 ∧ v0 ≤ 35) = decide (0 ≤ v0 ∧ v0 < 36) := by
    rw [Bool.eq_iff_iff]
    simp
    omega
  rw [e]
  exact w
theorem sX12_isMinute {S : zSh} {h : zMm} {K : Bool → zMm → Prop} {v0 : Int} (r0 : zR v0) (w : K (decide (0 ≤ v0 ∧ v0 ≤ 999)) h) : zCb mX12_isMinute [.int (zI v0)] S h K :=
  wX12_isMinute ⟨r0, sX12_in r0 (by decide) (by decide) w⟩
theorem sX12_isMove {S : zSh} {h : zMm} {K : Bool → zMm → Prop} {v0 v1 : Int} (r0 : zR v0) (r1 : zR v1) (w : K (decide (0 ≤ v0 ∧ v0 ≤ 3 ∧ 1 ≤ v1 ∧ v1 ≤ 5)) h) : zCb mX12_isMove [.int (zI v0), .int (zI v1)] S h K := by
  refine wX12_isMove ⟨r0, sX12_in r0 (by decide) (by decide) ?_⟩
  simp only [decide_eq_true_eq, decide_eq_false_iff_not]
  refine ⟨fun c => ?_, fun c => ⟨r1, sX12_in r1 (by decide) (by decide) ?_⟩⟩
  · rw [decide_eq_false (by omega)] at w
    exact w
  · by_cases c2 : 1 ≤ v1 ∧ v1 ≤ 5
    · rw [decide_eq_true (by omega)] at w
      simpa [c2] using w
    · rw [decide_eq_false (by omega)] at w
      simpa [c2] using w
theorem sX12_isRobot {S : zSh} {h : zMm} {K : Bool → zMm → Prop} {v0 v1 : Int} (r0 : zR v0) (r1 : zR v1) (w : K (decide (0 ≤ v0 ∧ v0 < 36 ∧ 0 ≤ v1 ∧ v1 ≤ 3)) h) : zCb mX12_isRobot [.int (zI v0), .int (zI v1)] S h K := by
  refine wX12_isRobot (sX12_isCell r0 ?_)
  simp only [decide_eq_true_eq, decide_eq_false_iff_not]
  refine ⟨fun c => ?_, fun c => ⟨r1, sX12_in r1 (by decide) (by decide) ?_⟩⟩
  · rw [decide_eq_false (by omega)] at w
    exact w
  · by_cases c2 : 0 ≤ v1 ∧ v1 ≤ 3
    · rw [decide_eq_true (by omega)] at w
      simpa [c2] using w
    · rw [decide_eq_false (by omega)] at w
      simpa [c2] using w
/-! rows filled -/
def zFi (h : zMm) (o : Nat) (n x : Int) : zMm := fun a b => if a = o ∧ 0 ≤ b ∧ b < n then x else h a b
theorem zFi_off {h : zMm} {o : Nat} {n x : Int} {a : Nat} (ha : a ≠ o) (b : Int) : zFi h o n x a b = h a b := by unfold zFi; rw [if_neg (fun z => ha z.1)]
theorem zFi_in {h : zMm} {o : Nat} {n x b : Int} (h0 : 0 ≤ b) (h1 : b < n) : zFi h o n x o b = x := by unfold zFi; rw [if_pos ⟨rfl, h0, h1⟩]
theorem zFi_step (h : zMm) (o : Nat) (i x : Int) (hi : 0 ≤ i) : zU (zFi h o i x) o i x = zFi h o (i + 1) x := by
  funext a b
  unfold zU zFi
  by_cases c1 : a = o ∧ b = i
  · rw [if_pos c1, if_pos (by omega)]
  · rw [if_neg c1]
    by_cases c2 : a = o ∧ 0 ≤ b ∧ b < i
    · rw [if_pos c2, if_pos (by omega)]
    · rw [if_neg c2, if_neg (by omega)]
theorem zFi_0 (h : zMm) (o : Nat) (x : Int) : zFi h o 0 x = h := by
  funext a b
  unfold zFi
  rw [if_neg (by omega)]
theorem sJ7_fill_i {S : zSh} {h : zMm} {K : zMm → Prop} {o0 n0 : Nat} {v1 : Int} (ho0 : S[o0]? = some (20, n0, [])) (hn0 : n0 < 100000) (w : K (zFi h o0 n0 v1)) : zCv mJ7_fill_53178 [.ref o0, .int (zI v1)] S h K := by
  refine wJ7_fill_53178 ho0 (by omega) ?_
  have key : ∀ (n : Nat) (i : Int), 0 ≤ i → i + n = n0 → RR mJ7_fill_53178 0 0 5 [some (.ref o0), some (.int (zI v1)), some (.int (zI i)), some (.int (zI (n0 : Int)))] [] S (zFi h o0 i v1) (zQv S K) := by
    intro n
    induction n with
    | zero =>
      intro i h0 h1
      refine bJ7_fill_53178_5 ho0 (by omega) ⟨⟨by omega, by omega⟩, ⟨by omega, by omega⟩, fun c => ?_, fun c => absurd (by omega) c⟩
      rw [show i = (n0 : Int) by omega]
      exact w
    | succ n ih =>
      intro i h0 h1
      refine bJ7_fill_53178_5 ho0 (by omega) ⟨⟨by omega, by omega⟩, ⟨by omega, by omega⟩, fun c => absurd c (by omega), fun c => ⟨⟨by omega, by omega⟩, ?_⟩⟩
      rw [zFi_step _ _ _ _ h0]
      exact ih (i + 1) (by omega) (by omega)
  have h1 := key n0 0 (by omega) (by omega)
  rw [zFi_0] at h1
  exact h1
theorem sJ7_fill_l {S : zSh} {h : zMm} {K : zMm → Prop} {o0 n0 : Nat} {v1 : Int} (ho0 : S[o0]? = some (21, n0, [])) (hn0 : n0 < 100000) (w : K (zFi h o0 n0 v1)) : zCv mJ7_fill_d0a16 [.ref o0, .long (zJ v1)] S h K := by
  refine wJ7_fill_d0a16 ho0 (by omega) ?_
  have key : ∀ (n : Nat) (i : Int), 0 ≤ i → i + n = n0 → RR mJ7_fill_d0a16 0 0 6 [some (.ref o0), some (.long (zJ v1)), none, some (.int (zI i)), some (.int (zI (n0 : Int)))] [] S (zFi h o0 i v1) (zQv S K) := by
    intro n
    induction n with
    | zero =>
      intro i h0 h1
      refine bJ7_fill_d0a16_6 ho0 (by omega) ⟨⟨by omega, by omega⟩, ⟨by omega, by omega⟩, fun c => ?_, fun c => absurd (by omega) c⟩
      rw [show i = (n0 : Int) by omega]
      exact w
    | succ n ih =>
      intro i h0 h1
      refine bJ7_fill_d0a16_6 ho0 (by omega) ⟨⟨by omega, by omega⟩, ⟨by omega, by omega⟩, fun c => absurd c (by omega), fun c => ⟨⟨by omega, by omega⟩, ?_⟩⟩
      rw [zFi_step _ _ _ _ h0]
      exact ih (i + 1) (by omega) (by omega)
  have h1 := key n0 0 (by omega) (by omega)
  rw [zFi_0] at h1
  exact h1
