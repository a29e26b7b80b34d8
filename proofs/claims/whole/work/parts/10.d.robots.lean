/-! robot, until, never, best -/
def gRob (c way rule seed n what : Int) : Prop := 0 ≤ c ∧ c < 36 ∧ 0 ≤ way ∧ way ≤ 3 ∧ 0 ≤ rule ∧ rule ≤ 3 ∧ 0 ≤ n ∧ n ≤ 999 ∧ 0 ≤ what ∧ what ≤ 5
def fRobot (a : zMm) (c way rule seed n what : Int) : Int :=
  if 0 ≤ c ∧ c < 36 ∧ 0 ≤ way ∧ way ≤ 3 ∧ 0 ≤ rule ∧ rule ≤ 3 ∧ 0 ≤ n ∧ n ≤ 999 ∧ 0 ≤ what ∧ what ≤ 5 then (if a 0 c = 2 then -2 else if what = 2 then lPc (rIt (a 0) rule n.toNat (r0 c way seed) 4) else if what = 3 then rIt (a 0) rule n.toNat (r0 c way seed) 4 else if what = 4 then rIt (a 0) rule n.toNat (r0 c way seed) 3 else if what = 5 then rIt (a 0) rule n.toNat (r0 c way seed) 2 else rIt (a 0) rule n.toNat (r0 c way seed) what) else -1
theorem cRobot {a h : zMm} {v1 v2 v3 v4 v5 v6 : Int} {K : Int → zMm → Prop} (C : CR a h) (r1 : zR v1) (r2 : zR v2) (r3 : zR v3) (r4 : zR v4) (r5 : zR v5) (r6 : zR v6) (hK : ∀ h', CR a h' → zHi81 h h' → K (fRobot a v1 v2 v3 v4 v5 v6) h') : zCl mX11_robot [.ref 0, .int (zI v1), .int (zI v2), .int (zI v3), .int (zI v4), .int (zI v5), .int (zI v6)] zS0 h K := by
  unfold fRobot at hK
  refine wX11_robot (sX11_isRobot r1 r2 r3 (by decide) ?_)
  simp only [decide_eq_true_eq, decide_eq_false_iff_not]
  refine ⟨fun c => ?_, fun c => sX11_isWithin r5 (by decide) (by decide) ?_⟩
  · rw [if_neg (fun z => by omega)] at hK
    exact hK h C (fun _ _ => rfl)
  simp only [decide_eq_true_eq, decide_eq_false_iff_not]
  refine ⟨fun d => ?_, fun d => sX11_isWithin r6 (by decide) (by decide) ?_⟩
  · rw [if_neg (fun z => by omega)] at hK
    exact hK h C (fun _ _ => rfl)
  simp only [decide_eq_true_eq, decide_eq_false_iff_not]
  refine ⟨fun f => sX3_isOpen' g0_10 C.1.1.1 ⟨by omega, by omega⟩ ?_, fun f => ?_⟩
  · rw [if_pos (by omega)] at hK
    simp only [decide_eq_true_eq, decide_eq_false_iff_not]
    refine ⟨fun g => ?_, fun g => ?_⟩
    · rw [if_neg g] at hK
      refine sX6_standAt (fun h1 R1 F1 => sX6_goSteps (Kd := a 0) (by rw [F1 11 (by decide)]; exact C.1.1.1) R1 (r0_ok ⟨by omega, by omega⟩ ⟨by omega, by omega⟩ r4) (by omega) d (fun h2 R2 F2 => ?_))
      have F := F1.trans F2
      have key := hK h2 (F.CR C) F.hi
      have ok := rIt_ok (Kd := a 0) (rule := v3) v5.toNat 0 _ (r0_ok (c := v1) (way := v2) (seed := v4) ⟨by omega, by omega⟩ ⟨by omega, by omega⟩ r4)
      generalize rIt (a 0) v3 v5.toNat (r0 v1 v2 v4) = r at *
      obtain ⟨e0, e1, e2, e3, e4⟩ := R2
      obtain ⟨o0, o1, o2, o3, o4⟩ := ok
      rw [e0, e1, e2, e3, e4]
      refine ⟨r6, fun q => ⟨⟨by omega, by omega⟩, ?_⟩, fun q => ⟨⟨by omega, by omega⟩, ?_⟩, fun q => sJ13_bitCount o4 ?_, fun q => ?_, fun q => ⟨⟨by omega, by omega⟩, ?_⟩, fun q => ⟨o2, ?_⟩⟩
      · rw [if_neg (by omega), if_neg (by omega), if_neg (by omega), if_neg (by omega), q] at key
        exact key
      · rw [if_neg (by omega), if_neg (by omega), if_neg (by omega), if_neg (by omega), q] at key
        exact key
      · rw [if_pos q] at key
        have := lPc_R (r 4)
        exact ⟨⟨by omega, by omega⟩, key⟩
      · rw [if_neg (by omega), if_pos q] at key
        exact key
      · rw [if_neg (by omega), if_neg (by omega), if_pos q] at key
        exact key
      · rw [if_neg (by omega), if_neg (by omega), if_neg (by omega), if_pos (by omega)] at key
        exact key
    · rw [if_pos (by omega)] at hK
      exact hK h C (fun _ _ => rfl)
  · rw [if_neg (fun z => by omega)] at hK
    exact hK h C (fun _ _ => rfl)
theorem mRobot {a h : zMm} {v1 v2 v3 v4 v5 v6 : Int} {K : Int → zMm → Prop} (M : MR a h) (r1 : zR v1) (r2 : zR v2) (r3 : zR v3) (r4 : zR v4) (r5 : zR v5) (r6 : zR v6) (hK : ∀ h', MR a h' → zLo81 h h' → K (fRobot a v1 v2 v3 v4 v5 v6) h') : zCl mX12_robot [.ref 81, .int (zI v1), .int (zI v2), .int (zI v3), .int (zI v4), .int (zI v5), .int (zI v6)] zS0 h K := by
  unfold fRobot at hK
  refine wX12_robot (sX12_awake M ?_)
  intro h0 M0 A0 L0
  have no : ¬ (0 ≤ v1 ∧ v1 < 36 ∧ 0 ≤ v2 ∧ v2 ≤ 3 ∧ 0 ≤ v3 ∧ v3 ≤ 3 ∧ 0 ≤ v5 ∧ v5 ≤ 999 ∧ 0 ≤ v6 ∧ v6 ≤ 5) → K (-1) h0 := by
    intro c
    rw [if_neg c] at hK
    exact hK h0 M0 L0
  refine sX12_isRobot r1 r2 ?_
  simp only [decide_eq_true_eq, decide_eq_false_iff_not]
  refine ⟨fun c => no (by omega), fun c => ⟨r3, sX12_in r3 (by decide) (by decide) ?_⟩⟩
  simp only [decide_eq_true_eq, decide_eq_false_iff_not]
  refine ⟨fun d => no (by omega), fun d => sX12_isMinute r5 ?_⟩
  simp only [decide_eq_true_eq, decide_eq_false_iff_not]
  refine ⟨fun f => no (by omega), fun f => ⟨r6, sX12_in r6 (by decide) (by decide) ?_⟩⟩
  simp only [decide_eq_true_eq, decide_eq_false_iff_not]
  refine ⟨fun g => ⟨⟨by omega, by omega⟩, ?_⟩, fun g => no (by omega)⟩
  have k := A0.1.1 v1 (by omega) (by omega)
  rw [k.1]
  rw [if_pos (by omega)] at hK
  refine ⟨⟨by omega, by omega⟩, fun q => ?_, fun q => ?_⟩
  · rw [if_neg q] at hK
    have ok0 := r0_ok (c := v1) (way := v2) (seed := v4) ⟨by omega, by omega⟩ ⟨by omega, by omega⟩ r4
    refine sX12_begins (fun h1 R1 F1 => ?_)
    have loop : ∀ (m : Nat) (j : Int) (h2 : zMm) (r : Int → Int), 0 ≤ j → j + m = v5 → rM r h2 → rOk j r → rG h0 h2 → rIt (a 0) v3 m r = rIt (a 0) v3 v5.toNat (r0 v1 v2 v4) → RR mX12_robot 0 0 74 [some (.ref 81), none, none, some (.int (zI v3)), none, some (.int (zI v5)), some (.int (zI v6)), some (.int (zI j))] [] zS0 h2 (zQl zS0 K) := by
      intro m
      induction m with
      | zero =>
        intro j h2 r j0 jm R ok F e
        have e : r = rIt (a 0) v3 v5.toNat (r0 v1 v2 v4) := e
        have key := hK h2 (F.MR M0) (L0.trans F.lo)
        rw [← e] at key
        obtain ⟨e0, e1, e2, e3, e4⟩ := R
        obtain ⟨o0, o1, o2, o3, o4⟩ := ok
        refine bX12_robot_74 ⟨⟨by omega, by omega⟩, ⟨by omega, by omega⟩, fun _ => ?_, fun z => absurd (by omega) z⟩
        rw [e0, e1, e2, e3, e4]
        refine ⟨r6, fun q0 => ⟨fun q1 => ⟨fun q2 => ⟨fun q3 => ⟨fun q4 => ⟨o2, ?_⟩, fun q4 => ⟨⟨by omega, by omega⟩, ?_⟩⟩, fun q3 => ?_⟩, fun q2 => sX12_bitsOf o4 ?_⟩, fun q1 => ⟨⟨by omega, by omega⟩, ?_⟩⟩, fun q0 => ⟨⟨by omega, by omega⟩, ?_⟩⟩
        · rw [if_neg q2, if_neg q3, if_neg q4, if_pos (by omega)] at key
          exact key
        · rw [if_neg q2, if_neg q3, if_pos q4] at key
          exact key
        · rw [if_neg q2, if_pos q3] at key
          exact key
        · rw [if_pos q2] at key
          have := lPc_R (r 4)
          exact ⟨⟨by omega, by omega⟩, key⟩
        · rw [if_neg (by omega), if_neg (by omega), if_neg (by omega), if_neg (by omega), q1] at key
          exact key
        · rw [if_neg (by omega), if_neg (by omega), if_neg (by omega), if_neg (by omega), q0] at key
          exact key
      | succ m ih =>
        intro j h2 r j0 jm R ok F e
        refine bX12_robot_74 ⟨⟨by omega, by omega⟩, ⟨by omega, by omega⟩, fun z => absurd z (by omega), fun _ => sX12_robotStep (F.mA A0).1.1 R ok d (fun h3 R3 F3 => ?_)⟩
        exact rMw.nm R3 (F.trans F3) (fun h4 R4 F4 => ih (j + 1) h4 _ (by omega) (by omega) R4 (rGo_ok ok) F4 e)
    exact loop v5.toNat 0 h1 _ (by decide) (by omega) R1 ok0 F1 rfl
  · rw [if_pos q] at hK
    exact hK h0 M0 L0
/-- the first of so many steps behind which enough has been done -/
def rUn (Kd : Int → Int) (rule g b due : Int) : Nat → Int → (Int → Int) → Int
  | 0, _, _ => -4
  | m + 1, n, r => if lPc (lA (r 4) g) * b < due then rUn Kd rule g b due m (n + 1) (rGo Kd rule r) else n
theorem rUn_s (Kd : Int → Int) (rule g b due : Int) (m : Nat) (n : Int) (r : Int → Int) : rUn Kd rule g b due (m + 1) n r = if lPc (lA (r 4) g) * b < due then rUn Kd rule g b due m (n + 1) (rGo Kd rule r) else n := rfl
def fUntil (a : zMm) (c way rule seed x b : Int) : Int :=
  if 0 ≤ c ∧ c < 36 ∧ 0 ≤ way ∧ way ≤ 3 ∧ 0 ≤ rule ∧ rule ≤ 3 ∧ 1 ≤ b ∧ b ≤ 99 ∧ 0 ≤ x ∧ x ≤ b then (if a 0 c = 2 then -2 else rUn (a 0) rule (zB (gGr (a 0)) 36) b (x * lPc (zB (gGr (a 0)) 36)) 1000 0 (r0 c way seed)) else -1
theorem zMul99 {x b : Int} (hx : 0 ≤ x ∧ x ≤ 36) (hb : 0 ≤ b ∧ b ≤ 99) : 0 ≤ x * b ∧ x * b ≤ 3564 :=
  ⟨Int.mul_nonneg hx.1 hb.1, Int.le_trans (Int.mul_le_mul hx.2 hb.2 hb.1 (by decide)) (by decide)⟩
theorem cUntil {a h : zMm} {v1 v2 v3 v4 v5 v6 : Int} {K : Int → zMm → Prop} (C : CR a h) (r1 : zR v1) (r2 : zR v2) (r3 : zR v3) (r4 : zR v4) (r5 : zR v5) (r6 : zR v6) (hK : ∀ h', CR a h' → zHi81 h h' → K (fUntil a v1 v2 v3 v4 v5 v6) h') : zCi mX11_until [.ref 0, .int (zI v1), .int (zI v2), .int (zI v3), .int (zI v4), .int (zI v5), .int (zI v6)] zS0 h K := by
  unfold fUntil at hK
  have no : ¬ (0 ≤ v1 ∧ v1 < 36 ∧ 0 ≤ v2 ∧ v2 ≤ 3 ∧ 0 ≤ v3 ∧ v3 ≤ 3 ∧ 1 ≤ v6 ∧ v6 ≤ 99 ∧ 0 ≤ v5 ∧ v5 ≤ v6) → K (-1) h := by
    intro c
    rw [if_neg c] at hK
    exact hK h C (fun _ _ => rfl)
  refine wX11_until (sX11_isRobot r1 r2 r3 (by decide) ?_)
  simp only [decide_eq_true_eq, decide_eq_false_iff_not]
  refine ⟨fun c => no (by omega), fun c => sX11_isWithin r6 (by decide) (by decide) ?_⟩
  simp only [decide_eq_true_eq, decide_eq_false_iff_not]
  refine ⟨fun d => no (by omega), fun d => sX11_isWithin r5 (by decide) r6 ?_⟩
  simp only [decide_eq_true_eq, decide_eq_false_iff_not]
  refine ⟨fun f => sX3_isOpen' g0_10 C.1.1.1 ⟨by omega, by omega⟩ ?_, fun f => no (by omega)⟩
  rw [if_pos (by omega)] at hK
  simp only [decide_eq_true_eq, decide_eq_false_iff_not]
  refine ⟨fun g => ?_, fun g => ?_⟩
  · rw [if_neg g] at hK
    have gR := gB_R (a 0)
    have pg := lPc_R (zB (gGr (a 0)) 36)
    refine sX3_grassBits g0_10 C.1.1.1 (sJ13_bitCount gR (sX6_standAt (fun h1 R1 F1 => ?_)))
    have hm : 0 ≤ v5 * lPc (zB (gGr (a 0)) 36) ∧ v5 * lPc (zB (gGr (a 0)) 36) ≤ 3564 := by
      rw [Int.mul_comm]
      exact zMul99 pg ⟨by omega, by omega⟩
    have loop : ∀ (m : Nat) (j : Int) (h2 : zMm) (r : Int → Int), 0 ≤ j → j + m = 1000 → rC r h2 → rOk j r → rF h h2 → rUn (a 0) v3 (zB (gGr (a 0)) 36) v6 (v5 * lPc (zB (gGr (a 0)) 36)) m j r = rUn (a 0) v3 (zB (gGr (a 0)) 36) v6 (v5 * lPc (zB (gGr (a 0)) 36)) 1000 0 (r0 v1 v2 v4) → RR mX11_until 0 0 81 [some (.ref 0), none, none, some (.int (zI v3)), none, none, some (.int (zI v6)), some (.long (zJ (zB (gGr (a 0)) 36))), none, some (.int (zI (v5 * lPc (zB (gGr (a 0)) 36)))), some (.int (zI j))] [] zS0 h2 (zQi zS0 K) := by
      intro m
      induction m with
      | zero =>
        intro j h2 r j0 jm R ok F e
        have key := hK h2 (F.CR C) F.hi
        rw [← e] at key
        exact bX11_until_81 ⟨⟨by omega, by omega⟩, fun _ => key, fun z => absurd (by omega) z⟩
      | succ m ih =>
        intro j h2 r j0 jm R ok F e
        have key := hK h2 (F.CR C) F.hi
        have aR := lA_R ok.2.2.2.2 gR
        have pR := lPc_R (lA (r 4) (zB (gGr (a 0)) 36))
        have mR := zMul99 pR (b := v6) ⟨by omega, by omega⟩
        refine bX11_until_81 ⟨⟨by omega, by omega⟩, fun z => absurd z (by omega), fun _ => ?_⟩
        rw [R.2.2.2.2]
        rw [rUn_s _ _ _ _ _ m j r] at e
        refine sJ13_bitCount aR ⟨⟨by omega, by omega⟩, ⟨by omega, by omega⟩, fun q => ?_, fun q => ?_⟩
        · rw [if_pos q] at e
          refine sX6_goStep (Kd := a 0) (by rw [F 11 (by decide)]; exact C.1.1.1) R ok (by omega) (by omega) (fun h3 R3 F3 => ?_)
          exact rCw.nm R3 (F.trans F3) (fun h4 R4 F4 => ih (j + 1) h4 _ (by omega) (by omega) R4 (rGo_ok ok) F4 e)
        · rw [if_neg q] at e
          rw [← e] at key
          exact key
    exact loop 1000 0 h1 _ (by decide) (by decide) R1 (r0_ok ⟨by omega, by omega⟩ ⟨by omega, by omega⟩ r4) F1 rfl
  · rw [if_pos (by omega)] at hK
    exact hK h C (fun _ _ => rfl)
theorem mUntil {a h : zMm} {v1 v2 v3 v4 v5 v6 : Int} {K : Int → zMm → Prop} (M : MR a h) (r1 : zR v1) (r2 : zR v2) (r3 : zR v3) (r4 : zR v4) (r5 : zR v5) (r6 : zR v6) (hK : ∀ h', MR a h' → zLo81 h h' → K (fUntil a v1 v2 v3 v4 v5 v6) h') : zCi mX12_until [.ref 81, .int (zI v1), .int (zI v2), .int (zI v3), .int (zI v4), .int (zI v5), .int (zI v6)] zS0 h K := by
  unfold fUntil at hK
  refine wX12_until (sX12_awake M ?_)
  intro h0 M0 A0 L0
  have no : ¬ (0 ≤ v1 ∧ v1 < 36 ∧ 0 ≤ v2 ∧ v2 ≤ 3 ∧ 0 ≤ v3 ∧ v3 ≤ 3 ∧ 1 ≤ v6 ∧ v6 ≤ 99 ∧ 0 ≤ v5 ∧ v5 ≤ v6) → K (-1) h0 := by
    intro c
    rw [if_neg c] at hK
    exact hK h0 M0 L0
  refine sX12_isRobot r1 r2 ?_
  simp only [decide_eq_true_eq, decide_eq_false_iff_not]
  refine ⟨fun c => no (by omega), fun c => ⟨r3, sX12_in r3 (by decide) (by decide) ?_⟩⟩
  simp only [decide_eq_true_eq, decide_eq_false_iff_not]
  refine ⟨fun d => no (by omega), fun d => ⟨r6, sX12_in r6 (by decide) (by decide) ?_⟩⟩
  simp only [decide_eq_true_eq, decide_eq_false_iff_not]
  refine ⟨fun f => no (by omega), fun f => ⟨r5, sX12_in r5 (by decide) r6 ?_⟩⟩
  simp only [decide_eq_true_eq, decide_eq_false_iff_not]
  refine ⟨fun g => ⟨⟨by omega, by omega⟩, ?_⟩, fun g => no (by omega)⟩
  have k := A0.1.1 v1 (by omega) (by omega)
  rw [k.1]
  rw [if_pos (by omega)] at hK
  refine ⟨⟨by omega, by omega⟩, fun q => ?_, fun q => ?_⟩
  · rw [if_neg q] at hK
    have gR := gB_R (a 0)
    have pg := lPc_R (zB (gGr (a 0)) 36)
    have hm : 0 ≤ v5 * lPc (zB (gGr (a 0)) 36) ∧ v5 * lPc (zB (gGr (a 0)) 36) ≤ 3564 := by
      rw [Int.mul_comm]
      exact zMul99 pg ⟨by omega, by omega⟩
    refine sX12_begins (fun h1 R1 F1 => sX12_grass (F1.mA A0).1.1 ?_)
    have loop : ∀ (m : Nat) (j : Int) (h2 : zMm) (r : Int → Int), 0 ≤ j → j + m = 1000 → rM r h2 → rOk j r → rG h0 h2 → rUn (a 0) v3 (zB (gGr (a 0)) 36) v6 (v5 * lPc (zB (gGr (a 0)) 36)) m j r = rUn (a 0) v3 (zB (gGr (a 0)) 36) v6 (v5 * lPc (zB (gGr (a 0)) 36)) 1000 0 (r0 v1 v2 v4) → RR mX12_until 0 0 82 [some (.ref 81), none, none, some (.int (zI v3)), none, some (.int (zI v5)), some (.int (zI v6)), some (.long (zJ (zB (gGr (a 0)) 36))), none, some (.int (zI j))] [] zS0 h2 (zQi zS0 K) := by
      intro m
      induction m with
      | zero =>
        intro j h2 r j0 jm R ok F e
        have key := hK h2 (F.MR M0) (L0.trans F.lo)
        rw [← e] at key
        exact bX12_until_82 ⟨⟨by omega, by omega⟩, fun _ => key, fun z => absurd (by omega) z⟩
      | succ m ih =>
        intro j h2 r j0 jm R ok F e
        have key := hK h2 (F.MR M0) (L0.trans F.lo)
        have aR := lA_R ok.2.2.2.2 gR
        have pR := lPc_R (lA (r 4) (zB (gGr (a 0)) 36))
        have mR := zMul99 pR (b := v6) ⟨by omega, by omega⟩
        refine bX12_until_82 ⟨⟨by omega, by omega⟩, fun z => absurd z (by omega), fun _ => ?_⟩
        rw [R.2.2.2.2]
        rw [rUn_s _ _ _ _ _ m j r] at e
        refine sX12_bitsOf aR (sX12_bitsOf gR ⟨⟨by omega, by omega⟩, ⟨by omega, by omega⟩, fun q => ?_, fun q => ?_⟩)
        · rw [if_pos q] at e
          refine sX12_robotStep (F.mA A0).1.1 R ok d (fun h3 R3 F3 => ?_)
          exact rMw.nm R3 (F.trans F3) (fun h4 R4 F4 => ih (j + 1) h4 _ (by omega) (by omega) R4 (rGo_ok ok) F4 e)
        · rw [if_neg q] at e
          rw [← e] at key
          exact key
    exact loop 1000 0 h1 _ (by decide) (by decide) R1 (r0_ok ⟨by omega, by omega⟩ ⟨by omega, by omega⟩ r4) F1 rfl
  · rw [if_pos q] at hK
    exact hK h0 M0 L0
/-! never: behind as many steps as there are stands nothing is new -/
theorem zPig : ∀ (N : Nat) (f : Nat → Nat), (∀ k, k ≤ N → f k < N) → ∃ i j, i < j ∧ j ≤ N ∧ f i = f j := by
  intro N
  induction N with
  | zero => intro f h; have := h 0 (Nat.le_refl _); omega
  | succ N ih =>
    intro f h
    by_cases c : ∃ k, k ≤ N ∧ f k = f (N + 1)
    · obtain ⟨k, k1, k2⟩ := c
      exact ⟨k, N + 1, by omega, Nat.le_refl _, k2⟩
    · have h1 := ih (fun k => if f k = N then f (N + 1) else f k) (fun k hk => by
        have a := h k (by omega)
        have b := h (N + 1) (Nat.le_refl _)
        have d : ¬ f k = f (N + 1) := fun z => c ⟨k, hk, z⟩
        show (if f k = N then f (N + 1) else f k) < N
        split <;> omega)
      obtain ⟨i, j, i1, j1, e⟩ := h1
      have e : (if f i = N then f (N + 1) else f i) = (if f j = N then f (N + 1) else f j) := e
      have d1 : ¬ f i = f (N + 1) := fun z => c ⟨i, by omega, z⟩
      have d2 : ¬ f j = f (N + 1) := fun z => c ⟨j, by omega, z⟩
      refine ⟨i, j, i1, by omega, ?_⟩
      split at e <;> split at e <;> omega
def zTe (b x : Int) : Bool := b.toNat.testBit x.toNat
theorem zTe_or {b x y : Int} (hb : 0 ≤ b ∧ b < 68719476736) (hx : 0 ≤ x ∧ x < 36) (hy : 0 ≤ y ∧ y < 36) : zTe (lO b (lSl 1 x)) y = (zTe b y || decide (y = x)) := by
  have h9 := lSl_R hx
  unfold zTe
  rw [lO_is ⟨by omega, by omega⟩ ⟨by omega, by omega⟩, lSl_1 hx, Int.toNat_natCast, Int.toNat_natCast, Nat.testBit_or, Nat.testBit_two_pow]
  have : decide (x.toNat = y.toNat) = decide (y = x) := by
    rw [Bool.eq_iff_iff]
    simp
    omega
  rw [this]
theorem zTe_id {b x : Int} (hb : 0 ≤ b ∧ b < 68719476736) (hx : 0 ≤ x ∧ x < 36) (h : zTe b x = true) : lO b (lSl 1 x) = b := by
  have h9 := lSl_R hx
  rw [lO_is ⟨by omega, by omega⟩ ⟨by omega, by omega⟩, lSl_1 hx, Int.toNat_natCast]
  have : b.toNat ||| 2 ^ x.toNat = b.toNat := by
    refine Nat.eq_of_testBit_eq (fun i => ?_)
    rw [Nat.testBit_or, Nat.testBit_two_pow]
    by_cases c : x.toNat = i
    · unfold zTe at h
      rw [← c, h]
      rfl
    · rw [decide_eq_false c, Bool.or_false]
  rw [this]
  omega
/-- where it stands by a rule without chance, and where it looks -/
theorem rGo_01 {Kd : Int → Int} {rule : Int} {r r' : Int → Int} (hr : ¬ rule = 3) (e0 : r 0 = r' 0) (e1 : r 1 = r' 1) : rGo Kd rule r 0 = rGo Kd rule r' 0 ∧ rGo Kd rule r 1 = rGo Kd rule r' 1 := by
  unfold rGo
  rw [e0, e1]
  simp only [if_neg hr]
  constructor
  · split <;> simp
  · split <;> simp
theorem rIt_01 {Kd : Int → Int} {rule : Int} (hr : ¬ rule = 3) : ∀ (n : Nat) (r r' : Int → Int), r 0 = r' 0 → r 1 = r' 1 → rIt Kd rule n r 0 = rIt Kd rule n r' 0 ∧ rIt Kd rule n r 1 = rIt Kd rule n r' 1 := by
  intro n
  induction n with
  | zero => intro r r' e0 e1; exact ⟨e0, e1⟩
  | succ n ih =>
    intro r r' e0 e1
    obtain ⟨g0, g1⟩ := rGo_01 (Kd := Kd) hr e0 e1
    exact ih _ _ g0 g1
theorem rIt_add (Kd : Int → Int) (rule : Int) : ∀ (n m : Nat) (r : Int → Int), rIt Kd rule (n + m) r = rIt Kd rule m (rIt Kd rule n r) := by
  intro n
  induction n with
  | zero => intro m r; rw [Nat.zero_add]; rfl
  | succ n ih =>
    intro m r
    rw [show n + 1 + m = (n + m) + 1 by omega]
    show rIt Kd rule (n + m) (rGo Kd rule r) = rIt Kd rule m (rIt Kd rule n (rGo Kd rule r))
    exact ih m _
theorem rGo_been {Kd : Int → Int} {rule t : Int} {r : Int → Int} (ok : rOk t r) : (∀ y : Int, 0 ≤ y → y < 36 → zTe (r 4) y = true → zTe (rGo Kd rule r 4) y = true) ∧ (zTe (r 4) (r 0) = true → zTe (rGo Kd rule r 4) (rGo Kd rule r 0) = true) ∧ (zTe (r 4) (r 0) = true → zTe (r 4) (rGo Kd rule r 0) = true → rGo Kd rule r 4 = r 4) := by
  obtain ⟨h0, h1, h2, h3, h4⟩ := ok
  have hx := zNx_R (Kd := Kd) (way := r 1) h0
  unfold rGo
  by_cases c : 0 ≤ zNx Kd (r 0) (r 1)
  · have hx2 : 0 ≤ zNx Kd (r 0) (r 1) ∧ zNx Kd (r 0) (r 1) < 36 := by omega
    simp only [if_pos c]
    refine ⟨fun y y0 y1 hy => ?_, fun _ => ?_, fun _ hb => ?_⟩
    · show zTe (lO (r 4) (lSl 1 (zNx Kd (r 0) (r 1)))) y = true
      rw [zTe_or h4 hx2 ⟨y0, y1⟩, hy]
      rfl
    · show zTe (lO (r 4) (lSl 1 (zNx Kd (r 0) (r 1)))) (zNx Kd (r 0) (r 1)) = true
      rw [zTe_or h4 hx2 hx2]
      simp
    · exact zTe_id h4 hx2 hb
  · simp only [if_neg c]
    have e4 : (if (4 : Int) = 3 then r 3 + 1 else if rule = 3 then (if (4 : Int) = 2 then rSd (r 2) else if (4 : Int) = 1 then iSr (rSd (r 2)) 16 % 4 else r 4) else (if (4 : Int) = 1 then (r 1 + (if rule = 0 then 1 else if rule = 1 then 3 else 2)) % 4 else r 4)) = r 4 := by
      rw [if_neg (by decide)]
      split
      · rw [if_neg (by decide), if_neg (by decide)]
      · rw [if_neg (by decide)]
    have e0 : (if (0 : Int) = 3 then r 3 + 1 else if rule = 3 then (if (0 : Int) = 2 then rSd (r 2) else if (0 : Int) = 1 then iSr (rSd (r 2)) 16 % 4 else r 0) else (if (0 : Int) = 1 then (r 1 + (if rule = 0 then 1 else if rule = 1 then 3 else 2)) % 4 else r 0)) = r 0 := by
      rw [if_neg (by decide)]
      split
      · rw [if_neg (by decide), if_neg (by decide)]
      · rw [if_neg (by decide)]
    rw [e4, e0]
    exact ⟨fun _ _ _ hy => hy, fun hy => hy, fun _ _ => rfl⟩
theorem rNever {Kd : Int → Int} {rule c way seed : Int} (hr : ¬ rule = 3) (hc : 0 ≤ c ∧ c < 36) (hw : 0 ≤ way ∧ way ≤ 3) (hs : zR seed) : rIt Kd rule 200 (r0 c way seed) 4 = rIt Kd rule 144 (r0 c way seed) 4 := by
  have ok0 := r0_ok hc hw hs
  have ok : ∀ n : Nat, rOk (0 + (n : Int)) (rIt Kd rule n (r0 c way seed)) := fun n => rIt_ok n 0 _ ok0
  -- it stands twice alike
  obtain ⟨i, j, ij, jN, e⟩ := zPig 144 (fun k => (4 * rIt Kd rule k (r0 c way seed) 0 + rIt Kd rule k (r0 c way seed) 1).toNat) (fun k _ => by
    obtain ⟨o0, o1, -⟩ := ok k
    show (4 * rIt Kd rule k (r0 c way seed) 0 + rIt Kd rule k (r0 c way seed) 1).toNat < 144
    omega)
  have e : (4 * rIt Kd rule i (r0 c way seed) 0 + rIt Kd rule i (r0 c way seed) 1).toNat = (4 * rIt Kd rule j (r0 c way seed) 0 + rIt Kd rule j (r0 c way seed) 1).toNat := e
  obtain ⟨i0, i1, -⟩ := ok i
  obtain ⟨j0, j1, -⟩ := ok j
  have ring : ∀ m : Nat, rIt Kd rule (j + m) (r0 c way seed) 0 = rIt Kd rule (i + m) (r0 c way seed) 0 := by
    intro m
    rw [rIt_add, rIt_add]
    exact (rIt_01 hr m _ _ (by omega) (by omega)).1
  have old : ∀ (N k : Nat), k ≤ N → ∃ k', k' ≤ 144 ∧ rIt Kd rule k (r0 c way seed) 0 = rIt Kd rule k' (r0 c way seed) 0 := by
    intro N
    induction N with
    | zero => intro k hk; exact ⟨k, by omega, rfl⟩
    | succ N ih =>
      intro k hk
      by_cases ck : k ≤ 144
      · exact ⟨k, ck, rfl⟩
      · have r1 := ring (k - j)
        rw [show j + (k - j) = k by omega] at r1
        obtain ⟨k', p1, p2⟩ := ih (i + (k - j)) (by omega)
        exact ⟨k', p1, r1.trans p2⟩
  have mono : ∀ (m n : Nat) (y : Int), 0 ≤ y → y < 36 → zTe (rIt Kd rule n (r0 c way seed) 4) y = true → zTe (rIt Kd rule (n + m) (r0 c way seed) 4) y = true := by
    intro m
    induction m with
    | zero => intro n y _ _ h; exact h
    | succ m ih =>
      intro n y y0 y1 h
      rw [show n + (m + 1) = (n + m) + 1 by omega, rIt_s]
      exact (rGo_been (ok (n + m))).1 y y0 y1 (ih n y y0 y1 h)
  have here : ∀ n : Nat, zTe (rIt Kd rule n (r0 c way seed) 4) (rIt Kd rule n (r0 c way seed) 0) = true := by
    intro n
    induction n with
    | zero =>
      show zTe (lSl 1 c) c = true
      have := zTe_or (b := 0) (x := c) (y := c) ⟨by decide, by decide⟩ hc hc
      have h9 := lSl_R hc
      rw [show lO 0 (lSl 1 c) = lSl 1 c by
        rw [lO_is ⟨by decide, by decide⟩ ⟨by omega, by omega⟩]
        have : (0 : Int).toNat ||| (lSl 1 c).toNat = (lSl 1 c).toNat := Nat.zero_or _
        rw [this]
        omega] at this
      rw [this]
      simp
    | succ n ih =>
      rw [rIt_s]
      exact (rGo_been (ok n)).2.1 ih
  have stay : ∀ m : Nat, rIt Kd rule (144 + m) (r0 c way seed) 4 = rIt Kd rule 144 (r0 c way seed) 4 := by
    intro m
    induction m with
    | zero => rfl
    | succ m ih =>
      rw [← ih, show 144 + (m + 1) = (144 + m) + 1 by omega, rIt_s]
      refine (rGo_been (ok (144 + m))).2.2 (here _) ?_
      rw [← rIt_s]
      obtain ⟨k', p1, p2⟩ := old (144 + m + 1) (144 + m + 1) (Nat.le_refl _)
      rw [p2]
      obtain ⟨o0, -⟩ := ok k'
      have := mono (144 + m - k') k' _ o0.1 o0.2 (here k')
      rw [show k' + (144 + m - k') = 144 + m by omega] at this
      exact this
  exact stay 56
def fNever (a : zMm) (c way rule : Int) : Int :=
  if 0 ≤ c ∧ c < 36 ∧ 0 ≤ way ∧ way ≤ 3 ∧ 0 ≤ rule ∧ rule ≤ 2 then (if a 0 c = 2 then -2 else lA (zB (gGr (a 0)) 36) (lX (rIt (a 0) rule 144 (r0 c way 0) 4) (-1))) else -1
theorem cNever {a h : zMm} {v1 v2 v3 : Int} {K : Int → zMm → Prop} (C : CR a h) (r1 : zR v1) (r2 : zR v2) (r3 : zR v3) (hK : ∀ h', CR a h' → zHi81 h h' → K (fNever a v1 v2 v3) h') : zCl mX11_never [.ref 0, .int (zI v1), .int (zI v2), .int (zI v3)] zS0 h K := by
  unfold fNever at hK
  refine wX11_never (sX11_isRobot r1 r2 r3 (by decide) ?_)
  simp only [decide_eq_true_eq, decide_eq_false_iff_not]
  refine ⟨fun c => sX3_isOpen' g0_10 C.1.1.1 ⟨by omega, by omega⟩ ?_, fun c => ?_⟩
  · rw [if_pos c] at hK
    simp only [decide_eq_true_eq, decide_eq_false_iff_not]
    refine ⟨fun g => ?_, fun g => ?_⟩
    · rw [if_neg g] at hK
      refine sX6_standAt (fun h1 R1 F1 => sX6_goSteps (Kd := a 0) (n := 144) (by rw [F1 11 (by decide)]; exact C.1.1.1) R1 (r0_ok ⟨by omega, by omega⟩ ⟨by omega, by omega⟩ (by decide)) (by omega) (by decide) (fun h2 R2 F2 => ?_))
      have F := F1.trans F2
      refine sX3_grassBits g0_10 (by rw [show (10 : Nat) + 1 = 11 from rfl, F 11 (by decide)]; exact C.1.1.1) ?_
      rw [R2.2.2.2.2]
      exact hK h2 (F.CR C) F.hi
    · rw [if_pos (by omega)] at hK
      exact hK h C (fun _ _ => rfl)
  · rw [if_neg c] at hK
    exact hK h C (fun _ _ => rfl)
theorem mNever {a h : zMm} {v1 v2 v3 : Int} {K : Int → zMm → Prop} (M : MR a h) (r1 : zR v1) (r2 : zR v2) (r3 : zR v3) (hK : ∀ h', MR a h' → zLo81 h h' → K (fNever a v1 v2 v3) h') : zCl mX12_never [.ref 81, .int (zI v1), .int (zI v2), .int (zI v3)] zS0 h K := by
  unfold fNever at hK
  refine wX12_never (sX12_awake M ?_)
  intro h0 M0 A0 L0
  have no : ¬ (0 ≤ v1 ∧ v1 < 36 ∧ 0 ≤ v2 ∧ v2 ≤ 3 ∧ 0 ≤ v3 ∧ v3 ≤ 2) → K (-1) h0 := by
    intro c
    rw [if_neg c] at hK
    exact hK h0 M0 L0
  refine sX12_isRobot r1 r2 ?_
  simp only [decide_eq_true_eq, decide_eq_false_iff_not]
  refine ⟨fun c => no (by omega), fun c => ⟨r3, sX12_in r3 (by decide) (by decide) ?_⟩⟩
  simp only [decide_eq_true_eq, decide_eq_false_iff_not]
  refine ⟨fun d => ⟨⟨by omega, by omega⟩, ?_⟩, fun d => no (by omega)⟩
  have k := A0.1.1 v1 (by omega) (by omega)
  rw [k.1]
  rw [if_pos (by omega)] at hK
  refine ⟨⟨by omega, by omega⟩, fun q => ?_, fun q => ?_⟩
  · rw [if_neg q, ← rNever (by omega) ⟨by omega, by omega⟩ ⟨by omega, by omega⟩ (by decide)] at hK
    refine sX12_begins (fun h1 R1 F1 => ?_)
    have loop : ∀ (m : Nat) (j : Int) (h2 : zMm) (r : Int → Int), 0 ≤ j → j + m = 200 → rM r h2 → rOk j r → rG h0 h2 → rIt (a 0) v3 m r = rIt (a 0) v3 200 (r0 v1 v2 0) → RR mX12_never 0 0 52 [some (.ref 81), none, none, some (.int (zI v3)), some (.int (zI j))] [] zS0 h2 (zQl zS0 K) := by
      intro m
      induction m with
      | zero =>
        intro j h2 r j0 jm R ok F e
        have e : r = rIt (a 0) v3 200 (r0 v1 v2 0) := e
        refine bX12_never_52 ⟨⟨by omega, by omega⟩, fun _ => sX12_grass (F.mA A0).1.1 ?_, fun z => absurd (by omega) z⟩
        rw [R.2.2.2.2, e]
        exact hK h2 (F.MR M0) (L0.trans F.lo)
      | succ m ih =>
        intro j h2 r j0 jm R ok F e
        refine bX12_never_52 ⟨⟨by omega, by omega⟩, fun z => absurd z (by omega), fun _ => sX12_robotStep (F.mA A0).1.1 R ok ⟨by omega, by omega⟩ (fun h3 R3 F3 => ?_)⟩
        exact rMw.nm R3 (F.trans F3) (fun h4 R4 F4 => ih (j + 1) h4 _ (by omega) (by omega) R4 (rGo_ok ok) F4 e)
    exact loop 200 0 h1 _ (by decide) (by decide) R1 (r0_ok ⟨by omega, by omega⟩ ⟨by omega, by omega⟩ (by decide)) F1 rfl
  · rw [if_pos q] at hK
    exact hK h0 M0 L0
/-! best -/
def rBs (a : zMm) (c way seed n : Int) : Nat → Int × Int
  | 0 => (0, -1)
  | k + 1 => if lPc (lA (rIt (a 0) (k : Int) n.toNat (r0 c way seed) 4) (zB (gGr (a 0)) 36)) ≤ (rBs a c way seed n k).2 then rBs a c way seed n k else ((k : Int), lPc (lA (rIt (a 0) (k : Int) n.toNat (r0 c way seed) 4) (zB (gGr (a 0)) 36)))
theorem rBs_R (a : zMm) (c way seed n : Int) : ∀ k : Nat, -1 ≤ (rBs a c way seed n k).2 ∧ (rBs a c way seed n k).2 ≤ 36 := by
  intro k
  induction k with
  | zero => exact ⟨Int.le_refl _, by show (-1 : Int) ≤ 36; decide⟩
  | succ k ih =>
    unfold rBs
    split
    · exact ih
    · have := lPc_R (lA (rIt (a 0) (k : Int) n.toNat (r0 c way seed) 4) (zB (gGr (a 0)) 36))
      exact ⟨by show -1 ≤ lPc _; omega, by show lPc _ ≤ 36; omega⟩
def fBest (a : zMm) (c way seed n what : Int) : Int :=
  if 0 ≤ c ∧ c < 36 ∧ 0 ≤ way ∧ way ≤ 3 ∧ 0 ≤ n ∧ n ≤ 999 ∧ 0 ≤ what ∧ what ≤ 1 then (if a 0 c = 2 then -2 else if what = 0 then (rBs a c way seed n 4).1 else (rBs a c way seed n 4).2) else -1
theorem cBest {a h : zMm} {v1 v2 v3 v4 v5 : Int} {K : Int → zMm → Prop} (C : CR a h) (r1 : zR v1) (r2 : zR v2) (r3 : zR v3) (r4 : zR v4) (r5 : zR v5) (hK : ∀ h', CR a h' → zHi81 h h' → K (fBest a v1 v2 v3 v4 v5) h') : zCi mX11_best [.ref 0, .int (zI v1), .int (zI v2), .int (zI v3), .int (zI v4), .int (zI v5)] zS0 h K := by
  unfold fBest at hK
  have no : ¬ (0 ≤ v1 ∧ v1 < 36 ∧ 0 ≤ v2 ∧ v2 ≤ 3 ∧ 0 ≤ v4 ∧ v4 ≤ 999 ∧ 0 ≤ v5 ∧ v5 ≤ 1) → K (-1) h := by
    intro c
    rw [if_neg c] at hK
    exact hK h C (fun _ _ => rfl)
  refine wX11_best (sX11_isRobot r1 r2 (by decide) (by decide) ?_)
  simp only [decide_eq_true_eq, decide_eq_false_iff_not]
  refine ⟨fun c => no (by omega), fun c => sX11_isWithin r4 (by decide) (by decide) ?_⟩
  simp only [decide_eq_true_eq, decide_eq_false_iff_not]
  refine ⟨fun d => no (by omega), fun d => sX11_isWithin r5 (by decide) (by decide) ?_⟩
  simp only [decide_eq_true_eq, decide_eq_false_iff_not]
  refine ⟨fun f => sX3_isOpen' g0_10 C.1.1.1 ⟨by omega, by omega⟩ ?_, fun f => no (by omega)⟩
  rw [if_pos (by omega)] at hK
  simp only [decide_eq_true_eq, decide_eq_false_iff_not]
  refine ⟨fun g => ?_, fun g => ?_⟩
  · rw [if_neg g] at hK
    have loop : ∀ (m k : Nat) (h1 : zMm), k + m = 4 → rF h h1 → RR mX11_best 0 0 57 [some (.ref 0), some (.int (zI v1)), some (.int (zI v2)), some (.int (zI v3)), some (.int (zI v4)), some (.int (zI v5)), some (.int (zI (rBs a v1 v2 v3 v4 k).1)), some (.int (zI (rBs a v1 v2 v3 v4 k).2)), some (.int (zI (k : Int))), none] [] zS0 h1 (zQi zS0 K) := by
      intro m
      induction m with
      | zero =>
        intro k h1 hk F
        refine bX11_best_57 ⟨⟨by omega, by omega⟩, fun _ => ⟨r5, ?_⟩, fun z => absurd (by omega) z⟩
        rw [show k = 4 by omega]
        exact hK h1 (F.CR C) F.hi
      | succ m ih =>
        intro k h1 hk F
        have bR := rBs_R a v1 v2 v3 v4 k
        refine bX11_best_57 ⟨⟨by omega, by omega⟩, fun z => absurd z (by omega), fun _ => sX6_standAt (fun h2 R2 F2 => sX6_goSteps (Kd := a 0) (by rw [F2 11 (by decide), F 11 (by decide)]; exact C.1.1.1) R2 (r0_ok ⟨by omega, by omega⟩ ⟨by omega, by omega⟩ r3) ⟨by omega, by omega⟩ d (fun h3 R3 F3 => ?_))⟩
        have F4 := (F.trans F2).trans F3
        have ok := rIt_ok (Kd := a 0) (rule := (k : Int)) v4.toNat 0 _ (r0_ok (c := v1) (way := v2) (seed := v3) ⟨by omega, by omega⟩ ⟨by omega, by omega⟩ r3)
        refine sX3_grassBits g0_10 (by rw [show (10 : Nat) + 1 = 11 from rfl, F4 11 (by decide)]; exact C.1.1.1) ?_
        rw [R3.2.2.2.2]
        have aR := lA_R ok.2.2.2.2 (gB_R (a 0))
        have pR := lPc_R (lA (rIt (a 0) (k : Int) v4.toNat (r0 v1 v2 v3) 4) (zB (gGr (a 0)) 36))
        refine sJ13_bitCount aR ⟨⟨by omega, by omega⟩, ⟨by omega, by omega⟩, ?_⟩
        have next := ih (k + 1) h3 (by omega) F4
        rw [show ((k + 1 : Nat) : Int) = (k : Int) + 1 by omega] at next
        have es : rBs a v1 v2 v3 v4 (k + 1) = if lPc (lA (rIt (a 0) (k : Int) v4.toNat (r0 v1 v2 v3) 4) (zB (gGr (a 0)) 36)) ≤ (rBs a v1 v2 v3 v4 k).2 then rBs a v1 v2 v3 v4 k else ((k : Int), lPc (lA (rIt (a 0) (k : Int) v4.toNat (r0 v1 v2 v3) 4) (zB (gGr (a 0)) 36))) := rfl
        rw [es] at next
        by_cases q : lPc (lA (rIt (a 0) (k : Int) v4.toNat (r0 v1 v2 v3) 4) (zB (gGr (a 0)) 36)) ≤ (rBs a v1 v2 v3 v4 k).2
        · rw [if_pos q] at next
          rw [if_pos q, if_pos q]
          exact next
        · rw [if_neg q] at next
          rw [if_neg q, if_neg q]
          exact next
    exact loop 4 0 h (by decide) (fun _ _ => rfl)
  · rw [if_pos (by omega)] at hK
    exact hK h C (fun _ _ => rfl)
theorem mBest {a h : zMm} {v1 v2 v3 v4 v5 : Int} {K : Int → zMm → Prop} (M : MR a h) (r1 : zR v1) (r2 : zR v2) (r3 : zR v3) (r4 : zR v4) (r5 : zR v5) (hK : ∀ h', MR a h' → zLo81 h h' → K (fBest a v1 v2 v3 v4 v5) h') : zCi mX12_best [.ref 81, .int (zI v1), .int (zI v2), .int (zI v3), .int (zI v4), .int (zI v5)] zS0 h K := by
  unfold fBest at hK
  refine wX12_best (sX12_awake M ?_)
  intro h0 M0 A0 L0
  have no : ¬ (0 ≤ v1 ∧ v1 < 36 ∧ 0 ≤ v2 ∧ v2 ≤ 3 ∧ 0 ≤ v4 ∧ v4 ≤ 999 ∧ 0 ≤ v5 ∧ v5 ≤ 1) → K (-1) h0 := by
    intro c
    rw [if_neg c] at hK
    exact hK h0 M0 L0
  refine sX12_isRobot r1 r2 ?_
  simp only [decide_eq_true_eq, decide_eq_false_iff_not]
  refine ⟨fun c => no (by omega), fun c => sX12_isMinute r4 ?_⟩
  simp only [decide_eq_true_eq, decide_eq_false_iff_not]
  refine ⟨fun d => no (by omega), fun d => ⟨r5, sX12_in r5 (by decide) (by decide) ?_⟩⟩
  simp only [decide_eq_true_eq, decide_eq_false_iff_not]
  refine ⟨fun f => ⟨⟨by omega, by omega⟩, ?_⟩, fun f => no (by omega)⟩
  have k := A0.1.1 v1 (by omega) (by omega)
  rw [k.1]
  rw [if_pos (by omega)] at hK
  refine ⟨⟨by omega, by omega⟩, fun q => ?_, fun q => ?_⟩
  · rw [if_neg q] at hK
    have ok0 := r0_ok (c := v1) (way := v2) (seed := v3) ⟨by omega, by omega⟩ ⟨by omega, by omega⟩ r3
    have loop : ∀ (m k : Nat) (h1 : zMm), k + m = 4 → rG h0 h1 → RR mX12_best 0 0 55 [some (.ref 81), some (.int (zI v1)), some (.int (zI v2)), some (.int (zI v3)), some (.int (zI v4)), some (.int (zI v5)), some (.int (zI (rBs a v1 v2 v3 v4 k).1)), some (.int (zI (rBs a v1 v2 v3 v4 k).2)), some (.int (zI (k : Int))), none] [] zS0 h1 (zQi zS0 K) := by
      intro m
      induction m with
      | zero =>
        intro k h1 hk F
        refine bX12_best_55 ⟨⟨by omega, by omega⟩, fun _ => ⟨r5, ?_⟩, fun z => absurd (by omega) z⟩
        rw [show k = 4 by omega]
        exact hK h1 (F.MR M0) (L0.trans F.lo)
      | succ m ih =>
        intro k h1 hk F
        have bR := rBs_R a v1 v2 v3 v4 k
        refine bX12_best_55 ⟨⟨by omega, by omega⟩, fun z => absurd z (by omega), fun _ => sX12_begins (fun h2 R2 F2 => ?_)⟩
        have inner : ∀ (mm : Nat) (j : Int) (h3 : zMm) (r : Int → Int), 0 ≤ j → j + mm = v4 → rM r h3 → rOk j r → rG h0 h3 → rIt (a 0) (k : Int) mm r = rIt (a 0) (k : Int) v4.toNat (r0 v1 v2 v3) → RR mX12_best 0 0 71 [some (.ref 81), some (.int (zI v1)), some (.int (zI v2)), some (.int (zI v3)), some (.int (zI v4)), some (.int (zI v5)), some (.int (zI (rBs a v1 v2 v3 v4 k).1)), some (.int (zI (rBs a v1 v2 v3 v4 k).2)), some (.int (zI (k : Int))), some (.int (zI j))] [] zS0 h3 (zQi zS0 K) := by
          intro mm
          induction mm with
          | zero =>
            intro j h3 r j0 jm R ok F3 e
            have e : r = rIt (a 0) (k : Int) v4.toNat (r0 v1 v2 v3) := e
            refine bX12_best_71 ⟨⟨by omega, by omega⟩, ⟨by omega, by omega⟩, fun _ => sX12_grass (F3.mA A0).1.1 ?_, fun z => absurd (by omega) z⟩
            rw [R.2.2.2.2]
            have aR := lA_R ok.2.2.2.2 (gB_R (a 0))
            have pR := lPc_R (lA (r 4) (zB (gGr (a 0)) 36))
            refine sX12_bitsOf aR ⟨⟨by omega, by omega⟩, ⟨by omega, by omega⟩, ?_⟩
            have next := ih (k + 1) h3 (by omega) F3
            rw [show ((k + 1 : Nat) : Int) = (k : Int) + 1 by omega] at next
            have es : rBs a v1 v2 v3 v4 (k + 1) = if lPc (lA (rIt (a 0) (k : Int) v4.toNat (r0 v1 v2 v3) 4) (zB (gGr (a 0)) 36)) ≤ (rBs a v1 v2 v3 v4 k).2 then rBs a v1 v2 v3 v4 k else ((k : Int), lPc (lA (rIt (a 0) (k : Int) v4.toNat (r0 v1 v2 v3) 4) (zB (gGr (a 0)) 36))) := rfl
            rw [es, ← e] at next
            by_cases q : lPc (lA (r 4) (zB (gGr (a 0)) 36)) ≤ (rBs a v1 v2 v3 v4 k).2
            · rw [if_pos q] at next
              rw [if_pos q, if_pos q]
              exact next
            · rw [if_neg q] at next
              rw [if_neg q, if_neg q]
              exact next
          | succ mm ihm =>
            intro j h3 r j0 jm R ok F3 e
            refine bX12_best_71 ⟨⟨by omega, by omega⟩, ⟨by omega, by omega⟩, fun z => absurd z (by omega), fun _ => sX12_robotStep (F3.mA A0).1.1 R ok ⟨by omega, by omega⟩ (fun h4 R4 F4 => ?_)⟩
            exact rMw.nm R4 (F3.trans F4) (fun h5 R5 F5 => ihm (j + 1) h5 _ (by omega) (by omega) R5 (rGo_ok ok) F5 e)
        exact inner v4.toNat 0 h2 _ (by decide) (by omega) R2 ok0 (F.trans F2) rfl
    exact loop 4 0 h0 (by decide) (rG.rf h0)
  · rw [if_pos q] at hK
    exact hK h0 M0 L0
