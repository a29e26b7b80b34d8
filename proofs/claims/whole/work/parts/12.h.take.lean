/-! TEXT: the class takes a rule, a sun, a row -/
theorem sX9_takeRule {a h : zMm} {K : Bool → zMm → Prop} {s m : Int} (T : gTa a) (C : cT a h) (hs : h 1 4 = s) (s0 : 0 ≤ s ∧ s ≤ a 7 1) (hm : 0 ≤ m ∧ m ≤ 7) (w1 : yNum a s (yLo m) (yHi m) = 0 → ∀ h', gRd a h s h' → K true (zU h' 9 m (gNu a s))) (w0 : ¬ yNum a s (yLo m) (yHi m) = 0 → ∀ h', gRd a h s h' → K false (zU (zU h' 3 1 (yNum a s (yLo m) (yHi m))) 3 2 (gSb a s))) : zCb mX9_takeRule [.ref 3, .ref 1, .int (zI m)] zS0 h K := by
  have hb : ∀ k : Nat, k < 8 → zR (yLo (k : Int)) ∧ zR (yHi (k : Int)) := by decide
  have hb2 := hb m.toNat (by omega)
  rw [show ((m.toNat : Nat) : Int) = m by omega] at hb2
  refine wX9_takeRule (sX11_isWithin ⟨by omega, by omega⟩ (by decide) (by decide) ?_)
  simp only [decide_eq_true_eq, decide_eq_false_iff_not]
  refine ⟨fun c => absurd (show 0 ≤ m ∧ m ≤ 7 from hm) c, fun _ => ⟨⟨by omega, by omega⟩, ⟨by omega, by omega⟩, ?_⟩⟩
  refine sX9_takeNumber (lo := yLo m) (hi := yHi m) T C hs s0 hb2.1 hb2.2 (fun c h' R => ⟨fun _ => ?_, fun z => absurd z (by decide)⟩) (fun c h' R => ⟨fun z => absurd z (by decide), fun _ => w0 c h' R⟩)
  have t2 : gTk a s = 2 := by
    refine Classical.byContradiction (fun z => ?_)
    have e : ¬ yDue a s 2 = 0 := by
      unfold yDue
      by_cases q : gTk a s = 0
      · rw [if_pos q]; decide
      · rw [if_neg q, if_neg z]; decide
    unfold yNum at c
    rw [if_pos e] at c
    exact e c
  rw [R.2.2.2.2.2 t2]
  exact w1 c h' R
theorem yNum_0 {a : zMm} {s lo hi : Int} (c : yNum a s lo hi = 0) : gTk a s = 2 ∧ lo ≤ gNu a s ∧ gNu a s ≤ hi := by
  by_cases e : yDue a s 2 = 0
  · unfold yNum at c
    rw [if_neg (fun z => z e)] at c
    by_cases q : lo ≤ gNu a s ∧ gNu a s ≤ hi
    · refine ⟨?_, q⟩
      refine Classical.byContradiction (fun z => ?_)
      unfold yDue at e
      by_cases q0 : gTk a s = 0
      · rw [if_pos q0] at e; exact absurd e (by decide)
      · rw [if_neg q0, if_neg z] at e; exact absurd e (by decide)
    · rw [if_neg q] at c; exact absurd c (by decide)
  · unfold yNum at c
    rw [if_pos e] at c
    exact absurd c e
theorem gRd.C {a h h' : zMm} {s : Int} (C : cT a h) (R : gRd a h s h') : cT a h' := cT_of C R.1 R.2.1
theorem sX9_takeSun {a h : zMm} {K : Bool → zMm → Prop} {s : Int} {P : Int → Bool} (T : gTa a) (C : cT a h) (hs : h 1 4 = s) (s0 : 0 ≤ s ∧ s ≤ a 7 1) (hP : h 3 6 = zB P 36)
    (w1 : yNum a s 0 35 = 0 → P (gNu a s) = false → yNum a (gEn a s) 0 9 = 0 → ∀ h1 h', gRd a h s h1 → gRd a (zU h1 3 6 (zB (fun x => P x || decide (x = gNu a s)) 36)) (gEn a s) h' → K true (zU h' 7 (gNu a s) (gNu a (gEn a s))))
    (w0 : ¬ yNum a s 0 35 = 0 → ∀ h', gRd a h s h' → K false (zU (zU h' 3 1 (yNum a s 0 35)) 3 2 (gSb a s)))
    (w4 : yNum a s 0 35 = 0 → P (gNu a s) = true → ∀ h', gRd a h s h' → K false (zU (zU h' 3 1 4) 3 2 (gSb a s)))
    (w5 : yNum a s 0 35 = 0 → P (gNu a s) = false → ¬ yNum a (gEn a s) 0 9 = 0 → ∀ h1 h', gRd a h s h1 → gRd a (zU h1 3 6 (zB (fun x => P x || decide (x = gNu a s)) 36)) (gEn a s) h' → K false (zU (zU h' 3 1 (yNum a (gEn a s) 0 9)) 3 2 (gSb a (gEn a s)))) : zCb mX9_takeSun [.ref 3, .ref 1] zS0 h K := by
  refine wX9_takeSun (sX9_takeNumber T C hs s0 (by decide) (by decide) (fun c h1 R => ⟨fun _ => ?_, fun z => absurd z (by decide)⟩) (fun c h1 R => ⟨fun z => absurd z (by decide), fun _ => w0 c h1 R⟩))
  obtain ⟨t2, n0, n1⟩ := yNum_0 c
  obtain ⟨e1, e2, -, -⟩ := gEn_in T s0.1 s0.2
  have e3 := gSb_in s0.2
  have h15 := R.2.2.2.2.2 t2
  have h36 : h1 3 6 = zB P 36 := by rw [R.1 3 (by decide)]; exact hP
  rw [h15, h36, zB_bitL ⟨n0, by omega⟩]
  by_cases p : P (gNu a s) = true
  · rw [if_pos p]
    refine ⟨by decide, fun z => absurd rfl z, fun _ => ?_⟩
    rw [R.2.2.2.1]
    exact wX9_refuse (w4 c p h1 R)
  · have p' : P (gNu a s) = false := by simpa using p
    rw [if_neg p, zB_or ⟨n0, by omega⟩]
    refine ⟨by decide, fun _ => ?_, fun z => absurd z (by decide)⟩
    have C2 : cT a (zU h1 3 6 (zB (fun x => P x || decide (x = gNu a s)) 36)) := by
      have C1 := gRd.C C R
      refine ⟨?_, ?_⟩
      · rw [zU_off 1 (by decide)]; exact C1.1
      · rw [zU_off 2 (by decide)]; exact C1.2
    refine sX9_takeNumber T C2 (s := gEn a s) (by rw [zU_off 1 (by decide)]; exact R.2.2.2.2.1) ⟨by omega, e2⟩ (by decide) (by decide) (fun c2 h' R' => ⟨fun _ => ⟨⟨n0, by omega⟩, ?_⟩, fun z => absurd z (by decide)⟩) (fun c2 h' R' => ⟨fun z => absurd z (by decide), fun _ => w5 c p' c2 h1 h' R R'⟩)
    rw [R'.2.2.2.2.2 (yNum_0 c2).1]
    exact w1 c p' c2 h1 h' R R'
