/-! TEXT: the model's number at hand -/
theorem sX12_here1 {h : zMm} {K : Int → zMm → Prop} {lo hi : Int} (w : 0 < h 81 3 ∧ h 81 3 < 100) (r7 : zR (h 81 7)) (hK : K 0 h) : zCi mX12_here [.ref 81, .int (zI lo), .int (zI hi)] zS0 h K := by
  have e : (if h 81 3 = 0 then h 81 8 else (0 : Int)) = 0 := if_neg (by omega)
  refine wX12_here ⟨⟨by omega, by omega⟩, r7, fun _ => ⟨fun _ => ?_, fun c => absurd c (by omega)⟩, fun c => absurd c (by omega)⟩
  rw [e]
  exact hK
theorem sX12_here0 {h : zMm} {K : Int → zMm → Prop} {lo hi : Int} (w : h 81 3 = 0) (r7 : zR (h 81 7)) (rl : zR lo) (rh : zR hi) (r8 : h 81 7 = 2 → zR (h 81 8)) (k0 : h 81 7 = 2 → (lo ≤ h 81 8 ∧ h 81 8 ≤ hi) → K (h 81 8) h) (k3 : h 81 7 = 2 → ¬ (lo ≤ h 81 8 ∧ h 81 8 ≤ hi) → K 0 (zU (zU h 81 3 3) 81 4 (h 81 6))) (k2 : ¬ h 81 7 = 2 → K 0 (zU (zU h 81 3 2) 81 4 (h 81 6))) : zCi mX12_here [.ref 81, .int (zI lo), .int (zI hi)] zS0 h K := by
  have z3 : zR (h 81 3) := by rw [w]; exact ⟨by decide, by decide⟩
  refine wX12_here ⟨z3, r7, fun c => absurd w c, fun _ => ⟨fun c2 => ⟨fun c => absurd w c, fun _ => ⟨r8 c2, rl, rh, sX12_in (r8 c2) rl rh ?_⟩⟩, fun c2 => ?_⟩⟩
  · simp only [decide_eq_true_eq, decide_eq_false_iff_not]
    refine ⟨fun c => ⟨z3, ?_⟩, fun c => sX12_fails z3 (fun _ => ?_) (fun y => absurd w y)⟩
    · rw [if_pos w]; exact k0 c2 c
    · have e : zU (zU h 81 3 3) 81 4 (h 81 6) 81 3 = 3 := by rw [zU_81 (by decide), zU_eq]
      rw [e]
      exact ⟨⟨by decide, by decide⟩, k3 c2 c⟩
  · refine sX12_fails z3 (fun _ => ?_) (fun y => absurd w y)
    have e : zU (zU h 81 3 2) 81 4 (h 81 6) 81 3 = 2 := by rw [zU_81 (by decide), zU_eq]
    rw [e]
    exact ⟨⟨by decide, by decide⟩, fun _ => k2 c2, fun y => absurd y (by decide)⟩
