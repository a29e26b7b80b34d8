/-! TEXT: the model takes what was read -/
theorem sX12_takeAll {h D : zMm} {K : zMm → Prop} (k0 : ∀ i : Int, 0 ≤ i → i < 36 → h 90 i = D 0 i ∧ (0 ≤ D 0 i ∧ D 0 i ≤ 4)) (k1 : ∀ r : Int, 0 ≤ r → r ≤ 7 → h 89 r = D 1 r) (k2 : ∀ i : Int, 0 ≤ i → i < 36 → (h 91 i = D 2 i ∨ h 91 i = -1 - D 2 i) ∧ (0 ≤ D 2 i ∧ D 2 i ≤ 9))
    (hK : ∀ h', (∀ o, o ≠ 81 → o ≠ 88 → o ≠ 92 → h' o = h o) → (∀ i : Int, i ≠ 21 → h' 81 i = h 81 i) → h' 81 21 = 1 → (∀ r : Int, 0 ≤ r → r ≤ 7 → h' 88 r = D 1 r) → (∀ i : Int, 0 ≤ i → i < 36 → h' 92 i = D 0 i ∧ h' 92 (36 + i) = (if D 0 i ≤ 1 then D 1 7 else 0) ∧ h' 92 (72 + i) = 0 ∧ h' 92 (108 + i) = D 2 i) → h' 92 192 = 0 → (∀ i : Int, 144 ≤ i → i ≠ 192 → h' 92 i = h 92 i) → K h') : zCv mX12_takeAll [.ref 81] zS0 h K := by
  have l28 : ∀ (n k : Nat) (g : zMm), k + n = 36 → (∀ o, o ≠ 88 → o ≠ 92 → g o = h o) → (∀ r : Int, 0 ≤ r → r ≤ 7 → g 88 r = D 1 r) → (∀ i : Int, 0 ≤ i → i < k → g 92 i = D 0 i ∧ g 92 (36 + i) = (if D 0 i ≤ 1 then D 1 7 else 0) ∧ g 92 (72 + i) = 0 ∧ g 92 (108 + i) = D 2 i) → (∀ i : Int, 144 ≤ i → g 92 i = h 92 i) → RR mX12_takeAll 0 0 28 [some (.ref 81), some (.int (zI (k : Int)))] [] zS0 g (zQv zS0 K) := by
    intro n
    induction n with
    | zero =>
      intro k g hk f g88 g92 gf
      refine bX12_takeAll_28 ⟨⟨by omega, by omega⟩, fun _ => ?_, fun c => absurd (show (36 : Int) ≤ k by omega) c⟩
      refine hK _ (fun o o1 o2 o3 => by rw [zU_off o o1, zU_off o o3]; exact f o o2 o3) (fun i hi => by rw [zU_ne (fun z => hi z.2), zU_off 81 (by decide), f 81 (by decide) (by decide)]) (zU_eq _ _ _ _) (fun r r0 r7 => by rw [zU_off 88 (by decide), zU_off 88 (by decide)]; exact g88 r r0 r7) (fun i i0 i1 => ?_) (by rw [zU_off 92 (by decide), zU_eq]) (fun i i0 i1 => by rw [zU_off 92 (by decide), zU_ne (fun z => i1 z.2)]; exact gf i i0)
      rw [zU_off 92 (by decide), zU_ne (by omega), zU_ne (by omega), zU_ne (by omega), zU_ne (by omega)]
      exact g92 i i0 (by omega)
    | succ n ih =>
      intro k g hk f g88 g92 gf
      have a0 := k0 (k : Int) (by omega) (by omega)
      have a2 := k2 (k : Int) (by omega) (by omega)
      have e90 : g 90 (k : Int) = D 0 k := by rw [f 90 (by decide) (by decide)]; exact a0.1
      have e91 : g 91 (k : Int) = h 91 k := by rw [f 91 (by decide) (by decide)]
      have go : ∀ x y : Int, x = (if D 0 (k : Int) ≤ 1 then D 1 7 else 0) → y = D 2 (k : Int) → RR mX12_takeAll 0 0 28 [some (.ref 81), some (.int (zI ((k : Int) + 1)))] [] zS0 (zU (zU (zU (zU g 92 (k : Int) (D 0 k)) 92 (36 + (k : Int)) x) 92 (72 + (k : Int)) 0) 92 (108 + (k : Int)) y) (zQv zS0 K) := by
        intro x y hx hy
        rw [show (k : Int) + 1 = ((k + 1 : Nat) : Int) by omega]
        refine ih (k + 1) _ (by omega) (fun o o1 o2 => by rw [zU_off o o2, zU_off o o2, zU_off o o2, zU_off o o2]; exact f o o1 o2) (fun r r0 r7 => by rw [zU_off 88 (by decide), zU_off 88 (by decide), zU_off 88 (by decide), zU_off 88 (by decide)]; exact g88 r r0 r7) (fun i i0 i1 => ?_) (fun i i0 => by rw [zU_ne (by omega), zU_ne (by omega), zU_ne (by omega), zU_ne (by omega)]; exact gf i i0)
        by_cases c : i = k
        · subst c
          refine ⟨?_, ?_, ?_, ?_⟩
          · rw [zU_ne (by omega), zU_ne (by omega), zU_ne (by omega), zU_eq]
          · rw [zU_ne (by omega), zU_ne (by omega), zU_eq]; exact hx
          · rw [zU_ne (by omega), zU_eq]
          · rw [zU_eq]; exact hy
        · obtain ⟨q1, q2, q3, q4⟩ := g92 i i0 (by omega)
          refine ⟨?_, ?_, ?_, ?_⟩
          · rw [zU_ne (by omega), zU_ne (by omega), zU_ne (by omega), zU_ne (by omega)]; exact q1
          · rw [zU_ne (by omega), zU_ne (by omega), zU_ne (by omega), zU_ne (by omega)]; exact q2
          · rw [zU_ne (by omega), zU_ne (by omega), zU_ne (by omega), zU_ne (by omega)]; exact q3
          · rw [zU_ne (by omega), zU_ne (by omega), zU_ne (by omega), zU_ne (by omega)]; exact q4
      refine bX12_takeAll_28 ?_
      rw [e90, e91, g88 7 (by decide) (by decide)]
      refine ⟨⟨by omega, by omega⟩, fun c => absurd c (by omega), fun _ => ⟨⟨by omega, by omega⟩, ⟨by omega, by omega⟩, fun c => ⟨⟨by omega, by omega⟩, ⟨by omega, by omega⟩, ⟨by omega, by omega⟩, fun c2 => ⟨⟨by omega, by omega⟩, ?_⟩, fun c2 => ⟨⟨by omega, by omega⟩, ?_⟩⟩, fun c => ⟨⟨by omega, by omega⟩, ⟨by omega, by omega⟩, ⟨by omega, by omega⟩, fun c2 => ⟨⟨by omega, by omega⟩, ?_⟩, fun c2 => ⟨⟨by omega, by omega⟩, ?_⟩⟩⟩⟩
      · exact go _ _ (if_neg (by omega)).symm (by omega)
      · exact go _ _ (if_neg (by omega)).symm (by omega)
      · exact go _ _ (if_pos (by omega)).symm (by omega)
      · exact go _ _ (if_pos (by omega)).symm (by omega)
  have l2 : ∀ (n k : Nat) (g : zMm), k + n = 8 → (∀ o, o ≠ 88 → g o = h o) → (∀ r : Int, 0 ≤ r → r < k → g 88 r = D 1 r) → RR mX12_takeAll 0 0 2 [some (.ref 81), some (.int (zI (k : Int)))] [] zS0 g (zQv zS0 K) := by
    intro n
    induction n with
    | zero =>
      intro k g hk f g88
      refine bX12_takeAll_2 ⟨⟨by omega, by omega⟩, fun _ => ?_, fun c => absurd (show (8 : Int) ≤ k by omega) c⟩
      exact l28 36 0 g rfl (fun o o1 _ => f o o1) (fun r r0 r7 => g88 r r0 (by omega)) (fun i i0 i1 => absurd i1 (by omega)) (fun i _ => by rw [f 92 (by decide)])
    | succ n ih =>
      intro k g hk f g88
      refine bX12_takeAll_2 ⟨⟨by omega, by omega⟩, fun c => absurd c (by omega), fun _ => ⟨⟨by omega, by omega⟩, ?_⟩⟩
      rw [show (k : Int) + 1 = ((k + 1 : Nat) : Int) by omega]
      refine ih (k + 1) _ (by omega) (fun o o1 => (zU_off o o1).trans (f o o1)) (fun r r0 r1 => ?_)
      by_cases c : r = k
      · rw [c, zU_eq, f 89 (by decide)]; exact k1 k (by omega) (by omega)
      · rw [zU_ne (fun z => c z.2)]; exact g88 r r0 (by omega)
  exact wX12_takeAll (l2 8 0 h rfl (fun _ _ => rfl) (fun r r0 r1 => absurd r1 (by omega)))
