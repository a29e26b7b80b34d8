/-! TEXT: garden(), the class -/
theorem zCp_in {h : zMm} {a0 a1 : Nat} {N b : Int} (h0 : 0 ≤ b) (h1 : b < N) : zCp h a0 a1 N a1 b = h a0 b := by
  unfold zCp
  rw [if_pos ⟨rfl, h0, h1⟩]
theorem cGarden {a h : zMm} {K : Int → zMm → Prop} (W : WF a) (C : CR a h) (hK : ∀ h', CR (aGarden a) h' → zHi81 h h' → K (fGarden a) h') : zCi mX11_garden [.ref 0] zS0 h K := by
  have T : gTa a := W.2.2.2.2.1
  obtain ⟨-, cM, cTp, cIm, cSh, cOo, cLe⟩ := id C
  refine wX11_garden (sX9_readText T cTp (fun c h' F C' q31 q33 O o2 Dr => ⟨fun _ => ?_, fun y => absurd y (by decide)⟩) (fun c h' F C' q31 q32 => ⟨fun y => absurd y (by decide), fun _ => ?_⟩))
  · obtain ⟨g1, ⟨g70, g71, g72⟩, g7, go⟩ := aG_ok c
    refine wX3_takeAll g0_10 g0_4 (wX3_takeCells g0_10 g0_4 (wX4_forget ?_))
    generalize hf : zU (zU (zU (zCp (zCp (zCp (zCp (zCp (zU h' 1 1 0) (4 + 1) (10 + 1) 36) (4 + 2) (10 + 2) 36) (4 + 4) (10 + 4) 36) (4 + 3) (10 + 3) 36) (4 + 5) (10 + 5) 8) 16 2 0) 31 13 0) 31 14 0 = f
    have fo : ∀ o : Nat, ¬ (11 ≤ o ∧ o ≤ 16) → o ≠ 31 → f o = zU h' 1 1 0 o := fun o o1 o2 => by
      rw [← hf, zU_off o o2, zU_off o o2, zU_off o (by omega), zCp_off o (by omega), zCp_off o (by omega), zCp_off o (by omega), zCp_off o (by omega), zCp_off o (by omega)]
    have fh : ∀ o : Nat, ¬ (o = 1 ∨ (3 ≤ o ∧ o ≤ 9)) → ¬ (11 ≤ o ∧ o ≤ 16) → o ≠ 31 → f o = h o := fun o o0 o1 o2 => by
      rw [fo o o1 o2, zU_off o (by omega)]
      exact F o o0
    have fr : ∀ o : Nat, 11 ≤ o → o ≤ 15 → f o = (zCp (zCp (zCp (zCp (zCp (zU h' 1 1 0) (4 + 1) (10 + 1) 36) (4 + 2) (10 + 2) 36) (4 + 4) (10 + 4) 36) (4 + 3) (10 + 3) 36) (4 + 5) (10 + 5) 8) o := fun o o1 o2 => by
      rw [← hf, zU_off o (by omega), zU_off o (by omega), zU_off o (by omega)]
    have f11 : ∀ i : Int, 0 ≤ i → i < 36 → f 11 i = h' 5 i := fun i i0 i1 => by
      rw [fr 11 (by decide) (by decide), zCp_off 11 (by decide), zCp_off 11 (by decide), zCp_off 11 (by decide), zCp_off 11 (by decide)]
      exact (zCp_in (a1 := 11) i0 i1).trans (by rw [zU_off 5 (by decide)])
    have f12 : ∀ i : Int, 0 ≤ i → i < 36 → f 12 i = h' 6 i := fun i i0 i1 => by
      rw [fr 12 (by decide) (by decide), zCp_off 12 (by decide), zCp_off 12 (by decide), zCp_off 12 (by decide)]
      refine (zCp_in (a1 := 12) i0 i1).trans ?_
      rw [zCp_off 6 (by decide), zU_off 6 (by decide)]
    have f14 : ∀ i : Int, 0 ≤ i → i < 36 → f 14 i = h' 8 i := fun i i0 i1 => by
      rw [fr 14 (by decide) (by decide), zCp_off 14 (by decide), zCp_off 14 (by decide)]
      refine (zCp_in (a1 := 14) i0 i1).trans ?_
      rw [zCp_off 8 (by decide), zCp_off 8 (by decide), zU_off 8 (by decide)]
    have f13 : ∀ i : Int, 0 ≤ i → i < 36 → f 13 i = h' 7 i := fun i i0 i1 => by
      rw [fr 13 (by decide) (by decide), zCp_off 13 (by decide)]
      refine (zCp_in (a1 := 13) i0 i1).trans ?_
      rw [zCp_off 7 (by decide), zCp_off 7 (by decide), zCp_off 7 (by decide), zU_off 7 (by decide)]
    have f15 : ∀ i : Int, 0 ≤ i → i ≤ 7 → f 15 i = h' 9 i := fun i i0 i1 => by
      rw [fr 15 (by decide) (by decide)]
      refine (zCp_in (a1 := 15) i0 (by omega)).trans ?_
      rw [zCp_off 9 (by decide), zCp_off 9 (by decide), zCp_off 9 (by decide), zCp_off 9 (by decide), zU_off 9 (by decide)]
    have e3 : f 3 = h' 3 := by rw [fo 3 (by decide) (by decide), zU_off 3 (by decide)]
    have ef : fGarden a = f 3 3 := by unfold fGarden; rw [if_pos c, e3, q33]
    rw [← ef]
    refine hK f ⟨⟨⟨fun i i0 i1 => ⟨?_, ?_⟩, fun r r0 r7 => ?_⟩, fun i i0 i1 => ⟨?_, ?_⟩, fun i i0 i1 => ?_⟩, ⟨?_, fun i i0 i1 => ?_⟩, ⟨?_, fun i i0 i1 => ?_⟩, ?_, fun k hk => ?_, ⟨?_, ?_⟩, ⟨fun i i0 i1 => ?_, Or.inl ?_, Or.inl ?_⟩⟩ (fun o ho => fh o (by omega) (by omega) (by omega))
    · rw [f11 i i0 i1, (g1 i).1]; exact (Dr.1 i i0 i1).1
    · rw [(g1 i).1]; exact (O.1 i i0 i1).1
    · rw [f15 r r0 r7, (g1 r).2.2.2.2]; exact Dr.2 r r0 r7
    · rw [f12 i i0 i1, (g1 i).2.1]; exact (Dr.1 i i0 i1).2.1
    · rw [f14 i i0 i1, (g1 i).2.2.2.1]; exact (Dr.1 i i0 i1).2.2.2
    · rw [f13 i i0 i1, (g1 i).2.2.1]; exact (Dr.1 i i0 i1).2.2.1
    · rw [g70, ← hf, zU_off 16 (by decide), zU_off 16 (by decide), zU_eq]
    · rw [g70] at i1; exact absurd i1 (by omega)
    · rw [g71, fo 1 (by decide) (by decide), zU_eq]
    · rw [g71] at i1; exact absurd i1 (by omega)
    · unfold cI cI1 at cIm ⊢
      rw [g7 4 (by decide), g7 5 (by decide), go 10 (by decide) (by decide), go (10 + 1) (by decide) (by decide), go (10 + 2) (by decide) (by decide), go (10 + 3) (by decide) (by decide), go (10 + 4) (by decide) (by decide), go (10 + 5) (by decide) (by decide), go 20 (by decide) (by decide), go (20 + 1) (by decide) (by decide), go (20 + 2) (by decide) (by decide), go (20 + 3) (by decide) (by decide), go (20 + 4) (by decide) (by decide), go (20 + 5) (by decide) (by decide)]
      rw [fh 71 (by decide) (by decide) (by decide), fh (52 + 1) (by decide) (by decide) (by decide), fh (52 + 2) (by decide) (by decide) (by decide), fh (52 + 4) (by decide) (by decide) (by decide), fh 65 (by decide) (by decide) (by decide), fh (65 + 1) (by decide) (by decide) (by decide), fh (65 + 2) (by decide) (by decide) (by decide), fh (58 + 1) (by decide) (by decide) (by decide), fh (58 + 2) (by decide) (by decide) (by decide), fh (58 + 4) (by decide) (by decide) (by decide), fh 68 (by decide) (by decide) (by decide), fh (68 + 1) (by decide) (by decide) (by decide), fh (68 + 2) (by decide) (by decide) (by decide)]
      exact cIm
    · rw [go 30 (by decide) (by decide), go 31 (by decide) (by decide), go (32 + k) (by omega) (by omega), fh (73 + 2 * k) (by omega) (by omega) (by omega), fh (74 + 2 * k) (by omega) (by omega) (by omega)]
      exact cSh k hk
    · rw [g72, e3]; exact q31
    · rw [g7 3 (by decide), fh 0 (by decide) (by decide) (by decide)]; exact cOo.2
    · rw [fh 45 (by decide) (by decide) (by decide)]; exact cLe.1 i i0 i1
    · rw [← hf, zU_ne (by omega), zU_eq]
    · rw [← hf, zU_eq]
  · obtain ⟨⟨g71, g72⟩, g7, go⟩ := aG_no c
    have fh : ∀ o : Nat, ¬ (o = 1 ∨ (3 ≤ o ∧ o ≤ 9)) → zU h' 1 1 0 o = h o := fun o o0 => by
      rw [zU_off o (by omega)]
      exact F o o0
    have ef : fGarden a = -10 - h' 3 2 := by unfold fGarden; rw [if_neg c, q32]
    rw [← ef]
    obtain ⟨cGg, -, -, -, -, -, -⟩ := C
    refine hK _ ⟨?_, ?_, ⟨?_, fun i i0 i1 => ?_⟩, ?_, fun k hk => ?_, ⟨?_, ?_⟩, ?_⟩ (fun o ho => fh o (by omega))
    · unfold cG zGA zHA at cGg ⊢
      rw [go 0 (by decide), go 4 (by decide), go 1 (by decide), go 3 (by decide), go 2 (by decide), fh 11 (by decide), fh 15 (by decide), fh 12 (by decide), fh 14 (by decide), fh 13 (by decide)]
      exact cGg
    · unfold zMA at cM ⊢
      rw [g7 0 (by decide), go 5 (by decide), go 6 (by decide), fh 16 (by decide), fh 17 (by decide), fh 18 (by decide)]
      exact cM
    · rw [g71, zU_eq]
    · rw [g71] at i1; exact absurd i1 (by omega)
    · unfold cI cI1 at cIm ⊢
      rw [g7 4 (by decide), g7 5 (by decide), go 10 (by decide), go (10 + 1) (by decide), go (10 + 2) (by decide), go (10 + 3) (by decide), go (10 + 4) (by decide), go (10 + 5) (by decide), go 20 (by decide), go (20 + 1) (by decide), go (20 + 2) (by decide), go (20 + 3) (by decide), go (20 + 4) (by decide), go (20 + 5) (by decide)]
      rw [fh 71 (by decide), fh (52 + 1) (by decide), fh (52 + 2) (by decide), fh (52 + 4) (by decide), fh 65 (by decide), fh (65 + 1) (by decide), fh (65 + 2) (by decide), fh (58 + 1) (by decide), fh (58 + 2) (by decide), fh (58 + 4) (by decide), fh 68 (by decide), fh (68 + 1) (by decide), fh (68 + 2) (by decide)]
      exact cIm
    · rw [go 30 (by decide), go 31 (by decide), go (32 + k) (by omega), fh (73 + 2 * k) (by omega), fh (74 + 2 * k) (by omega)]
      exact cSh k hk
    · rw [g72, zU_off 3 (by decide)]; exact q31
    · rw [g7 3 (by decide), fh 0 (by decide)]; exact cOo.2
    · unfold cL at cLe ⊢
      rw [go 0 (by decide), go 4 (by decide), fh 45 (by decide), fh 31 (by decide), fh 46 (by decide)]
      exact cLe
