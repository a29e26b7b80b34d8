/-! TEXT: what a line leaves is within bounds; the spot rises -/
def yOk (d : zMm) : Prop := (∀ i : Int, 0 ≤ i → i < 36 → (0 ≤ d 0 i ∧ d 0 i ≤ 4) ∧ (0 ≤ d 2 i ∧ d 2 i ≤ 9)) ∧ (∀ r : Int, 0 ≤ r → r ≤ 7 → yLo r ≤ d 1 r ∧ d 1 r ≤ yHi r) ∧ (0 ≤ d 5 0 ∧ d 5 0 ≤ 6)
theorem gEn_up {a : zMm} (T : gTa a) {s : Int} (s0 : 0 ≤ s ∧ s ≤ a 7 1) : s ≤ gEn a s ∧ gEn a s ≤ a 7 1 ∧ (¬ gTk a s = 5 → s < gEn a s) := by
  obtain ⟨e1, e2, e3, -⟩ := gEn_in T s0.1 s0.2
  have e4 := gSb_in s0.2
  refine ⟨by omega, e2, fun c => ?_⟩
  have : ¬ gC a s = 5 := by
    intro z
    refine c ?_
    unfold gTk
    rw [if_neg (fun y => by omega)]
    exact z
  have := e3 this
  omega
/-- a body without a fault -/
theorem yBody_ok {a d : zMm} (T : gTa a) {s : Int} (s0 : 0 ≤ s ∧ s ≤ a 7 1) (O : yOk d) (hN : ¬ gNm a s = -4) (h0 : (yBody a d s).1 = 0) : yOk (yBody a d s).2.2.2 ∧ gEn a s ≤ (yBody a d s).2.2.1 ∧ (yBody a d s).2.2.1 ≤ a 7 1 := by
  have u1 := gEn_up T s0
  have s1 : 0 ≤ gEn a s ∧ gEn a s ≤ a 7 1 := ⟨by omega, u1.2.1⟩
  have u2 := gEn_up T s1
  have s2 : 0 ≤ gEn a (gEn a s) ∧ gEn a (gEn a s) ≤ a 7 1 := ⟨by omega, u2.2.1⟩
  have u3 := gEn_up T s2
  have hm := gNm_R a s
  obtain ⟨O1, O2, O3⟩ := O
  unfold yBody at h0 ⊢
  by_cases c8 : gNm a s = 8
  · rw [if_pos c8] at h0 ⊢
    by_cases c6 : d 5 0 = 6
    · rw [if_pos c6] at h0; exact absurd (show (5 : Int) = 0 from h0) (by decide)
    · rw [if_neg c6] at h0 ⊢
      by_cases cd : yDue a (gEn a s) 1 = 0
      · rw [if_neg (fun z => z cd)] at h0 ⊢
        by_cases ck : gEn a (gEn a s) - gSb a (gEn a s) = 6 ∧ ∀ k : Nat, k < 6 → 0 ≤ yKi (gB a (gSb a (gEn a s) + (k : Int)))
        · rw [if_pos ck]
          refine ⟨⟨fun i i0 i1 => ⟨?_, ?_⟩, fun r r0 r7 => ?_, ?_⟩, u2.1, u2.2.1⟩
          · show 0 ≤ yRw a d (gEn a s) 0 i ∧ yRw a d (gEn a s) 0 i ≤ 4
            unfold yRw
            by_cases q : 6 * d 5 0 ≤ i ∧ i < 6 * d 5 0 + 6
            · rw [if_pos ⟨rfl, q⟩]
              have := ck.2 (i - 6 * d 5 0).toNat (by omega)
              rw [show (((i - 6 * d 5 0).toNat : Nat) : Int) = i - 6 * d 5 0 by omega] at this
              rcases yKi_R (gB a (gSb a (gEn a s) + (i - 6 * d 5 0))) with y | y
              · omega
              · exact y
            · rw [if_neg (fun z => q z.2), if_neg (fun z => absurd z.1 (by decide))]
              exact (O1 i i0 i1).1
          · show 0 ≤ yRw a d (gEn a s) 2 i ∧ yRw a d (gEn a s) 2 i ≤ 9
            unfold yRw
            rw [if_neg (fun z => absurd z.1 (by decide)), if_neg (fun z => absurd z.1 (by decide))]
            exact (O1 i i0 i1).2
          · show yLo r ≤ yRw a d (gEn a s) 1 r ∧ yRw a d (gEn a s) 1 r ≤ yHi r
            unfold yRw
            rw [if_neg (fun z => absurd z.1 (by decide)), if_neg (fun z => absurd z.1 (by decide))]
            exact O2 r r0 r7
          · show 0 ≤ yRw a d (gEn a s) 5 0 ∧ yRw a d (gEn a s) 5 0 ≤ 6
            unfold yRw
            rw [if_neg (fun z => absurd z.1 (by decide)), if_pos ⟨rfl, rfl⟩]
            omega
        · rw [if_neg ck] at h0; exact absurd (show (3 : Int) = 0 from h0) (by decide)
      · rw [if_pos cd] at h0; exact absurd h0 cd
  · rw [if_neg c8] at h0 ⊢
    by_cases c9 : gNm a s = 9
    · rw [if_pos c9] at h0 ⊢
      by_cases ca : yNum a (gEn a s) 0 35 = 0
      · rw [if_neg (fun z => z ca)] at h0 ⊢
        by_cases ct : d 4 (gNu a (gEn a s)) = 1
        · rw [if_pos ct] at h0; exact absurd (show (4 : Int) = 0 from h0) (by decide)
        · rw [if_neg ct] at h0 ⊢
          by_cases cb : yNum a (gEn a (gEn a s)) 0 9 = 0
          · rw [if_neg (fun z => z cb)]
            have nb := (yNum_0 cb).2
            refine ⟨⟨fun i i0 i1 => ⟨?_, ?_⟩, fun r r0 r7 => ?_, ?_⟩, by show gEn a s ≤ gEn a (gEn a (gEn a s)); omega, u3.2.1⟩
            · show 0 ≤ zU (zU d 2 (gNu a (gEn a s)) (gNu a (gEn a (gEn a s)))) 4 (gNu a (gEn a s)) 1 0 i ∧ zU (zU d 2 (gNu a (gEn a s)) (gNu a (gEn a (gEn a s)))) 4 (gNu a (gEn a s)) 1 0 i ≤ 4
              rw [zU_off 0 (by decide), zU_off 0 (by decide)]; exact (O1 i i0 i1).1
            · show 0 ≤ zU (zU d 2 (gNu a (gEn a s)) (gNu a (gEn a (gEn a s)))) 4 (gNu a (gEn a s)) 1 2 i ∧ zU (zU d 2 (gNu a (gEn a s)) (gNu a (gEn a (gEn a s)))) 4 (gNu a (gEn a s)) 1 2 i ≤ 9
              rw [zU_off 2 (by decide)]
              by_cases e : i = gNu a (gEn a s)
              · rw [e, zU_eq]; exact nb
              · rw [zU_ne (fun z => e z.2)]; exact (O1 i i0 i1).2
            · show yLo r ≤ zU (zU d 2 (gNu a (gEn a s)) (gNu a (gEn a (gEn a s)))) 4 (gNu a (gEn a s)) 1 1 r ∧ zU (zU d 2 (gNu a (gEn a s)) (gNu a (gEn a (gEn a s)))) 4 (gNu a (gEn a s)) 1 1 r ≤ yHi r
              rw [zU_off 1 (by decide), zU_off 1 (by decide)]; exact O2 r r0 r7
            · show 0 ≤ zU (zU d 2 (gNu a (gEn a s)) (gNu a (gEn a (gEn a s)))) 4 (gNu a (gEn a s)) 1 5 0 ∧ zU (zU d 2 (gNu a (gEn a s)) (gNu a (gEn a (gEn a s)))) 4 (gNu a (gEn a s)) 1 5 0 ≤ 6
              rw [zU_off 5 (by decide), zU_off 5 (by decide)]; exact O3
          · rw [if_pos cb] at h0; exact absurd h0 cb
      · rw [if_pos ca] at h0; exact absurd h0 ca
    · rw [if_neg c9] at h0 ⊢
      by_cases ct : d 3 (gNm a s) = 1
      · rw [if_pos ct] at h0; exact absurd (show (4 : Int) = 0 from h0) (by decide)
      · rw [if_neg ct] at h0 ⊢
        by_cases cb : yNum a (gEn a s) (yLo (gNm a s)) (yHi (gNm a s)) = 0
        · rw [if_neg (fun z => z cb)]
          have nb := (yNum_0 cb).2
          refine ⟨⟨fun i i0 i1 => ⟨?_, ?_⟩, fun r r0 r7 => ?_, ?_⟩, u2.1, u2.2.1⟩
          · show 0 ≤ zU (zU d 1 (gNm a s) (gNu a (gEn a s))) 3 (gNm a s) 1 0 i ∧ zU (zU d 1 (gNm a s) (gNu a (gEn a s))) 3 (gNm a s) 1 0 i ≤ 4
            rw [zU_off 0 (by decide), zU_off 0 (by decide)]; exact (O1 i i0 i1).1
          · show 0 ≤ zU (zU d 1 (gNm a s) (gNu a (gEn a s))) 3 (gNm a s) 1 2 i ∧ zU (zU d 1 (gNm a s) (gNu a (gEn a s))) 3 (gNm a s) 1 2 i ≤ 9
            rw [zU_off 2 (by decide), zU_off 2 (by decide)]; exact (O1 i i0 i1).2
          · show yLo r ≤ zU (zU d 1 (gNm a s) (gNu a (gEn a s))) 3 (gNm a s) 1 1 r ∧ zU (zU d 1 (gNm a s) (gNu a (gEn a s))) 3 (gNm a s) 1 1 r ≤ yHi r
            rw [zU_off 1 (by decide)]
            by_cases e : r = gNm a s
            · rw [e, zU_eq]; exact nb
            · rw [zU_ne (fun z => e z.2)]; exact O2 r r0 r7
          · show 0 ≤ zU (zU d 1 (gNm a s) (gNu a (gEn a s))) 3 (gNm a s) 1 5 0 ∧ zU (zU d 1 (gNm a s) (gNu a (gEn a s))) 3 (gNm a s) 1 5 0 ≤ 6
            rw [zU_off 5 (by decide), zU_off 5 (by decide)]; exact O3
        · rw [if_pos cb] at h0; exact absurd h0 cb
theorem yLine_ok {a d : zMm} (T : gTa a) {s : Int} (s0 : 0 ≤ s ∧ s ≤ a 7 1) (O : yOk d) (h0 : (yLine a d s).1 = 0) : yOk (yLine a d s).2.2.2 ∧ s < (yLine a d s).2.2.1 ∧ (yLine a d s).2.2.1 ≤ a 7 1 := by
  unfold yLine at h0 ⊢
  by_cases c1 : yDue a s 1 = 0
  · rw [if_neg (fun z => z c1)] at h0 ⊢
    by_cases c2 : gNm a s = -4
    · rw [if_pos c2] at h0; exact absurd (show (2 : Int) = 0 from h0) (by decide)
    · rw [if_neg c2] at h0 ⊢
      by_cases c3 : (yBody a d s).1 = 0
      · rw [if_neg (fun z => z c3)] at h0 ⊢
        obtain ⟨b1, b2, b3⟩ := yBody_ok T s0 O c2 c3
        by_cases c4 : yDue a (yBody a d s).2.2.1 3 = 0
        · rw [if_neg (fun z => z c4)]
          have u1 := gEn_up T s0
          have u2 := gEn_up T (s := (yBody a d s).2.2.1) ⟨by omega, b3⟩
          have t5 : ¬ gTk a s = 5 := by
            intro z
            unfold yDue at c1
            rw [if_neg (by omega), if_neg (by omega)] at c1
            exact absurd c1 (by decide)
          have := u1.2.2 t5
          exact ⟨b1, by show s < gEn a (yBody a d s).2.2.1; omega, u2.2.1⟩
        · rw [if_pos c4] at h0; exact absurd h0 c4
      · rw [if_pos c3] at h0; exact absurd h0 c3
  · rw [if_pos c1] at h0; exact absurd h0 c1
