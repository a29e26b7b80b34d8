/-! TEXT: the model takes a sun, a row, a line -/
theorem sX12_readSun {a d h : zMm} {K : zMm → Prop} {s : Int} (T : gTa a) (M : mT a h) (s0 : 0 ≤ s ∧ s ≤ a 7 1) (G : mTo a s h) (D : yM d h) (O : yOk d) (c9 : gNm a s = 9) (Q : mQ a h K (yBody a d s)) : zCv mX12_readSun [.ref 81] zS0 h K := by
  have u1 := gEn_up T s0
  have s1 : 0 ≤ gEn a s ∧ gEn a s ≤ a 7 1 := ⟨by omega, u1.2.1⟩
  have u2 := gEn_up T s1
  have s2 : 0 ≤ gEn a (gEn a s) ∧ gEn a (gEn a s) ≤ a 7 1 := ⟨by omega, u2.2.1⟩
  have u3 := gEn_up T s2
  have s3 : 0 ≤ gEn a (gEn a (gEn a s)) ∧ gEn a (gEn a (gEn a s)) ≤ a 7 1 := ⟨by omega, u3.2.1⟩
  have ok := yBody_ok (a := a) (d := d) T s0 O (by rw [c9]; decide)
  have eB : yBody a d s = if ¬ yNum a (gEn a s) 0 35 = 0 then (yNum a (gEn a s) 0 35, gSb a (gEn a s), s, d)
    else if d 4 (gNu a (gEn a s)) = 1 then (4, gSb a (gEn a s), s, d)
    else if ¬ yNum a (gEn a (gEn a s)) 0 9 = 0 then (yNum a (gEn a (gEn a s)) 0 9, gSb a (gEn a (gEn a s)), s, d)
    else (0, 0, gEn a (gEn a (gEn a s)), zU (zU d 2 (gNu a (gEn a s)) (gNu a (gEn a (gEn a s)))) 4 (gNu a (gEn a s)) 1) := by
    unfold yBody
    rw [if_neg (by omega), if_pos c9]
  have kb : ∀ code p : Int, yBody a d s = (code, p, s, d) → ∀ g, mFr h g → mSk code p g → K g := fun code p e g F k => by
    rw [e] at Q
    exact Q.2.2 (fun z => absurd k.2.2.1.1 (by have : code = 0 := z; omega)) g F k
  refine wX12_readSun (sX12_nx (x := 0) T M (mFr.rf h) s1 G.1 G.2.1 D O ⟨fun _ ct g1 F1 G1 D1 => ?_, fun _ ct g1 F1 k1 => ?_, fun z => absurd rfl z⟩)
  · have ct : ¬ gTk a (gEn a s) = 0 := ct
    have G1 : mTo a (gEn a s) g1 := G1
    have D1 : yM d g1 := D1
    have R1 := D1.R T s1 G1 O
    have z3 : zR (g1 81 3) := by rw [G1.1]; exact ⟨by decide, by decide⟩
    refine sX12_hereT T s1 G1 ct R1 (by decide) (by decide) (fun c => ?_) (fun c g2 F2 k2 => ?_)
    · rw [if_neg (fun z => z c)] at eB
      obtain ⟨t2, n0, n1⟩ := yNum_0 c
      have d91 := D1.2.2.1 (gNu a (gEn a s)) n0 (by omega)
      have d2 := (O.1 (gNu a (gEn a s)) n0 (by omega)).2
      refine ⟨z3, fun z => absurd G1.1 z, fun _ => ⟨⟨n0, by omega⟩, ?_⟩⟩
      by_cases c4 : d 4 (gNu a (gEn a s)) = 1
      · rw [if_pos c4] at eB
        rw [d91.1 c4]
        have k := mSk_of (c := 4) R1 G1.2.2.1 ⟨by decide, by decide⟩
        refine ⟨⟨by omega, by omega⟩, fun z => absurd z (by omega), fun _ => sX12_fails z3 (fun _ => ?_) (fun z => absurd G1.1 z)⟩
        exact sX12_next1 k.pos (sX12_hereS k ⟨k.r3, fun _ => sX12_next1 k.pos (kb 4 _ eB _ ((F1.u81 (by decide)).u81 (by decide)) k), fun z => absurd z k.ne⟩)
      · rw [if_neg c4] at eB
        rw [(d91.2 c4).1]
        refine ⟨by decide, fun _ => ?_, fun z => absurd (show (0 : Int) ≤ 3 by decide) z⟩
        refine sX12_nx (x := 0) T M F1 s2 G1.1 G1.2.1 D1 O ⟨fun _ ct2 g3 F3 G3 D3 => ?_, fun _ ct2 g3 F3 k3 => ?_, fun z => absurd rfl z⟩
        · have ct2 : ¬ gTk a (gEn a (gEn a s)) = 0 := ct2
          have G3 : mTo a (gEn a (gEn a s)) g3 := G3
          have D3 : yM d g3 := D3
          have R3 := D3.R T s2 G3 O
          have y3 : zR (g3 81 3) := by rw [G3.1]; exact ⟨by decide, by decide⟩
          refine sX12_hereT T s2 G3 ct2 R3 (by decide) (by decide) (fun c2 => ?_) (fun c2 g4 F4 k4 => ?_)
          · rw [if_neg (fun z => z c2)] at eB
            rw [eB] at Q ok
            have O' : yOk (zU (zU d 2 (gNu a (gEn a s)) (gNu a (gEn a (gEn a s)))) 4 (gNu a (gEn a s)) 1) := (ok rfl).1
            refine ⟨y3, fun z => absurd G3.1 z, fun _ => sX12_nx T M (F3.u (o := 91) (by decide)) s3 ?_ ?_ ?_ O' Q⟩
            · rw [zU_off 81 (by decide)]; exact G3.1
            · rw [zU_off 81 (by decide)]; exact G3.2.1
            · refine ⟨fun i i0 i1 => ?_, fun r r0 r7 => ?_, fun x x0 x1 => ⟨fun q => ?_, fun q => ?_⟩, ?_, ?_⟩
              · rw [zU_off 90 (by decide), zU_off 0 (by decide), zU_off 0 (by decide)]; exact D3.1 i i0 i1
              · rw [zU_off 89 (by decide), zU_off 1 (by decide), zU_off 1 (by decide)]; exact D3.2.1 r r0 r7
              · by_cases e : x = gNu a (gEn a s)
                · rw [e, zU_eq, zU_off 2 (by decide), zU_eq]
                · rw [zU_ne (fun z => e z.2), zU_off 4 (by decide)] at q
                  rw [zU_ne (fun z => e z.2), zU_off 2 (by decide), zU_ne (fun z => e z.2)]
                  exact (D3.2.2.1 x x0 x1).1 q
              · by_cases e : x = gNu a (gEn a s)
                · rw [e, zU_eq] at q; exact absurd rfl q
                · rw [zU_ne (fun z => e z.2), zU_off 4 (by decide)] at q
                  rw [zU_ne (fun z => e z.2), zU_off 2 (by decide), zU_ne (fun z => e z.2)]
                  exact (D3.2.2.1 x x0 x1).2 q
              · rw [zU_off 81 (by decide), zU_off 5 (by decide), zU_off 5 (by decide)]; exact D3.2.2.2.1
              · rw [zU_off 81 (by decide), zU_off 3 (by decide), zU_off 3 (by decide)]; exact D3.2.2.2.2
          · rw [if_pos c2] at eB
            exact ⟨k4.r3, fun _ => sX12_next1 k4.pos (kb _ _ eB _ (F3.trans F4) k4), fun z => absurd z k4.ne⟩
        · have ct2 : gTk a (gEn a (gEn a s)) = 0 := ct2
          rw [yNum_1 ct2, if_pos (by decide)] at eB
          exact sX12_hereS k3 ⟨k3.r3, fun _ => sX12_next1 k3.pos (kb _ _ eB _ F3 k3), fun z => absurd z k3.ne⟩
    · rw [if_pos c] at eB
      exact ⟨k2.r3, fun _ => sX12_next1 k2.pos (sX12_hereS k2 ⟨k2.r3, fun _ => sX12_next1 k2.pos (kb _ _ eB _ (F1.trans F2) k2), fun z => absurd z k2.ne⟩), fun z => absurd z k2.ne⟩
  · have ct : gTk a (gEn a s) = 0 := ct
    rw [yNum_1 ct, if_pos (by decide)] at eB
    exact sX12_hereS k1 ⟨k1.r3, fun _ => sX12_next1 k1.pos (sX12_hereS k1 ⟨k1.r3, fun _ => sX12_next1 k1.pos (kb _ _ eB _ F1 k1), fun z => absurd z k1.ne⟩), fun z => absurd z k1.ne⟩
theorem sX12_kindOf {h : zMm} {K : Int → zMm → Prop} {v : Int} (r : zR v) (w : K (yKi v) h) : zCi mX12_kindOf [.int (zI v)] zS0 h K := by
  have g : ∀ x : Int, yKi v = x → K x h := fun x e => by rw [← e]; exact w
  refine wX12_kindOf ⟨r, fun e => g _ ?_, fun e => g _ ?_, fun e => g _ ?_, fun e => g _ ?_, fun e => g _ ?_, fun e => g _ ?_⟩
  · rw [e]; rfl
  · rw [e]; rfl
  · rw [e]; rfl
  · rw [e]; rfl
  · rw [e]; rfl
  · unfold yKi
    rw [if_neg e.1, if_neg e.2.1, if_neg e.2.2.1, if_neg e.2.2.2.1, if_neg e.2.2.2.2]
theorem sX12_readRow {a d h : zMm} {K : zMm → Prop} {s : Int} (T : gTa a) (M : mT a h) (s0 : 0 ≤ s ∧ s ≤ a 7 1) (G : mTo a s h) (D : yM d h) (O : yOk d) (c8 : gNm a s = 8) (Q : mQ a h K (yBody a d s)) : zCv mX12_readRow [.ref 81] zS0 h K := by
  have u1 := gEn_up T s0
  have s1 : 0 ≤ gEn a s ∧ gEn a s ≤ a 7 1 := ⟨by omega, u1.2.1⟩
  have u2 := gEn_up T s1
  have s2 : 0 ≤ gEn a (gEn a s) ∧ gEn a (gEn a s) ≤ a 7 1 := ⟨by omega, u2.2.1⟩
  obtain ⟨e1, e2, -, -⟩ := gEn_in T s1.1 s1.2
  have e3 := gSb_in s1.2
  have hn := T.1
  have O3 := O.2.2
  have ok := yBody_ok (a := a) (d := d) T s0 O (by rw [c8]; decide)
  have eB : yBody a d s = if d 5 0 = 6 then (5, gSb a s, s, d)
    else if ¬ yDue a (gEn a s) 1 = 0 then (yDue a (gEn a s) 1, gSb a (gEn a s), s, d)
    else if gEn a (gEn a s) - gSb a (gEn a s) = 6 ∧ ∀ k : Nat, k < 6 → 0 ≤ yKi (gB a (gSb a (gEn a s) + (k : Int))) then (0, 0, gEn a (gEn a s), yRw a d (gEn a s)) else (3, gSb a (gEn a s), s, d) := by
    unfold yBody
    rw [if_pos c8]
  have kb : ∀ code p : Int, yBody a d s = (code, p, s, d) → ∀ g, mFr h g → mSk code p g → K g := fun code p e g F k => by
    rw [e] at Q
    exact Q.2.2 (fun z => absurd k.2.2.1.1 (by have : code = 0 := z; omega)) g F k
  have st : ∀ (code p : Int) (b : Bool) (g : zMm), mFr h g → mSk code p g → yBody a d s = (code, p, s, d) → RR mX12_readRow 0 0 61 [some (.ref 81), some (.int (zI (bI b))), some (.int (zI 0)), none] [] zS0 g (zQv zS0 K) := by
    intro code p b g F k e
    have k' := k.u18 (x := g 81 18 + 1)
    have w := sX12_next1 k'.pos (kb code p e _ (F.u81 (by decide)) k')
    exact bX12_readRow_61 ⟨by decide, bI_R b, k.r3, fun z => absurd z (by decide), fun _ => ⟨fun cb => ⟨fun z => absurd cb z, fun _ => sX12_failS k w⟩, fun cb => ⟨fun _ => ⟨fun _ => w, fun z => absurd z cb⟩, fun z => absurd z k.ne⟩⟩⟩
  have bd : ∀ (k : Nat) (g : zMm), k < 10 → mFr h g → g 81 3 = 0 → g 81 6 = gSb a (gEn a s) → mRg g → yBody a d s = (3, gSb a (gEn a s), s, d) → RR mX12_readRow 0 0 61 [some (.ref 81), some (.int (zI (bI false))), some (.int (zI (k : Int))), none] [] zS0 g (zQv zS0 K) := by
    intro k g hk F g3 g6 R e
    have z3 : zR (g 81 3) := by rw [g3]; exact ⟨by decide, by decide⟩
    have k1 := mSk_of (c := 3) R g6 ⟨by decide, by decide⟩
    have k' := k1.u18 (x := zU (zU g 81 3 3) 81 4 (g 81 6) 81 18 + 1)
    have w := sX12_next1 k'.pos (kb 3 _ e _ (((F.u81 (by decide)).u81 (by decide)).u81 (by decide)) k')
    exact bX12_readRow_61 ⟨⟨by omega, by omega⟩, by decide, z3, fun _ => ⟨fun z => absurd rfl z, fun _ => sX12_fails z3 (fun _ => w) (fun z => absurd g3 z)⟩, fun _ => ⟨fun _ => ⟨fun z => absurd rfl z, fun _ => sX12_fails z3 (fun _ => w) (fun z => absurd g3 z)⟩, fun z => absurd rfl z⟩⟩
  have D0 := D
  have h18 : h 81 18 = d 5 0 := D.2.2.2.1
  have R0 := D.R T s0 G O
  have y3 : zR (h 81 3) := by rw [G.1]; exact ⟨by decide, by decide⟩
  refine wX12_readRow ?_
  rw [h18]
  refine ⟨⟨by omega, by omega⟩, fun c6 => ?_, fun c6 => ?_⟩
  · rw [if_neg c6] at eB
    refine sX12_nx (x := 0) T M (mFr.rf h) s1 G.1 G.2.1 D O ⟨fun _ ct g1 F1 G1 D1 => ?_, fun _ ct g1 F1 k1 => ?_, fun z => absurd rfl z⟩
    · have ct : ¬ gTk a (gEn a s) = 0 := ct
      have G1 : mTo a (gEn a s) g1 := G1
      have D1 : yM d g1 := D1
      have R1 := D1.R T s1 G1 O
      have q18 : g1 81 18 = d 5 0 := D1.2.2.2.1
      have z3 : zR (g1 81 3) := by rw [G1.1]; exact ⟨by decide, by decide⟩
      have z7 : zR (g1 81 7) := by have := R1.1; exact ⟨by omega, by omega⟩
      have z56 : zR (g1 81 5 - g1 81 6) := by have := R1.2.1; have := R1.2.2.1; exact ⟨by omega, by omega⟩
      refine ⟨z3, z7, fun z => absurd G1.1 z, fun _ => ⟨fun c7 => ⟨z56, ?_⟩, fun c7 => sX12_fails z3 (fun _ => ?_) (fun z => absurd G1.1 z)⟩⟩
      · have t1 : gTk a (gEn a s) = 1 := by
          have := G1.2.2.2.1
          rw [c7] at this
          split at this
          · exact absurd this (by decide)
          · exact this.symm
        have cD : yDue a (gEn a s) 1 = 0 := by unfold yDue; rw [if_neg ct, if_pos t1]
        rw [if_neg (fun z => z cD)] at eB
        rw [G1.2.1, G1.2.2.1]
        by_cases c66 : gEn a (gEn a s) - gSb a (gEn a s) = 6
        · rw [if_pos c66]
          have lp : ∀ (n k : Nat) (g : zMm), k + n = 6 → mFr h g → mTo a (gEn a s) g → (∀ j : Nat, j < k → 0 ≤ yKi (gB a (gSb a (gEn a s) + (j : Int)))) → (∀ i : Int, 0 ≤ i → i < 36 → g 90 i = if 6 * d 5 0 ≤ i ∧ i < 6 * d 5 0 + (k : Int) then yKi (gB a (gSb a (gEn a s) + (i - 6 * d 5 0))) else d 0 i) → yMr d g → RR mX12_readRow 0 0 61 [some (.ref 81), some (.int (zI (bI true))), some (.int (zI (k : Int))), none] [] zS0 g (zQv zS0 K) := by
            intro n
            induction n with
            | zero =>
              intro k g hk F Gt hj D90 Dr
              obtain rfl : k = 6 := by omega
              rw [if_pos ⟨c66, hj⟩] at eB
              rw [eB] at Q ok
              have O' : yOk (yRw a d (gEn a s)) := (ok rfl).1
              have w3 : zR (g 81 3) := by rw [Gt.1]; exact ⟨by decide, by decide⟩
              refine bX12_readRow_61 ⟨by decide, by decide, w3, fun _ => ⟨fun _ => ?_, fun z => absurd z (by decide)⟩, fun z => absurd (show (6 : Int) ≤ ((6 : Nat) : Int) by decide) z⟩
              refine sX12_nx T M (F.u81 (by decide)) s2 ?_ ?_ ⟨fun i i0 i1 => ?_, fun r r0 r7 => ?_, fun x x0 x1 => ?_, ?_, ?_⟩ O' Q
              · rw [zU_81 (by decide)]; exact Gt.1
              · rw [zU_81 (by decide)]; exact Gt.2.1
              · rw [zU_off 90 (by decide), D90 i i0 i1]
                unfold yRw
                by_cases c : 6 * d 5 0 ≤ i ∧ i < 6 * d 5 0 + 6
                · rw [if_pos ⟨c.1, by omega⟩, if_pos ⟨rfl, c⟩]
                · rw [if_neg (fun z => c ⟨z.1, by omega⟩), if_neg (fun z => c z.2), if_neg (fun z => absurd z.1 (by decide))]
              · rw [zU_off 89 (by decide), Dr.1 r r0 r7]
                exact (show yRw a d (gEn a s) 1 r = d 1 r from (if_neg (fun z => absurd z.1 (by decide))).trans (if_neg (fun z => absurd z.1 (by decide)))).symm
              · rw [zU_off 91 (by decide), show yRw a d (gEn a s) 4 x = d 4 x from (if_neg (fun z => absurd z.1 (by decide))).trans (if_neg (fun z => absurd z.1 (by decide))), show yRw a d (gEn a s) 2 x = d 2 x from (if_neg (fun z => absurd z.1 (by decide))).trans (if_neg (fun z => absurd z.1 (by decide)))]
                exact Dr.2.1 x x0 x1
              · rw [zU_eq, Dr.2.2.1]
                exact (show yRw a d (gEn a s) 5 0 = d 5 0 + 1 from (if_neg (fun z => absurd z.1 (by decide))).trans (if_pos ⟨rfl, rfl⟩)).symm
              · rw [zU_81 (by decide)]
                obtain ⟨P, p1, p2⟩ := Dr.2.2.2
                refine ⟨P, p1, fun m m0 m7 => ?_⟩
                rw [show yRw a d (gEn a s) 3 m = d 3 m from (if_neg (fun z => absurd z.1 (by decide))).trans (if_neg (fun z => absurd z.1 (by decide)))]
                exact p2 m m0 m7
            | succ n ih =>
              intro k g hk F Gt hj D90 Dr
              have w3 : zR (g 81 3) := by rw [Gt.1]; exact ⟨by decide, by decide⟩
              have hb := gBt_R T (gSb a (gEn a s) + (k : Int))
              have hki := yKi_R (gB a (gSb a (gEn a s) + (k : Int)))
              have g18 : g 81 18 = d 5 0 := Dr.2.2.1
              have g6 := Gt.2.2.1
              refine bX12_readRow_61 ⟨⟨by omega, by omega⟩, by decide, w3, fun z => absurd z (by omega), fun _ => ⟨fun z => absurd z (by decide), fun _ => ⟨fun z => absurd Gt.1 z, fun _ => ?_⟩⟩⟩
              rw [g6]
              refine sX12_byteAt T (F.T M) ⟨by omega, by omega⟩ (sX12_kindOf ⟨by omega, by omega⟩ ⟨⟨by omega, by omega⟩, ?_⟩)
              rw [g18]
              refine ⟨⟨by omega, by omega⟩, ?_⟩
              rw [show (k : Int) + 1 = ((k + 1 : Nat) : Int) by omega]
              have F' := F.u (o := 90) (k := 6 * d 5 0 + (k : Int)) (x := yKi (gB a (gSb a (gEn a s) + (k : Int)))) (by decide)
              by_cases z : yKi (gB a (gSb a (gEn a s) + (k : Int))) = -4
              · rw [if_pos z]
                refine bd (k + 1) _ (by omega) F' ?_ ?_ ⟨?_, ?_, ?_, ?_, fun i i0 i1 => ?_⟩ ?_
                · rw [zU_off 81 (by decide)]; exact Gt.1
                · rw [zU_off 81 (by decide)]; exact g6
                · rw [zU_off 81 (by decide), Gt.2.2.2.1, t1]; exact ⟨by decide, by decide⟩
                · rw [zU_off 81 (by decide), Gt.2.1]; exact ⟨by omega, by omega⟩
                · rw [zU_off 81 (by decide), g6]; exact ⟨by omega, by omega⟩
                · rw [zU_off 89 (by decide), Dr.1 0 (by decide) (by decide)]; exact O.2.1 0 (by decide) (by decide)
                · rw [zU_at]
                  split
                  · omega
                  · rw [D90 i i0 i1]
                    split
                    · rcases yKi_R (gB a (gSb a (gEn a s) + (i - 6 * d 5 0))) with y | y <;> omega
                    · have := (O.1 i i0 i1).1
                      omega
                · rw [if_neg (fun y => by have := y.2 k (by omega); omega)] at eB
                  exact eB
              · rw [if_neg z]
                refine ih (k + 1) _ (by omega) F' ?_ (fun j hjk => ?_) (fun i i0 i1 => ?_) ?_
                · unfold mTo at Gt ⊢
                  rw [zU_off 81 (by decide)]; exact Gt
                · by_cases e : j = k
                  · rw [e]; omega
                  · exact hj j (by omega)
                · rw [zU_at]
                  by_cases e : i = 6 * d 5 0 + (k : Int)
                  · rw [if_pos ⟨rfl, e⟩, if_pos ⟨by omega, by omega⟩, show i - 6 * d 5 0 = (k : Int) by omega]
                  · rw [if_neg (fun y => e y.2), D90 i i0 i1]
                    by_cases c : 6 * d 5 0 ≤ i ∧ i < 6 * d 5 0 + (k : Int)
                    · rw [if_pos c, if_pos ⟨c.1, by omega⟩]
                    · rw [if_neg c, if_neg (fun y => c ⟨y.1, by omega⟩)]
                · unfold yMr at Dr ⊢
                  rw [zU_off 89 (by decide), zU_off 91 (by decide), zU_off 81 (by decide)]; exact Dr
          exact lp 6 0 g1 rfl F1 G1 (fun j hj => absurd hj (by omega)) (fun i i0 i1 => by rw [if_neg (by omega)]; exact D1.1 i i0 i1) D1.2
        · rw [if_neg c66]
          rw [if_neg (fun y => c66 y.1)] at eB
          exact bd 0 g1 (by decide) F1 G1.1 G1.2.2.1 R1 eB
      · have t1 : ¬ gTk a (gEn a s) = 1 := by
          intro z
          apply c7
          rw [G1.2.2.2.1, z]
          rfl
        have cD : yDue a (gEn a s) 1 = 2 := by unfold yDue; rw [if_neg ct, if_neg t1]
        rw [cD, if_pos (by decide)] at eB
        have k := mSk_of (c := 2) R1 G1.2.2.1 ⟨by decide, by decide⟩
        exact ⟨k.r56, st 2 _ _ _ ((F1.u81 (by decide)).u81 (by decide)) k eB⟩
    · have ct : gTk a (gEn a s) = 0 := ct
      have cD : yDue a (gEn a s) 1 = 1 := by unfold yDue; rw [if_pos ct]
      rw [cD, if_pos (by decide)] at eB
      exact ⟨k1.r3, k1.r7, fun _ => ⟨k1.r56, st 1 _ _ _ F1 k1 eB⟩, fun z => absurd z k1.ne⟩
  · rw [if_pos c6] at eB
    exact sX12_fails y3 (fun _ => kb 5 _ eB _ (((mFr.rf h).u81 (by decide)).u81 (by decide)) (mSk_of R0 G.2.2.1 ⟨by decide, by decide⟩)) (fun z => absurd G.1 z)
theorem sX12_readLine {a d h : zMm} {K : zMm → Prop} {s : Int} (T : gTa a) (M : mT a h) (hC : mC h) (s0 : 0 ≤ s ∧ s ≤ a 7 1) (ct0 : ¬ gTk a s = 0) (c5 : ¬ gTk a s = 5) (G : mTo a s h) (D : yM d h) (O : yOk d) (Q : mQ a h K (yLine a d s)) : zCv mX12_readLine [.ref 81] zS0 h K := by
  have u1 := gEn_up T s0
  have s1 : 0 ≤ gEn a s ∧ gEn a s ≤ a 7 1 := ⟨by omega, u1.2.1⟩
  have u2 := gEn_up T s1
  have s2 : 0 ≤ gEn a (gEn a s) ∧ gEn a (gEn a s) ≤ a 7 1 := ⟨by omega, u2.2.1⟩
  have R0 := D.R T s0 G O
  have y3 : zR (h 81 3) := by rw [G.1]; exact ⟨by decide, by decide⟩
  have y7 : zR (h 81 7) := by have := R0.1; exact ⟨by omega, by omega⟩
  have g7 : h 81 7 = gTk a s := G.2.2.2.1.trans (if_neg c5)
  have no : yLine a d s = (2, gSb a s, s, d) → zR (-4 : Int) ∧ (¬ (-4 : Int) = -4 → False) ∧ zCv mX12_fails [.ref 81, .int (zI 2)] zS0 h (fun h52 => K h52) := by
    intro e
    rw [e] at Q
    exact ⟨by decide, fun z => z rfl, sX12_fails y3 (fun _ => Q.2.2 (by show ¬ (2 : Int) = 0; decide) _ (((mFr.rf h).u81 (by decide)).u81 (by decide)) (show mSk 2 (gSb a s) _ from mSk_of R0 G.2.2.1 ⟨by decide, by decide⟩)) (fun z => absurd G.1 z)⟩
  refine wX12_readLine ?_
  by_cases c1 : gTk a s = 1
  · have cD : yDue a s 1 = 0 := by unfold yDue; rw [if_neg ct0, if_pos c1]
    refine sX12_nameHere T M hC s0 G.2.1 G.2.2.1 (g7.trans c1) ?_
    by_cases cN : gNm a s = -4
    · have n := no (by unfold yLine; rw [if_neg (fun z => z cD), if_pos cN])
      rw [cN]
      exact ⟨n.1, fun z => (n.2.1 z).elim, fun _ => n.2.2⟩
    · have Q' := mTl_of T M s0 O cD cN Q
      have hm := gNm_R a s
      have ok := yBody_ok (a := a) (d := d) T s0 O cN
      refine ⟨⟨by omega, by omega⟩, fun _ => ⟨⟨by omega, by omega⟩, fun c8 => ⟨fun c9 => ?_, fun c9 => sX12_readSun T M s0 G D O c9 Q'⟩, fun c8 => sX12_readRow T M s0 G D O c8 Q'⟩, fun z => absurd z cN⟩
      have m0 : 0 ≤ gNm a s := by omega
      have m7 : gNm a s ≤ 7 := by omega
      obtain ⟨P, p1, p2⟩ := D.2.2.2.2
      have hb : ∀ k : Nat, k < 8 → zR (yLo (k : Int)) ∧ zR (yHi (k : Int)) := by decide
      have hb2 := hb (gNm a s).toNat (by omega)
      rw [show (((gNm a s).toNat : Nat) : Int) = gNm a s by omega] at hb2
      have eB : yBody a d s = if d 3 (gNm a s) = 1 then (4, gSb a s, s, d)
        else if ¬ yNum a (gEn a s) (yLo (gNm a s)) (yHi (gNm a s)) = 0 then (yNum a (gEn a s) (yLo (gNm a s)) (yHi (gNm a s)), gSb a (gEn a s), s, d)
        else (0, 0, gEn a (gEn a s), zU (zU d 1 (gNm a s) (gNu a (gEn a s))) 3 (gNm a s) 1) := by
        unfold yBody
        rw [if_neg c8, if_neg c9]
      have kb : ∀ code p : Int, yBody a d s = (code, p, s, d) → ∀ g, mFr h g → mSk code p g → mTl K g := fun code p e g F k => by
        rw [e] at Q'
        exact Q'.2.2 (fun z => absurd k.2.2.1.1 (by have : code = 0 := z; omega)) g F k
      rw [p1, zB_bitI ⟨m0, by omega⟩, zB_orI ⟨m0, by omega⟩, p2 _ m0 m7]
      by_cases c3 : d 3 (gNm a s) = 1
      · rw [if_pos c3] at eB
        rw [decide_eq_true c3, if_pos rfl]
        refine ⟨fun z => absurd rfl z, fun _ => sX12_fails y3 (fun _ => ?_) (fun z => absurd G.1 z)⟩
        have k := mSk_of (c := 4) R0 G.2.2.1 ⟨by decide, by decide⟩
        have F := ((mFr.rf h).u81 (k := 3) (x := 4) (by decide)).u81 (k := 4) (x := h 81 6) (by decide)
        have k2 := k.u19 (x := iO (zU (zU h 81 3 4) 81 4 (h 81 6) 81 19) (iSl 1 (gNm a s)))
        have F2 := F.u81 (k := 19) (x := iO (zU (zU h 81 3 4) 81 4 (h 81 6) 81 19) (iSl 1 (gNm a s))) (by decide)
        have k3 := k2.u89 (i := gNm a s)
        refine sX12_next1 k2.pos ⟨⟨by omega, by omega⟩, sX12_hereS k2 (sX12_next1 k3.pos (kb 4 _ eB _ (F2.u (by decide)) k3))⟩
      · rw [if_neg c3] at eB
        rw [decide_eq_false c3, if_neg (by decide)]
        refine ⟨fun _ => ?_, fun z => absurd z (by decide)⟩
        have O3 : yOk (zU d 3 (gNm a s) 1) := by
          unfold yOk at O ⊢
          rw [zU_off 0 (by decide), zU_off 2 (by decide), zU_off 1 (by decide), zU_off 5 (by decide)]
          exact O
        have D3 : yM (zU d 3 (gNm a s) 1) (zU h 81 19 (zB (fun x => P x || decide (x = gNm a s)) 10)) := by
          refine ⟨?_, ?_, ?_, ?_, ⟨_, zU_eq _ _ _ _, fun m x0 x7 => ?_⟩⟩
          · rw [zU_off 90 (by decide), zU_off 0 (by decide)]; exact D.1
          · rw [zU_off 89 (by decide), zU_off 1 (by decide)]; exact D.2.1
          · rw [zU_off 91 (by decide), zU_off 4 (by decide), zU_off 2 (by decide)]; exact D.2.2.1
          · rw [zU_81 (by decide), zU_off 5 (by decide)]; exact D.2.2.2.1
          · show (P m || decide (m = gNm a s)) = _
            by_cases e : m = gNm a s
            · rw [e, zU_eq, decide_eq_true rfl, Bool.or_true]
              exact (decide_eq_true rfl).symm
            · rw [decide_eq_false e, Bool.or_false, p2 m x0 x7, zU_ne (fun z => e z.2)]
        refine sX12_nx (x := 0) T M ((mFr.rf h).u81 (by decide)) s1 ?_ ?_ D3 O3 ⟨fun _ ct g1 F1 G1 D1 => ⟨⟨m0, by omega⟩, ?_⟩, fun _ ct g1 F1 k1 => ⟨⟨m0, by omega⟩, ?_⟩, fun z => absurd rfl z⟩
        · rw [zU_81 (by decide)]; exact G.1
        · rw [zU_81 (by decide)]; exact G.2.1
        · have ct : ¬ gTk a (gEn a s) = 0 := ct
          have G1 : mTo a (gEn a s) g1 := G1
          have D1 : yM (zU d 3 (gNm a s) 1) g1 := D1
          have R1 := D1.R T s1 G1 O3
          have q := (F1.C hC).2.2 (gNm a s) m0 (by omega)
          rw [show g1 85 (gNm a s) = yLo (gNm a s) from q.1, show g1 86 (gNm a s) = yHi (gNm a s) from q.2.1]
          refine sX12_hereT T s1 G1 ct R1 hb2.1 hb2.2 (fun c => ?_) (fun c g2 F2 k2 => ?_)
          · rw [if_neg (fun z => z c)] at eB
            rw [eB] at Q' ok
            have O' : yOk (zU (zU d 1 (gNm a s) (gNu a (gEn a s))) 3 (gNm a s) 1) := (ok rfl).1
            refine sX12_nx T M (F1.u (o := 89) (by decide)) s2 ?_ ?_ ⟨?_, fun r r0 r7 => ?_, ?_, ?_, ?_⟩ O' Q'
            · rw [zU_off 81 (by decide)]; exact G1.1
            · rw [zU_off 81 (by decide)]; exact G1.2.1
            · rw [zU_off 90 (by decide), zU_off 0 (by decide), zU_off 0 (by decide)]; exact D1.1
            · rw [zU_off 1 (by decide)]
              by_cases e : r = gNm a s
              · rw [e, zU_eq, zU_eq]
              · rw [zU_ne (fun z => e z.2), zU_ne (fun z => e z.2)]
                exact D1.2.1 r r0 r7
            · rw [zU_off 91 (by decide), zU_off 4 (by decide), zU_off 4 (by decide), zU_off 2 (by decide), zU_off 2 (by decide)]; exact D1.2.2.1
            · rw [zU_off 81 (by decide), zU_off 5 (by decide), zU_off 5 (by decide)]; exact D1.2.2.2.1
            · rw [zU_off 81 (by decide)]
              obtain ⟨P2, x1, x2⟩ := D1.2.2.2.2
              refine ⟨P2, x1, fun m x0 x7 => ?_⟩
              rw [x2 m x0 x7, zU_at, zU_at, zU_off 3 (by decide)]
          · rw [if_pos c] at eB
            have k3 := k2.u89 (i := gNm a s)
            exact sX12_next1 k3.pos (kb _ _ eB _ ((F1.trans F2).u (by decide)) k3)
        · have ct : gTk a (gEn a s) = 0 := ct
          rw [yNum_1 ct, if_pos (by decide)] at eB
          have k3 := k1.u89 (i := gNm a s)
          exact sX12_hereS k1 (sX12_next1 k3.pos (kb _ _ eB _ (F1.u (by decide)) k3))
  · have cD : yDue a s 1 = 2 := by unfold yDue; rw [if_neg ct0, if_neg c1]
    have n := no (by unfold yLine; rw [cD, if_pos (by decide)])
    exact wX12_nameHere (bX12_nameHere_2 ⟨by decide, fun z => absurd z (by decide), fun _ => ⟨y7, fun _ => ⟨n.1, fun z => (n.2.1 z).elim, fun _ => n.2.2⟩, fun z => absurd (g7.symm.trans z) c1⟩⟩)
