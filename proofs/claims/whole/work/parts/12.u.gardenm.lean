/-! TEXT: garden(), the model -/
theorem yText_bad {a : zMm} {s : Int} (c : gTk a s = 0) (r : Nat) (hr : 0 < r) (d : zMm) (l : Int) : (yText a r d s l).1 = 1 ∧ (yText a r d s l).2.1 = gSb a s := by
  obtain ⟨q, rfl⟩ : ∃ q, r = q + 1 := ⟨r - 1, by omega⟩
  have eL : yLine a d s = (1, gSb a s, s, d) := by
    have e : yDue a s 1 = 1 := by unfold yDue; rw [if_pos c]
    unfold yLine
    rw [e, if_pos (by decide)]
  have eT : yText a (q + 1) d s l = ((yLine a d s).1, (yLine a d s).2.1, l, d) := by
    show (if gTk a s = 5 then _ else if ¬ (yLine a d s).1 = 0 then _ else _) = _
    rw [if_neg (by omega), eL, if_pos (show ¬ (1 : Int) = 0 by decide)]
  rw [eT, eL]
  exact ⟨rfl, rfl⟩
theorem mG_no {a h h' : zMm} (M : MR a h) (c : ¬ (yTx a).1 = 0) (f : ∀ o, o ≠ 81 → o ≠ 89 → o ≠ 90 → o ≠ 91 → h' o = h o) (f1 : ∀ i : Int, ¬ ((3 ≤ i ∧ i ≤ 8) ∨ i = 18 ∨ i = 19) → i ≠ 1 → i ≠ 2 → h' 81 i = h 81 i) (e1 : h' 81 1 = 0) (e2 : h' 81 2 = (yTx a).1) : MR (aGarden a) h' := by
  obtain ⟨⟨g71, g72⟩, g7, go⟩ := aG_no c
  obtain ⟨MG, MT, MI, MS, MO, MC⟩ := M
  refine ⟨?_, ⟨e1.trans g71.symm, fun i i0 i1 => ?_⟩, ?_, fun k hk => ?_, ⟨e2.trans g72.symm, ?_⟩, ?_⟩
  · unfold mG mA mZ zGm at MG ⊢
    rw [f1 21 (by decide) (by decide) (by decide), f 92 (by decide) (by decide) (by decide) (by decide), f 88 (by decide) (by decide) (by decide) (by decide), go 0 (by decide), go 1 (by decide), go 2 (by decide), go 3 (by decide), go 4 (by decide), go 5 (by decide), go 6 (by decide), g7 0 (by decide), g7 4 (by decide), g7 5 (by decide)]
    exact MG
  · rw [g71] at i1; exact absurd i1 (by omega)
  · unfold mI mI1 at MI ⊢
    rw [f 104 (by decide) (by decide) (by decide) (by decide), f 92 (by decide) (by decide) (by decide) (by decide), g7 4 (by decide), g7 5 (by decide), go 10 (by decide), go (10 + 1) (by decide), go (10 + 2) (by decide), go (10 + 3) (by decide), go (10 + 4) (by decide), go (10 + 5) (by decide), go 20 (by decide), go (20 + 1) (by decide), go (20 + 2) (by decide), go (20 + 3) (by decide), go (20 + 4) (by decide), go (20 + 5) (by decide)]
    exact MI
  · rw [go 30 (by decide), go 31 (by decide), go (32 + k) (by omega), f 105 (by decide) (by decide) (by decide) (by decide), f 106 (by decide) (by decide) (by decide) (by decide), f 107 (by decide) (by decide) (by decide) (by decide)]
    exact MS k hk
  · rw [g7 3 (by decide), f1 50 (by decide) (by decide) (by decide)]; exact MO.2
  · unfold mC at MC ⊢
    rw [f 83 (by decide) (by decide) (by decide) (by decide), f 84 (by decide) (by decide) (by decide) (by decide), f 85 (by decide) (by decide) (by decide) (by decide), f 86 (by decide) (by decide) (by decide) (by decide), f 87 (by decide) (by decide) (by decide) (by decide)]
    exact MC
theorem mGarden {a h : zMm} {K : Int → zMm → Prop} (W : WF a) (M : MR a h) (hK : ∀ h', MR (aGarden a) h' → zLo81 h h' → K (fGarden a) h') : zCi mX12_garden [.ref 81] zS0 h K := by
  have T : gTa a := W.2.2.2.2.1
  have hn := T.1
  have M0 := M
  obtain ⟨MG, MT, MI, MS, MO, MC⟩ := M
  have fin0 : ∀ (l : Int) (g : zMm), mFr h g → ¬ (yTx a).1 = 0 → mSk (yTx a).1 (yTx a).2.1 g → K ((-10) - (g 81 4)) (zU (zU g 81 1 0) 81 2 (g 81 3)) := by
    intro l g F c k
    have ef : fGarden a = -10 - g 81 4 := by unfold fGarden; rw [if_neg c, k.2.1]
    rw [← ef]
    refine hK _ (mG_no M0 c (fun o o1 o2 o3 o4 => ?_) (fun i hi i1 i2 => ?_) ?_ ?_) (fun o ho => ?_)
    · rw [zU_off o o1, zU_off o o1]; exact F.1 o o1 o2 o3 o4
    · rw [zU_81 i2, zU_81 i1]; exact F.2 i hi
    · rw [zU_81 (by decide), zU_eq]
    · rw [zU_eq]; exact k.1
    · rw [zU_off o (by omega), zU_off o (by omega)]; exact F.1 o (by omega) (by omega) (by omega) (by omega)
  have st : ∀ (l : Int) (g : zMm), mFr h g → ¬ (yTx a).1 = 0 → mSk (yTx a).1 (yTx a).2.1 g → RR mX12_garden 0 0 80 [some (.ref 81), some (.int (zI l)), none] [] zS0 g (zQi zS0 K) := by
    intro l g F c k
    have kp := k.pos
    have k89 := k.2.2.2.2.2.2.1
    have k90 := k.2.2.2.2.2.2.2 (g 89 0) k89.1 (by omega)
    refine bX12_garden_80 ⟨k.r3, k.r7, fun _ => ⟨⟨k89.1, by omega⟩, ⟨by omega, by omega⟩, fun _ => ⟨fun z => absurd z (by omega), fun _ => fin0 l g F c k⟩, fun _ => sX12_failS k ⟨k.r3, fun z => absurd z (by omega), fun _ => fin0 l g F c k⟩⟩, fun z => absurd z k.ne⟩
  have lp : ∀ (r i : Nat) (s l : Int) (d g : zMm), i + r = 322 → (i : Int) ≤ s → s ≤ a 7 1 → yText a r d s l = yTx a → mFr h g → mTo a s g → ¬ gTk a s = 0 → yM d g → yOk d → RR mX12_garden 0 0 80 [some (.ref 81), some (.int (zI l)), none] [] zS0 g (zQi zS0 K) := by
    intro r
    induction r with
    | zero => intro i s l d g hi his hs; exact absurd his (by omega)
    | succ r ih =>
      intro i s l d g hi his hs e F G ct D O
      have s0 : 0 ≤ s ∧ s ≤ a 7 1 := ⟨by omega, hs⟩
      have R := D.R T s0 G O
      have e4 := gTk_R a s
      have z3 : zR (g 81 3) := by rw [G.1]; exact ⟨by decide, by decide⟩
      have z7 : zR (g 81 7) := by have := R.1; exact ⟨by omega, by omega⟩
      refine bX12_garden_80 ⟨z3, z7, fun z => absurd G.1 z, fun _ => ⟨fun c7 => ?_, fun c7 => ?_⟩⟩
      · have c5 : gTk a s = 5 := by
          have := G.2.2.2.1
          rw [c7] at this
          split at this
          · assumption
          · exact absurd this.symm ct
        have eT : yText a (r + 1) d s l = if d 0 (d 1 0) = 2 then (6, a 7 1, l, d) else (0, 0, l, d) := if_pos c5
        have o1 : (0 : Int) ≤ d 1 0 ∧ d 1 0 ≤ 35 := O.2.1 0 (by decide) (by decide)
        have od := (O.1 (d 1 0) o1.1 (by omega)).1
        rw [D.2.1 0 (by decide) (by decide), D.1 (d 1 0) o1.1 (by omega)]
        refine ⟨⟨o1.1, by omega⟩, ⟨by omega, by omega⟩, fun c2 => ⟨fun _ => ?_, fun z => absurd (show g 81 3 ≤ 0 by rw [G.1]; decide) z⟩, fun c2 => ?_⟩
        · rw [if_neg c2] at eT
          have e0 : yTx a = (0, 0, l, d) := e.symm.trans eT
          have c : (yTx a).1 = 0 := by rw [e0]
          obtain ⟨g1, ⟨g70, g71, g72⟩, g7, go⟩ := aG_ok c
          have ef : fGarden a = l := by unfold fGarden; rw [if_pos c, e0]
          rw [e0] at g1
          have x81 : ∀ o, o ≠ 81 → zU (zU g 81 1 0) 81 2 (g 81 3) o = g o := fun o ho => by rw [zU_off o ho, zU_off o ho]
          refine sX12_takeAll (D := d) (fun j j0 j1 => ⟨?_, (O.1 j j0 j1).1⟩) (fun q q0 q7 => ?_) (fun j j0 j1 => ⟨?_, (O.1 j j0 j1).2⟩) (fun h' f f81 f21 f88 f92 f192 fhi => ?_)
          · rw [x81 90 (by decide)]; exact D.1 j j0 j1
          · rw [x81 89 (by decide)]; exact D.2.1 q q0 q7
          · rw [x81 91 (by decide)]
            by_cases c4 : d 4 j = 1
            · exact Or.inr ((D.2.2.1 j j0 j1).1 c4)
            · have := (D.2.2.1 j j0 j1).2 c4
              exact Or.inl (this.1.trans this.2.symm)
          · rw [← ef]
            have ff : ∀ o, o ≠ 81 → o ≠ 88 → o ≠ 89 → o ≠ 90 → o ≠ 91 → o ≠ 92 → h' o = h o := fun o o1 o2 o3 o4 o5 o6 => by
              rw [f o o1 o2 o6, x81 o o1]; exact F.1 o o1 o3 o4 o5
            have f9h : ∀ i : Int, 144 ≤ i → i ≠ 192 → h' 92 i = h 92 i := fun i i0 i1 => by
              rw [fhi i i0 i1, x81 92 (by decide), F.1 92 (by decide) (by decide) (by decide) (by decide)]
            refine hK h' ⟨Or.inl ⟨f21, ⟨fun i i0 i1 => ⟨?_, ?_⟩, fun q q0 q7 => ?_, ?_, fun i i0 i1 => ?_, fun i i0 i1 => ⟨?_, ?_⟩⟩, fun i i0 i1 => ?_⟩, ⟨?_, fun i i0 i1 => ?_⟩, ?_, fun k hk => ?_, ⟨?_, ?_⟩, ?_⟩ (fun o ho => ff o (by omega) (by omega) (by omega) (by omega) (by omega) (by omega))
            · rw [(g1 i).1]; exact (f92 i i0 i1).1
            · rw [(g1 i).1]; exact (O.1 i i0 i1).1
            · rw [(g1 q).2.2.2.2]; exact f88 q q0 q7
            · rw [g70]; exact f192
            · rw [g70] at i1; exact absurd i1 (by omega)
            · rw [(g1 i).2.1]; exact (f92 i i0 i1).2.1
            · rw [(g1 i).2.2.2.1]; exact (f92 i i0 i1).2.2.1
            · rw [(g1 i).2.2.1]; exact (f92 i i0 i1).2.2.2
            · rw [g71, f81 1 (by decide), zU_81 (by decide), zU_eq]
            · rw [g71] at i1; exact absurd i1 (by omega)
            · unfold mI mI1 at MI ⊢
              rw [ff 104 (by decide) (by decide) (by decide) (by decide) (by decide) (by decide), g7 4 (by decide), g7 5 (by decide), go 10 (by decide) (by decide), go (10 + 1) (by decide) (by decide), go (10 + 2) (by decide) (by decide), go (10 + 3) (by decide) (by decide), go (10 + 4) (by decide) (by decide), go (10 + 5) (by decide) (by decide), go 20 (by decide) (by decide), go (20 + 1) (by decide) (by decide), go (20 + 2) (by decide) (by decide), go (20 + 3) (by decide) (by decide), go (20 + 4) (by decide) (by decide), go (20 + 5) (by decide) (by decide)]
              obtain ⟨m1, m2, m3, m4⟩ := MI
              refine ⟨m1, m2, fun z => ?_, fun z => ?_⟩
              · obtain ⟨q1, q2, q3⟩ := m3 z
                refine ⟨fun i i0 i1 => ?_, ?_, fun i i0 i1 => ?_⟩
                · rw [f9h _ (by omega) (by omega), f9h _ (by omega) (by omega), f9h _ (by omega) (by omega)]; exact q1 i i0 i1
                · rw [f9h _ (by omega) (by omega)]; exact q2
                · rw [f9h _ (by omega) (by omega), f9h _ (by omega) (by omega)]; exact q3 i i0 i1
              · obtain ⟨q1, q2, q3⟩ := m4 z
                refine ⟨fun i i0 i1 => ?_, ?_, fun i i0 i1 => ?_⟩
                · rw [f9h _ (by omega) (by omega), f9h _ (by omega) (by omega), f9h _ (by omega) (by omega)]; exact q1 i i0 i1
                · rw [f9h _ (by omega) (by omega)]; exact q2
                · rw [f9h _ (by omega) (by omega), f9h _ (by omega) (by omega)]; exact q3 i i0 i1
            · rw [go 30 (by decide) (by decide), go 31 (by decide) (by decide), go (32 + k) (by omega) (by omega), ff 105 (by decide) (by decide) (by decide) (by decide) (by decide) (by decide), ff 106 (by decide) (by decide) (by decide) (by decide) (by decide) (by decide), ff 107 (by decide) (by decide) (by decide) (by decide) (by decide) (by decide)]
              exact MS k hk
            · rw [g72, f81 2 (by decide), zU_eq]; exact G.1
            · rw [g7 3 (by decide), f81 50 (by decide), zU_81 (by decide), zU_81 (by decide), F.2 50 (by decide)]; exact MO.2
            · unfold mC at MC ⊢
              rw [ff 83 (by decide) (by decide) (by decide) (by decide) (by decide) (by decide), ff 84 (by decide) (by decide) (by decide) (by decide) (by decide) (by decide), ff 85 (by decide) (by decide) (by decide) (by decide) (by decide) (by decide), ff 86 (by decide) (by decide) (by decide) (by decide) (by decide) (by decide), ff 87 (by decide) (by decide) (by decide) (by decide) (by decide) (by decide)]
              exact MC
        · rw [if_pos c2] at eT
          have e0 : yTx a = (6, a 7 1, l, d) := e.symm.trans eT
          have c : ¬ (yTx a).1 = 0 := by rw [e0]; show ¬ (6 : Int) = 0; decide
          have p : gSb a s = a 7 1 := by
            have q := gSb_in s0.2
            have q5 : gC a s = 5 := by
              unfold gTk at c5
              split at c5
              · exact absurd c5 (by decide)
              · exact c5
            refine Int.le_antisymm q.2 (Int.not_lt.mp (fun z => ?_))
            exact gK_5 T (by omega) z q5
          have k := mSk_of (c := 6) R (G.2.2.1.trans p) ⟨by decide, by decide⟩
          have k' : mSk (yTx a).1 (yTx a).2.1 (zU (zU g 81 3 6) 81 4 (g 81 6)) := by rw [e0]; exact k
          have kp := k.pos
          exact sX12_fails z3 (fun _ => ⟨k.r3, fun z => absurd z (by omega), fun _ => fin0 l _ ((F.u81 (by decide)).u81 (by decide)) c k'⟩) (fun z => absurd G.1 z)
      · have c5 : ¬ gTk a s = 5 := fun z => c7 (G.2.2.2.1.trans (if_pos z))
        have eT : yText a (r + 1) d s l = if ¬ (yLine a d s).1 = 0 then ((yLine a d s).1, (yLine a d s).2.1, l, d) else yText a r (yLine a d s).2.2.2 (yLine a d s).2.2.1 (l + 1) := if_neg c5
        refine sX12_readLine T (F.T MT) (F.C MC) s0 ct c5 G D O ⟨fun z ct' k F' G' D' => ?_, fun z ct' k F' k' => ?_, fun z k F' k' => ?_⟩
        · obtain ⟨O', up, le⟩ := yLine_ok T s0 O z
          rw [if_neg (fun y => y z)] at eT
          exact ih (i + 1) _ _ _ _ (by omega) (by omega) le (eT.symm.trans e) (F.trans F') G' ct' D' O'
        · obtain ⟨O', up, le⟩ := yLine_ok T s0 O z
          rw [if_neg (fun y => y z)] at eT
          have q := yText_bad ct' r (by omega) (yLine a d s).2.2.2 (l + 1)
          rw [eT.symm.trans e] at q
          refine st _ k (F.trans F') (by rw [q.1]; decide) ?_
          rw [q.1, q.2]
          exact k'
        · rw [if_pos z] at eT
          have e0 : yTx a = ((yLine a d s).1, (yLine a d s).2.1, l, d) := e.symm.trans eT
          refine st _ k (F.trans F') (by rw [e0]; exact z) ?_
          rw [e0]
          exact k'
  have l50 : ∀ (n k : Nat) (g : zMm), k + n = 36 → mFr h g → g 81 3 = 0 → g 81 5 = 0 → g 81 18 = 0 → g 81 19 = 0 → (∀ r : Int, 0 ≤ r → r ≤ 7 → g 89 r = d00 1 r) → (∀ i : Int, 0 ≤ i → i < k → g 90 i = 0 ∧ g 91 i = 3) → RR mX12_garden 0 0 50 [some (.ref 81), some (.int (zI 0)), some (.int (zI (k : Int)))] [] zS0 g (zQi zS0 K) := by
    intro n
    induction n with
    | zero =>
      intro k g hk F e3 e5 e18 e19 e89 e90
      refine bX12_garden_50 ⟨⟨by omega, by omega⟩, fun _ => ?_, fun c => absurd (show (36 : Int) ≤ k by omega) c⟩
      refine sX12_nx (x := 0) (d := d00) T MT F ⟨Int.le_refl _, hn.1⟩ e3 e5 ⟨fun i i0 i1 => (e90 i i0 (by omega)).1, e89, fun c c0 c1 => ⟨fun z => absurd (show (0 : Int) = 1 from z) (by decide), fun _ => ⟨(e90 c c0 (by omega)).2, rfl⟩⟩, e18, ⟨fun _ => false, ?_, fun m _ _ => rfl⟩⟩ d00_ok ⟨fun _ ct g1 F1 G1 D1 => ?_, fun _ ct g1 F1 k1 => ?_, fun z => absurd rfl z⟩
      · rw [zB_no]; exact e19
      · exact lp 322 0 0 0 d00 g1 rfl (Int.le_refl _) hn.1 rfl F1 G1 ct D1 d00_ok
      · have ct : gTk a 0 = 0 := ct
        have q := yText_bad ct 322 (by decide) d00 0
        refine st 0 g1 F1 (by show ¬ (yText a 322 d00 0 0).1 = 0; rw [q.1]; decide) ?_
        show mSk (yText a 322 d00 0 0).1 (yText a 322 d00 0 0).2.1 g1
        rw [q.1, q.2]
        exact k1
    | succ n ih =>
      intro k g hk F e3 e5 e18 e19 e89 e90
      refine bX12_garden_50 ⟨⟨by omega, by omega⟩, fun c => absurd c (by omega), fun _ => ⟨⟨by omega, by omega⟩, ?_⟩⟩
      rw [show (k : Int) + 1 = ((k + 1 : Nat) : Int) by omega]
      refine ih (k + 1) _ (by omega) ((F.u (by decide)).u (by decide)) ?_ ?_ ?_ ?_ ?_ (fun i i0 i1 => ⟨?_, ?_⟩)
      · rw [zU_off 81 (by decide), zU_off 81 (by decide)]; exact e3
      · rw [zU_off 81 (by decide), zU_off 81 (by decide)]; exact e5
      · rw [zU_off 81 (by decide), zU_off 81 (by decide)]; exact e18
      · rw [zU_off 81 (by decide), zU_off 81 (by decide)]; exact e19
      · rw [zU_off 89 (by decide), zU_off 89 (by decide)]; exact e89
      · rw [zU_off 90 (by decide)]
        by_cases c : i = k
        · rw [c, zU_eq]
        · rw [zU_ne (fun z => c z.2)]; exact (e90 i i0 (by omega)).1
      · by_cases c : i = k
        · rw [c, zU_eq]
        · rw [zU_ne (fun z => c z.2), zU_off 91 (by decide)]; exact (e90 i i0 (by omega)).2
  have l24 : ∀ (n k : Nat) (g : zMm), k + n = 8 → mFr h g → g 81 3 = 0 → g 81 5 = 0 → g 81 18 = 0 → g 81 19 = 0 → (∀ r : Int, 0 ≤ r → r < k → g 89 r = d00 1 r) → RR mX12_garden 0 0 24 [some (.ref 81), some (.int (zI 0)), some (.int (zI (k : Int)))] [] zS0 g (zQi zS0 K) := by
    intro n
    induction n with
    | zero =>
      intro k g hk F e3 e5 e18 e19 e89
      refine bX12_garden_24 ⟨⟨by omega, by omega⟩, fun _ => ?_, fun c => absurd (show (8 : Int) ≤ k by omega) c⟩
      exact l50 36 0 g rfl F e3 e5 e18 e19 (fun r r0 r7 => e89 r r0 (by omega)) (fun i i0 i1 => absurd i1 (by omega))
    | succ n ih =>
      intro k g hk F e3 e5 e18 e19 e89
      refine bX12_garden_24 ⟨⟨by omega, by omega⟩, fun c => absurd c (by omega), fun _ => ⟨⟨by omega, by omega⟩, ?_⟩⟩
      rw [show (k : Int) + 1 = ((k + 1 : Nat) : Int) by omega]
      refine ih (k + 1) _ (by omega) (F.u (by decide)) ?_ ?_ ?_ ?_ (fun r r0 r1 => ?_)
      · rw [zU_off 81 (by decide)]; exact e3
      · rw [zU_off 81 (by decide)]; exact e5
      · rw [zU_off 81 (by decide)]; exact e18
      · rw [zU_off 81 (by decide)]; exact e19
      · by_cases c : r = k
        · rw [c, zU_eq]
          exact ((F.C MC).2.2 k (by omega) (by omega)).2.2
        · rw [zU_ne (fun z => c z.2)]; exact e89 r r0 (by omega)
  refine wX12_garden ?_
  refine l24 8 0 _ rfl (((((mFr.rf h).u81 (by decide)).u81 (by decide)).u81 (by decide)).u81 (by decide)) ?_ ?_ ?_ ?_ (fun r r0 r1 => absurd r1 (by omega))
  · rw [zU_81 (by decide), zU_81 (by decide), zU_81 (by decide), zU_eq]
  · rw [zU_81 (by decide), zU_81 (by decide), zU_eq]
  · rw [zU_81 (by decide), zU_eq]
  · rw [zU_eq]
