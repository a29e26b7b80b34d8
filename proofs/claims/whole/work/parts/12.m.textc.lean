/-! TEXT: the class reads it -/
def d00 : zMm := fun o i => if o = 1 then ([0, 1, 2, 30, 2, 20, 0, 3] : List Int).getD i.toNat 0 else if o = 2 then 3 else 0
theorem d00_ok : yOk d00 := by
  refine ⟨fun i i0 i1 => ⟨⟨(by decide : (0 : Int) ≤ 0), (by decide : (0 : Int) ≤ 4)⟩, ⟨(by decide : (0 : Int) ≤ 3), (by decide : (3 : Int) ≤ 9)⟩⟩, fun r r0 r7 => ?_, by decide⟩
  have h : ∀ k : Nat, k < 8 → yLo (k : Int) ≤ d00 1 (k : Int) ∧ d00 1 (k : Int) ≤ yHi (k : Int) := by decide
  have := h r.toNat (by omega)
  rw [show ((r.toNat : Nat) : Int) = r by omega] at this
  exact this
def yTx (a : zMm) : Int × Int × Int × zMm := yText a 322 d00 0 0
def yFx (h g : zMm) : Prop := ∀ o, ¬ (o = 1 ∨ (3 ≤ o ∧ o ≤ 9)) → g o = h o
/-- the draft, grown -/
def yDr (D h : zMm) : Prop := (∀ i : Int, 0 ≤ i → i < 36 → h 5 i = D 0 i ∧ h 6 i = (if D 0 i ≤ 1 then D 1 7 else 0) ∧ h 7 i = D 2 i ∧ h 8 i = -4) ∧ ∀ r : Int, 0 ≤ r → r ≤ 7 → h 9 r = D 1 r
theorem zB_no (n : Nat) : zB (fun _ => false) n = 0 := by
  induction n with
  | zero => rfl
  | succ n ih => rw [zB_off rfl]; exact ih
theorem sX9_readText {a h : zMm} {K : Bool → zMm → Prop} (T : gTa a) (C : cT a h)
    (w1 : (yTx a).1 = 0 → ∀ h', yFx h h' → cT a h' → h' 3 1 = 0 → h' 3 3 = (yTx a).2.2.1 → yOk (yTx a).2.2.2 → ¬ (yTx a).2.2.2 0 ((yTx a).2.2.2 1 0) = 2 → yDr (yTx a).2.2.2 h' → K true h')
    (w0 : ¬ (yTx a).1 = 0 → ∀ h', yFx h h' → cT a h' → h' 3 1 = (yTx a).1 → h' 3 2 = (yTx a).2.1 → K false h') : zCb mX9_readText [.ref 3, .ref 1] zS0 h K := by
  have hn := T.1
  have lp : ∀ (r i : Nat) (s l : Int) (d g : zMm), i + r = 322 → (i : Int) ≤ s → s ≤ a 7 1 → yText a r d s l = yTx a → yFx h g → cT a g → g 1 4 = s → yC d g → yOk d → g 3 1 = 0 → g 3 3 = l → (∀ j : Int, 0 ≤ j → j < 36 → g 8 j = -4) → RR mX9_readText 0 0 7 [some (.ref 3), some (.ref 1), some (.int (zI (i : Int)))] [] zS0 g (zQb zS0 K) := by
    intro r
    induction r with
    | zero => intro i s l d g hi his hs; exact absurd his (by omega)
    | succ r ih =>
      intro i s l d g hi his hs e F Cg g4 D O g31 g33 g8
      have s0 : 0 ≤ s ∧ s ≤ a 7 1 := ⟨by omega, hs⟩
      have ht := gTk_R a s
      refine bX9_readText_7 ⟨⟨by omega, by omega⟩, fun c => absurd c (by omega), fun _ => sX8_readToken T Cg g4 s0 (fun h8 R => ?_)⟩
      have R2 := R
      obtain ⟨r1, r2, r3, r4, r5, r6⟩ := R2
      have C8 := gRd.C Cg R
      have D8 := D.rd R
      have F8 : yFx h h8 := fun o ho => (r1 o (fun z => ho (Or.inl z))).trans (F o ho)
      rw [r3]
      refine ⟨⟨by omega, by omega⟩, fun c5 => ?_, fun c5 => ?_⟩
      · have eT : yText a (r + 1) d s l = if ¬ (yLine a d s).1 = 0 then ((yLine a d s).1, (yLine a d s).2.1, l, d) else yText a r (yLine a d s).2.2.2 (yLine a d s).2.2.1 (l + 1) := if_neg c5
        refine sX9_takeLine T C8 s0 r3 r4 r5 D8 O.2.2 (fun z h' f C' q4 D' q33 q31 => ⟨fun _ => ?_, fun y => absurd y (by decide)⟩) (fun z h' f C' q31 q32 => ⟨fun y => absurd y (by decide), fun _ => ?_⟩)
        · obtain ⟨O', up, le⟩ := yLine_ok T s0 O z
          rw [if_neg (fun y => y z)] at eT
          rw [show (i : Int) + 1 = ((i + 1 : Nat) : Int) by omega]
          refine ih (i + 1) (yLine a d s).2.2.1 (l + 1) (yLine a d s).2.2.2 _ (by omega) (by omega) le (eT.symm.trans e) ?_ ⟨?_, ?_⟩ ?_ ?_ O' ?_ ?_ ?_
          · intro o ho
            rw [zU_off o (fun y => ho (by omega)), f o (fun y => ho (by omega))]
            exact F8 o ho
          · rw [zU_off 1 (by decide)]; exact C'.1
          · rw [zU_off 2 (by decide)]; exact C'.2
          · rw [zU_off 1 (by decide)]; exact q4
          · obtain ⟨x1, x2, x3, x4, x5, x6⟩ := D'
            refine ⟨?_, ?_, ?_, ?_, ?_, ?_⟩
            · rw [zU_off 5 (by decide)]; exact x1
            · rw [zU_off 9 (by decide)]; exact x2
            · rw [zU_off 7 (by decide)]; exact x3
            · rw [zU_ne (by omega)]; exact x4
            · rw [zU_ne (by omega)]; exact x5
            · rw [zU_ne (by omega)]; exact x6
          · rw [zU_ne (by omega), q31, r1 3 (by decide)]; exact g31
          · rw [zU_eq, q33, r1 3 (by decide), g33]
          · intro j j0 j1
            rw [zU_off 8 (by decide), f 8 (by decide), r1 8 (by decide)]
            exact g8 j j0 j1
        · rw [if_pos z] at eT
          rw [← e, eT] at w0
          exact w0 z h' (fun o ho => (f o (fun y => ho (by omega))).trans (F8 o ho)) C' q31 q32
      · have eT : yText a (r + 1) d s l = if d 0 (d 1 0) = 2 then (6, a 7 1, l, d) else (0, 0, l, d) := if_pos c5
        obtain ⟨x1, x2, x3, -, -, -⟩ := D8
        have o10 := O.2.1 0 (by decide) (by decide)
        have q10 : 0 ≤ d 1 0 ∧ d 1 0 ≤ 35 := ⟨Int.le_trans (by decide) o10.1, Int.le_trans o10.2 (by decide)⟩
        have kd : zKd (h8 5) (d 0) := fun j j0 j1 => ⟨x1 j j0 j1, (O.1 j j0 j1).1⟩
        refine sX3_growToTold g0_4 kd (fun h11 f1 f2 => ?_)
        have kd1 : zKd (h11 5) (d 0) := by rw [f1 5 (by decide)]; exact kd
        refine sX3_told g0_4 ⟨by decide, by decide⟩ ?_
        rw [show h11 (4 + 5) 0 = d 1 0 by rw [f1 9 (by decide)]; exact x2 0 (by decide) (by decide)]
        refine sX3_isOpen' g0_4 kd1 ⟨by omega, by omega⟩ ?_
        have F11 : yFx h h11 := fun o ho => (f1 o (fun z => ho (by omega))).trans (F8 o ho)
        have C11 : cT a h11 := ⟨by rw [f1 1 (by decide)]; exact C8.1, by rw [f1 2 (by decide)]; exact C8.2⟩
        by_cases c2 : d 0 (d 1 0) = 2
        · rw [if_pos c2] at eT
          rw [decide_eq_false (show ¬ ¬ d 0 (d 1 0) = 2 from fun z => z c2)]
          refine ⟨fun z => absurd z (by decide), fun _ => wX9_refuse ?_⟩
          rw [← e, eT] at w0
          refine w0 (by show ¬ (6 : Int) = 0; decide) _ (fun o ho => ?_) ⟨?_, ?_⟩ ?_ ?_
          · rw [zU_off o (fun z => ho (by omega)), zU_off o (fun z => ho (by omega))]; exact F11 o ho
          · rw [zU_off 1 (by decide), zU_off 1 (by decide)]; exact C11.1
          · rw [zU_off 2 (by decide), zU_off 2 (by decide)]; exact C11.2
          · rw [zU_ne (by omega), zU_eq]
          · rw [zU_eq]; exact C11.1
        · rw [if_neg c2] at eT
          rw [decide_eq_true c2]
          refine ⟨fun _ => ?_, fun z => absurd z (by decide)⟩
          rw [← e, eT] at w1
          refine w1 rfl h11 F11 C11 ?_ ?_ O c2 ⟨fun j j0 j1 => ⟨?_, f2 j j0 j1 |>.trans ?_, ?_, ?_⟩, fun q q0 q7 => ?_⟩
          · rw [f1 3 (by decide), r1 3 (by decide)]; exact g31
          · rw [f1 3 (by decide), r1 3 (by decide)]; exact g33
          · rw [f1 5 (by decide)]; exact x1 j j0 j1
          · rw [show h8 (4 + 5) 7 = d 1 7 from x2 7 (by decide) (by decide)]
          · rw [f1 7 (by decide)]; exact x3 j j0 j1
          · rw [f1 8 (by decide), r1 8 (by decide)]; exact g8 j j0 j1
          · rw [f1 9 (by decide)]; exact x2 q q0 q7
  refine wX9_readText (wX9_startAnew (sX3_startAnew0 g0_4 (fun h1 G => wX8_rewind ?_)))
  obtain ⟨G1, G2, G3⟩ := G
  have z3 : ∀ o, o ≠ 1 → o ≠ 3 → (zU (zU (zU (zU (zU (zU (zU h1 1 4 0) 3 1 0) 3 2 0) 3 3 0) 3 4 0) 3 5 0) 3 6 0) o = h1 o := fun o o1 o3 => by
    rw [zU_off o o3, zU_off o o3, zU_off o o3, zU_off o o3, zU_off o o3, zU_off o o3, zU_off o o1]
  have z1 : (zU (zU (zU (zU (zU (zU (zU h1 1 4 0) 3 1 0) 3 2 0) 3 3 0) 3 4 0) 3 5 0) 3 6 0) 1 = zU h1 1 4 0 1 := by
    rw [zU_off 1 (by decide), zU_off 1 (by decide), zU_off 1 (by decide), zU_off 1 (by decide), zU_off 1 (by decide), zU_off 1 (by decide)]
  refine lp 322 0 0 0 d00 _ rfl (Int.le_refl _) hn.1 rfl (fun o ho => ?_) ⟨?_, ?_⟩ ?_ ⟨fun i i0 i1 => ?_, fun r r0 r7 => ?_, fun i i0 i1 => ?_, rfl, ⟨fun _ => false, ?_, fun m _ _ => rfl⟩, ⟨fun _ => false, ?_, fun c _ _ => rfl⟩⟩ d00_ok rfl rfl (fun j j0 j1 => ?_)
  · rw [z3 o (fun z => ho (by omega)) (fun z => ho (by omega))]; exact G1 o (by omega)
  · rw [z1, zU_ne (by omega), G1 1 (by decide)]; exact C.1
  · rw [z3 2 (by decide) (by decide), G1 2 (by decide)]; exact C.2
  · rw [z1, zU_eq]
  · rw [z3 5 (by decide) (by decide)]; exact (G2 i i0 i1).1
  · rw [z3 9 (by decide) (by decide)]; exact G3 r r0 r7
  · rw [z3 7 (by decide) (by decide)]; exact (G2 i i0 i1).2.2.1
  · rw [zB_no]; rfl
  · rw [zB_no]; rfl
  · rw [z3 8 (by decide) (by decide)]; exact (G2 j j0 j1).2.2.2
