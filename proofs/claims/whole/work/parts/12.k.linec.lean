/-! TEXT: the class takes a line, whole -/
theorem gKn_0 {m : Int} (hm : m = -4 ∨ (0 ≤ m ∧ m < 10)) (h4 : ¬ m = -4) : 0 ≤ gKn m ∧ gKn m < 10 ∧ (m = 8 → gKn m = 0) ∧ (m = 9 → gKn m = 9) ∧ (¬ m = 8 → ¬ m = 9 → gKn m = m + 1 ∧ ¬ gKn m = 0 ∧ ¬ gKn m = 9 ∧ m ≤ 7) := by
  unfold gKn
  rw [if_neg h4]
  by_cases c8 : m = 8
  · rw [if_pos c8]; exact ⟨by decide, by decide, fun _ => rfl, fun z => by omega, fun z => absurd c8 z⟩
  · rw [if_neg c8]
    by_cases c9 : m = 9
    · rw [if_pos c9]; exact ⟨by decide, by decide, fun z => absurd z c8, fun _ => rfl, fun _ z => absurd c9 z⟩
    · rw [if_neg c9]; exact ⟨by omega, by omega, fun z => absurd z c8, fun z => absurd z c9, fun _ _ => ⟨rfl, by omega, by omega, by omega⟩⟩
theorem sX9_takeLine {a d h : zMm} {K : Bool → zMm → Prop} {s : Int} (T : gTa a) (C : cT a h) (s0 : 0 ≤ s ∧ s ≤ a 7 1) (h2 : h 1 2 = gTk a s) (h3 : h 1 3 = gSb a s) (h4 : h 1 4 = gEn a s) (D : yC d h) (hd : 0 ≤ d 5 0 ∧ d 5 0 ≤ 6)
    (w1 : (yLine a d s).1 = 0 → ∀ h', yFr h h' → cT a h' → h' 1 4 = (yLine a d s).2.2.1 → yC (yLine a d s).2.2.2 h' → h' 3 3 = h 3 3 → h' 3 1 = h 3 1 → K true h')
    (w0 : ¬ (yLine a d s).1 = 0 → ∀ h', yFr h h' → cT a h' → h' 3 1 = (yLine a d s).1 → h' 3 2 = (yLine a d s).2.1 → K false h') : zCb mX9_takeLine [.ref 3, .ref 1] zS0 h K := by
  obtain ⟨e1, e2, -, -⟩ := gEn_in T s0.1 s0.2
  have e3 := gSb_in s0.2
  have n0 := T.1
  have s1 : 0 ≤ gEn a s ∧ gEn a s ≤ a 7 1 := ⟨by omega, e2⟩
  have sx : ∀ t : Int, 0 ≤ t ∧ t ≤ a 7 1 → 0 ≤ gEn a t ∧ gEn a t ≤ a 7 1 := fun t ht => by
    have q1 := gEn_in T ht.1 ht.2
    have q2 := gSb_in ht.2
    exact ⟨by omega, q1.2.1⟩
  have bad : ∀ (code place : Int) (g : zMm), yLine a d s = (code, place, s, d) → ¬ code = 0 → yFr h g → cT a g → K false (zU (zU g 3 1 code) 3 2 place) := by
    intro code place g e hc f Cg
    rw [e] at w0
    refine w0 hc _ ((f.up (Or.inr (Or.inl rfl))).up (Or.inr (Or.inl rfl))) ⟨?_, ?_⟩ ?_ (zU_eq _ _ _ _)
    · rw [zU_off 1 (by decide), zU_off 1 (by decide)]; exact Cg.1
    · rw [zU_off 2 (by decide), zU_off 2 (by decide)]; exact Cg.2
    · rw [zU_ne (by omega), zU_eq]
  have f0 : yFr h h := fun _ _ => rfl
  refine wX9_takeLine (sX9_isDue ⟨by decide, by decide⟩ h2 h3 (fun cd => ⟨fun _ => ?_, fun z => absurd z (by decide)⟩) (fun cd => ⟨fun z => absurd z (by decide), fun _ => bad _ _ h (if_pos cd) cd f0 C⟩))
  have hL : ¬ yDue a s 1 = 0 → False := fun z => z cd
  refine sX9_kindOfLine T C s0 h3 h4 ?_
  by_cases hN : gNm a s = -4
  · rw [hN]
    refine ⟨by decide, fun z => absurd (show gKn (-4) = -1 by decide) z, fun _ => ?_⟩
    rw [h3]
    exact wX9_refuse (bad 2 _ h (by unfold yLine; rw [if_neg hL, if_pos hN]) (by decide) f0 C)
  obtain ⟨k0, k1, k8, k9, k7⟩ := gKn_0 (gNm_R a s) hN
  have hm := gNm_R a s
  have lnb : ∀ code place : Int, yBody a d s = (code, place, s, d) → ¬ code = 0 → yLine a d s = (code, place, s, d) := by
    intro code place e hc
    unfold yLine
    rw [if_neg hL, if_neg hN, e]
    exact if_pos hc
  obtain ⟨D1, D2, D3, D4, ⟨P, p1, p2⟩, Q, q1, q2⟩ := D
  rw [h3, D4, p1, zB_orI ⟨k0, k1⟩, zB_bitI ⟨k0, k1⟩]
  generalize hP' : (fun x => P x || decide (x = gKn (gNm a s))) = P'
  generalize hg0 : zU h 3 5 (zB P' 10) = g0
  have z0 : ∀ o, o ≠ 3 → g0 o = h o := fun o ho => by rw [← hg0]; exact zU_off o ho
  have z3 : ∀ i : Int, i ≠ 5 → g0 3 i = h 3 i := fun i hi => by rw [← hg0]; exact zU_ne (fun z => hi z.2)
  have z5 : g0 3 5 = zB P' 10 := by rw [← hg0]; exact zU_eq _ _ _ _
  have C0 : cT a g0 := ⟨by rw [z0 1 (by decide)]; exact C.1, by rw [z0 2 (by decide)]; exact C.2⟩
  have F0 : yFr h g0 := by rw [← hg0]; exact f0.up (Or.inr (Or.inl rfl))
  have g14 : g0 1 4 = gEn a s := by rw [z0 1 (by decide)]; exact h4
  refine ⟨⟨by omega, by omega⟩, fun _ => ?_, fun z => absurd z (by omega)⟩
  by_cases c8 : gNm a s = 8
  · rw [k8 c8]
    have pk : ∀ m : Int, 0 ≤ m → m ≤ 7 → P' (m + 1) = decide (d 3 m = 1) := fun m m0 m7 => by
      rw [← hP', k8 c8]
      show (P (m + 1) || decide (m + 1 = 0)) = _
      rw [p2 m m0 m7, decide_eq_false (show ¬ m + 1 = 0 by omega), Bool.or_false]
    refine ⟨fun z => absurd rfl z, fun _ => ⟨⟨by omega, by omega⟩, fun c6 => ⟨fun _ => ⟨fun z => absurd rfl z, fun _ => ?_⟩, fun z => absurd rfl z⟩, fun c6 => ?_⟩⟩
    · refine sX9_takeRow (r := d 5 0) T C0 g14 s1 ((z3 4 (by decide)).trans D4) ⟨hd.1, by omega⟩ (fun cD c6' ck h' R => ⟨fun _ => ?_, fun z => absurd z (by decide)⟩) (fun cD h' R => ⟨fun z => absurd z (by decide), fun _ => ?_⟩) (fun cD c6' n h' R => ⟨fun z => absurd z (by decide), fun _ => ?_⟩)
      · have r1 := R.1
        have CR' := gRd.C C0 R
        have yo : ∀ o, o ≠ 5 → o ≠ 3 → zU (yRn a h' (gEn a s) (d 5 0) 6) 3 4 (d 5 0 + 1) o = h' o := fun o o5 o3 => by rw [zU_off o o3, yRn_off o5]
        have y3 : ∀ i : Int, i ≠ 4 → zU (yRn a h' (gEn a s) (d 5 0) 6) 3 4 (d 5 0 + 1) 3 i = g0 3 i := fun i hi => by rw [zU_ne (fun z => hi z.2), yRn_off (by decide), r1 3 (by decide)]
        refine sX9_sign (d' := yRw a d (gEn a s)) (h := h) T ⟨?_, ?_⟩ (sx _ s1) ?_ ?_ ?_ ?_ hL hN ?_ ?_ w1 w0
        · rw [yo 1 (by decide) (by decide)]; exact CR'.1
        · rw [yo 2 (by decide) (by decide)]; exact CR'.2
        · rw [yo 1 (by decide) (by decide)]; exact R.2.2.2.2.1
        · intro o ho
          rw [yo o (fun z => ho (by omega)) (fun z => ho (by omega)), r1 o (fun z => ho (by omega))]
          exact F0 o ho
        · rw [y3 3 (by decide), z3 3 (by decide)]
        · rw [y3 1 (by decide), z3 1 (by decide)]
        · unfold yBody
          rw [if_pos c8, if_neg c6, if_neg (fun z => z cD), if_pos ⟨c6', ck⟩]
        · refine ⟨fun i i0 i1 => ?_, fun r r0 r7 => ?_, fun i i0 i1 => ?_, ?_, ⟨P', ?_, fun m m0 m7 => ?_⟩, ⟨Q, ?_, fun c x0 x1 => ?_⟩⟩
          · rw [zU_off 5 (by decide)]
            unfold yRn yRw
            by_cases c : 6 * d 5 0 ≤ i ∧ i < 6 * d 5 0 + 6
            · rw [if_pos ⟨rfl, c.1, by omega⟩, if_pos ⟨rfl, c⟩]
            · rw [if_neg (fun z => c ⟨z.2.1, by omega⟩), if_neg (fun z => c z.2), if_neg (fun z => absurd z.1 (by decide)), r1 5 (by decide), z0 5 (by decide)]
              exact D1 i i0 i1
          · rw [yo 9 (by decide) (by decide), r1 9 (by decide), z0 9 (by decide), D2 r r0 r7]
            exact (show yRw a d (gEn a s) 1 r = d 1 r from (if_neg (fun z => absurd z.1 (by decide))).trans (if_neg (fun z => absurd z.1 (by decide)))).symm
          · rw [yo 7 (by decide) (by decide), r1 7 (by decide), z0 7 (by decide), D3 i i0 i1]
            exact (show yRw a d (gEn a s) 2 i = d 2 i from (if_neg (fun z => absurd z.1 (by decide))).trans (if_neg (fun z => absurd z.1 (by decide)))).symm
          · rw [zU_eq]
            exact (show yRw a d (gEn a s) 5 0 = d 5 0 + 1 from (if_neg (fun z => absurd z.1 (by decide))).trans (if_pos ⟨rfl, rfl⟩)).symm
          · rw [y3 5 (by decide)]; exact z5
          · rw [pk m m0 m7]
            rw [show yRw a d (gEn a s) 3 m = d 3 m from (if_neg (fun z => absurd z.1 (by decide))).trans (if_neg (fun z => absurd z.1 (by decide)))]
          · rw [y3 6 (by decide), z3 6 (by decide)]; exact q1
          · rw [q2 c x0 x1]
            rw [show yRw a d (gEn a s) 4 c = d 4 c from (if_neg (fun z => absurd z.1 (by decide))).trans (if_neg (fun z => absurd z.1 (by decide)))]
      · refine bad _ _ h' (lnb _ _ ?_ cD) cD (F0.rd R) (gRd.C C0 R)
        unfold yBody
        rw [if_pos c8, if_neg c6, if_pos cD]
      · have CR' := gRd.C C0 R
        refine bad 3 _ _ (lnb _ _ ?_ (by decide)) (by decide) (fun o ho => ?_) ⟨?_, ?_⟩
        · unfold yBody
          rw [if_pos c8, if_neg c6, if_neg (fun z => z cD), if_neg c6']
        · rw [yRn_off (fun z => ho (by omega)), R.1 o (fun z => ho (by omega))]
          exact F0 o ho
        · rw [yRn_off (by decide)]; exact CR'.1
        · rw [yRn_off (by decide)]; exact CR'.2
    · refine wX9_refuse (bad 5 _ h (lnb _ _ ?_ (by decide)) (by decide) f0 C)
      unfold yBody
      rw [if_pos c8, if_pos c6]
  · by_cases c9 : gNm a s = 9
    · rw [k9 c9]
      have pk : ∀ m : Int, 0 ≤ m → m ≤ 7 → P' (m + 1) = decide (d 3 m = 1) := fun m m0 m7 => by
        rw [← hP', k9 c9]
        show (P (m + 1) || decide (m + 1 = 9)) = _
        rw [p2 m m0 m7, decide_eq_false (show ¬ m + 1 = 9 by omega), Bool.or_false]
      refine ⟨fun _ => ⟨fun z => absurd z (by decide), fun _ => ⟨fun _ => ⟨fun _ => ⟨fun z => absurd rfl z, fun _ => ?_⟩, fun z => absurd z (by decide)⟩, fun z => absurd rfl z⟩⟩, fun z => absurd z (by decide)⟩
      have q3 : ∀ c : Int, 0 ≤ c → c < 36 → (Q c = true → d 4 c = 1) ∧ (Q c = false → ¬ d 4 c = 1) := fun c x0 x1 => by
        have := q2 c x0 x1
        refine ⟨fun z => ?_, fun z => ?_⟩
        · rw [z] at this; exact of_decide_eq_true this.symm
        · rw [z] at this; exact of_decide_eq_false this.symm
      refine sX9_takeSun (P := Q) T C0 g14 s1 ((z3 6 (by decide)).trans q1) (fun c p c2 h1 h' R R' => ⟨fun _ => ?_, fun z => absurd z (by decide)⟩) (fun c h' R => ⟨fun z => absurd z (by decide), fun _ => ?_⟩) (fun c p h' R => ⟨fun z => absurd z (by decide), fun _ => ?_⟩) (fun c p c2 h1 h' R R' => ⟨fun z => absurd z (by decide), fun _ => ?_⟩)
      · obtain ⟨-, u0, u1⟩ := yNum_0 c
        have C1 := gRd.C C0 R
        have yo : ∀ o, o ≠ 7 → o ≠ 1 → o ≠ 3 → zU h' 7 (gNu a (gEn a s)) (gNu a (gEn a (gEn a s))) o = g0 o := fun o o7 o1 o3 => by rw [zU_off o o7, R'.1 o o1, zU_off o o3, R.1 o o1]
        have y3 : ∀ i : Int, i ≠ 6 → zU h' 7 (gNu a (gEn a s)) (gNu a (gEn a (gEn a s))) 3 i = g0 3 i := fun i hi => by rw [zU_off 3 (by decide), R'.1 3 (by decide), zU_ne (fun z => hi z.2), R.1 3 (by decide)]
        have y36 : zU h' 7 (gNu a (gEn a s)) (gNu a (gEn a (gEn a s))) 3 6 = zB (fun x => Q x || decide (x = gNu a (gEn a s))) 36 := by rw [zU_off 3 (by decide), R'.1 3 (by decide), zU_eq]
        refine sX9_sign (d' := zU (zU d 2 (gNu a (gEn a s)) (gNu a (gEn a (gEn a s)))) 4 (gNu a (gEn a s)) 1) (h := h) T ⟨?_, ?_⟩ (sx _ (sx _ s1)) ?_ ?_ ?_ ?_ hL hN ?_ ?_ w1 w0
        · rw [zU_off 1 (by decide)]; exact R'.2.1
        · rw [yo 2 (by decide) (by decide) (by decide)]; exact C0.2
        · rw [zU_off 1 (by decide)]; exact R'.2.2.2.2.1
        · intro o ho
          rw [yo o (fun z => ho (by omega)) (fun z => ho (by omega)) (fun z => ho (by omega))]
          exact F0 o ho
        · rw [y3 3 (by decide), z3 3 (by decide)]
        · rw [y3 1 (by decide), z3 1 (by decide)]
        · unfold yBody
          rw [if_neg c8, if_pos c9, if_neg (fun z => z c), if_neg ((q3 _ u0 (by omega)).2 p), if_neg (fun z => z c2)]
        · refine ⟨fun i i0 i1 => ?_, fun r r0 r7 => ?_, fun i i0 i1 => ?_, ?_, ⟨P', ?_, fun m m0 m7 => ?_⟩, ⟨_, y36, fun x x0 x1 => ?_⟩⟩
          · rw [yo 5 (by decide) (by decide) (by decide), z0 5 (by decide), zU_off 0 (by decide), zU_off 0 (by decide)]
            exact D1 i i0 i1
          · rw [yo 9 (by decide) (by decide) (by decide), z0 9 (by decide), zU_off 1 (by decide), zU_off 1 (by decide)]
            exact D2 r r0 r7
          · rw [zU_off 2 (by decide)]
            by_cases e : i = gNu a (gEn a s)
            · rw [e, zU_eq, zU_eq]
            · rw [zU_ne (fun z => e z.2), zU_ne (fun z => e z.2), R'.1 7 (by decide), zU_off 7 (by decide), R.1 7 (by decide), z0 7 (by decide)]
              exact D3 i i0 i1
          · rw [y3 4 (by decide), z3 4 (by decide), D4, zU_off 5 (by decide), zU_off 5 (by decide)]
          · rw [y3 5 (by decide)]; exact z5
          · rw [pk m m0 m7, zU_off 3 (by decide), zU_off 3 (by decide)]
          · show (Q x || decide (x = gNu a (gEn a s))) = _
            by_cases e : x = gNu a (gEn a s)
            · rw [e, zU_eq, decide_eq_true rfl, Bool.or_true]
              exact (decide_eq_true rfl).symm
            · rw [decide_eq_false e, Bool.or_false, q2 x x0 x1, zU_ne (fun z => e z.2), zU_off 4 (by decide)]
      · refine bad _ _ h' (lnb _ _ ?_ c) c (F0.rd R) (gRd.C C0 R)
        unfold yBody
        rw [if_neg c8, if_pos c9, if_pos c]
      · obtain ⟨-, u0, u1⟩ := yNum_0 c
        refine bad 4 _ h' (lnb _ _ ?_ (by decide)) (by decide) (F0.rd R) (gRd.C C0 R)
        unfold yBody
        rw [if_neg c8, if_pos c9, if_neg (fun z => z c), if_pos ((q3 _ u0 (by omega)).1 p)]
      · obtain ⟨-, u0, u1⟩ := yNum_0 c
        refine bad _ _ h' (lnb _ _ ?_ c2) c2 (((F0.rd R).up (Or.inr (Or.inl rfl))).rd R') ⟨R'.2.1, ?_⟩
        · unfold yBody
          rw [if_neg c8, if_pos c9, if_neg (fun z => z c), if_neg ((q3 _ u0 (by omega)).2 p), if_pos c2]
        · rw [R'.1 2 (by decide), zU_off 2 (by decide), R.1 2 (by decide)]
          exact C0.2
    · obtain ⟨ex, n0', n9', m7'⟩ := k7 c8 c9
      have m0' : 0 ≤ gNm a s := by omega
      have hp := p2 (gNm a s) m0' m7'
      refine ⟨fun _ => ⟨fun z => absurd z n0', fun _ => ⟨fun z => absurd z n9', fun _ => ⟨?_, fun cb => ⟨fun _ => ⟨fun _ => ?_, fun z => absurd z n9'⟩, fun z => absurd z n0'⟩, fun cb => ?_⟩⟩⟩, fun z => absurd z n0'⟩
      · split <;> decide
      · have hpf : ¬ d 3 (gNm a s) = 1 := by
          intro z
          rw [ex, hp, decide_eq_true z] at cb
          exact cb rfl
        rw [ex, show gNm a s + 1 - 1 = gNm a s by omega]
        refine sX9_takeRule T C0 g14 s1 ⟨m0', m7'⟩ (fun c h' R => ⟨fun _ => ?_, fun z => absurd z (by decide)⟩) (fun c h' R => ⟨fun z => absurd z (by decide), fun _ => ?_⟩)
        · have yo : ∀ o, o ≠ 9 → o ≠ 1 → zU h' 9 (gNm a s) (gNu a (gEn a s)) o = g0 o := fun o o9 o1 => by rw [zU_off o o9, R.1 o o1]
          refine sX9_sign (d' := zU (zU d 1 (gNm a s) (gNu a (gEn a s))) 3 (gNm a s) 1) (h := h) T ⟨?_, ?_⟩ (sx _ s1) ?_ ?_ ?_ ?_ hL hN ?_ ?_ w1 w0
          · rw [zU_off 1 (by decide)]; exact R.2.1
          · rw [yo 2 (by decide) (by decide)]; exact C0.2
          · rw [zU_off 1 (by decide)]; exact R.2.2.2.2.1
          · intro o ho
            rw [yo o (fun z => ho (by omega)) (fun z => ho (by omega))]
            exact F0 o ho
          · rw [yo 3 (by decide) (by decide), z3 3 (by decide)]
          · rw [yo 3 (by decide) (by decide), z3 1 (by decide)]
          · unfold yBody
            rw [if_neg c8, if_neg c9, if_neg hpf, if_neg (fun z => z c)]
          · refine ⟨fun i i0 i1 => ?_, fun r r0 r7 => ?_, fun i i0 i1 => ?_, ?_, ⟨P', ?_, fun m m0 m7 => ?_⟩, ⟨Q, ?_, fun x x0 x1 => ?_⟩⟩
            · rw [yo 5 (by decide) (by decide), z0 5 (by decide), zU_off 0 (by decide), zU_off 0 (by decide)]
              exact D1 i i0 i1
            · rw [zU_off 1 (by decide)]
              by_cases e : r = gNm a s
              · rw [e, zU_eq, zU_eq]
              · rw [zU_ne (fun z => e z.2), zU_ne (fun z => e z.2), R.1 9 (by decide), z0 9 (by decide)]
                exact D2 r r0 r7
            · rw [yo 7 (by decide) (by decide), z0 7 (by decide), zU_off 2 (by decide), zU_off 2 (by decide)]
              exact D3 i i0 i1
            · rw [yo 3 (by decide) (by decide), z3 4 (by decide), D4, zU_off 5 (by decide), zU_off 5 (by decide)]
            · rw [yo 3 (by decide) (by decide)]; exact z5
            · rw [← hP', ex]
              show (P (m + 1) || decide (m + 1 = gNm a s + 1)) = _
              by_cases e : m = gNm a s
              · rw [e, zU_eq, decide_eq_true rfl, Bool.or_true]
                exact (decide_eq_true rfl).symm
              · rw [decide_eq_false (show ¬ m + 1 = gNm a s + 1 by omega), Bool.or_false, p2 m m0 m7, zU_ne (fun z => e z.2), zU_off 3 (by decide)]
            · rw [yo 3 (by decide) (by decide), z3 6 (by decide)]; exact q1
            · rw [q2 x x0 x1, zU_off 4 (by decide), zU_off 4 (by decide)]
        · refine bad _ _ h' (lnb _ _ ?_ c) c (F0.rd R) (gRd.C C0 R)
          unfold yBody
          rw [if_neg c8, if_neg c9, if_neg hpf, if_pos c]
      · have hpt : d 3 (gNm a s) = 1 := by
          refine Classical.byContradiction (fun z => ?_)
          rw [ex, hp, decide_eq_false z] at cb
          exact absurd cb (by decide)
        refine wX9_refuse (bad 4 _ h (lnb _ _ ?_ (by decide)) (by decide) f0 C)
        unfold yBody
        rw [if_neg c8, if_neg c9, if_pos hpt]
