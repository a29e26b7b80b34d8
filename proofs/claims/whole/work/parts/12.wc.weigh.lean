/-! LEAST: the class's minutes from a stand -/
def cFa (Kd R : Int → Int) (h : zMm) : Prop := ∀ i : Nat, (i : Int) < 4 * lRk Kd 36 → lFr Kd R (h 41 ((i / 4 : Nat) : Int)) ((i % 4 : Nat) : Int) (fun y => h 42 ((i : Int) * 144 + y))
def cRe (Kd R : Int → Int) (h : zMm) (k : Nat) : Prop := ∀ t look : Int, 0 ≤ t → t < lRk Kd 36 → 0 ≤ look → look ≤ 3 → k ||| nb Kd (h 41 t) = k → h 43 ((k : Int) * 28 + (t * 4 + look)) = lM Kd R (k : Int) (h 41 t) look
theorem lTg_of {Kd R : Int → Int} {h : zMm} (C : cCh Kd R h) : lTg Kd (h 41) := C.2.2.2.2.2
theorem lBt_tg {Kd : Int → Int} {tg : Int → Int} (T : lTg Kd tg) {t : Int} (t0 : 0 ≤ t) (t1 : t < lRk Kd 36) : iSl 1 t = lBt Kd (tg t) := by
  have q := T t t0 t1
  unfold lBt
  rw [if_pos q.2.1, q.2.2]
theorem nb_tg {Kd : Int → Int} {tg : Int → Int} (T : lTg Kd tg) {t : Int} (t0 : 0 ≤ t) (t1 : t < lRk Kd 36) : nb Kd (tg t) = 2 ^ t.toNat := by
  have q := T t t0 t1
  unfold nb
  rw [if_pos q.2.1, q.2.2]
theorem sX4_minutesFrom {Kd R : Int → Int} {h : zMm} {K : Int → zMm → Prop} {k : Nat} {c l : Int} (hR : zRu R) (hG : lRk Kd 36 ≤ 7) (C : cCh Kd R h) (Fa : cFa Kd R h) (hd : lDo Kd (k : Int) c l) (Re : ∀ t : Int, 0 ≤ t → t < lRk Kd 36 → k ||| nb Kd (h 41 t) ≠ k → cRe Kd R h (k ||| nb Kd (h 41 t))) (w : K (lM Kd R (k : Int) c l) h) : zCi mX4_minutesFrom [.ref 31, .int (zI (c * 4 + l)), .int (zI (k : Int))] zS0 h K := by
  have T := lTg_of C
  have g0 := lRk_R Kd 36
  have hA := nA_le hG
  have e10 : h 31 10 = lRk Kd 36 := C.2.2.2.1
  obtain ⟨k', ek, d2, d3, d4, d5⟩ := id hd
  obtain rfl : k = k' := by omega
  have hAll := lAll_n hG
  refine wX4_minutesFrom ?_
  rw [C.2.1]
  refine ⟨⟨by omega, by omega⟩, ⟨by omega, by omega⟩, fun hm => ?_, fun hm => ?_⟩
  · have key := lF_is hR hG T (fr := fun i y => h 42 (i * 144 + y)) Fa hm hd
    generalize hF : lF Kd R (h 41) (fun i y => h 42 (i * 144 + y)) k c l = F at key
    have fv : ∀ (t look : Nat), (t : Int) < lRk Kd 36 → look < 4 → F (4 * t + look) = if k ||| nb Kd (h 41 (t : Int)) = k then 1000000 else h 42 (((t : Int) * 4 + (look : Int)) * 144 + (c * 4 + l)) + lM Kd R ((k ||| nb Kd (h 41 (t : Int)) : Nat) : Int) (h 41 (t : Int)) (look : Int) := by
      intro t look ht hl
      rw [← hF]
      unfold lF
      rw [show (4 * t + look) / 4 = t by omega, show (4 * t + look) % 4 = look by omega, show ((4 * t + look : Nat) : Int) = (t : Int) * 4 + (look : Int) by omega]
    have lp : ∀ (n t : Nat), (t : Int) + (n : Int) = lRk Kd 36 → RR mX4_minutesFrom 0 0 16 [some (.ref 31), some (.int (zI (c * 4 + l))), some (.int (zI (k : Int))), some (.int (zI (mnF F (4 * t)))), some (.int (zI (t : Int))), none, none, none] [] zS0 h (zQi zS0 K) := by
      intro n
      induction n with
      | zero =>
        intro t ht
        refine bX4_minutesFrom_16 ?_
        rw [e10]
        refine ⟨⟨by omega, by omega⟩, ⟨by omega, by omega⟩, fun _ => ?_, fun z => absurd (show lRk Kd 36 ≤ (t : Int) by omega) z⟩
        rw [show 4 * t = (4 * lRk Kd 36).toNat by omega, key]
        exact w
      | succ n ih =>
        intro t ht
        have tt : (t : Int) < lRk Kd 36 := by omega
        have tc := T (t : Int) (by omega) tt
        have nbl := nb_le (Kd := Kd) tc.1
        have okb := nA_or d2 nbl
        have tk : ¬ Kd (h 41 (t : Int)) = 2 := by have := tc.2.1; omega
        refine bX4_minutesFrom_16 ?_
        rw [e10]
        refine ⟨⟨by omega, by omega⟩, ⟨by omega, by omega⟩, fun z => absurd z (by omega), fun _ => ?_⟩
        rw [lBt_tg T (by omega) tt, nA_bt hG d2 tc.1]
        by_cases q : k ||| nb Kd (h 41 (t : Int)) = k
        · have e4 : mnF F (4 * (t + 1)) = mnF F (4 * t) := by
            have m0 := mnF_0 F (4 * t)
            show min (min (min (min (mnF F (4 * t)) (F (4 * t))) (F (4 * t + 1))) (F (4 * t + 2))) (F (4 * t + 3)) = _
            have f0 := fv t 0 tt (by decide)
            have f1 := fv t 1 tt (by decide)
            have f2 := fv t 2 tt (by decide)
            have f3 := fv t 3 tt (by decide)
            rw [if_pos q] at f0 f1 f2 f3
            rw [show 4 * t + 0 = 4 * t from rfl] at f0
            omega
          rw [q]
          refine bX4_minutesFrom_36 ⟨by decide, ⟨by omega, by omega⟩, ⟨by omega, by omega⟩, fun z => absurd z (by decide), fun _ => ⟨fun _ => ?_, fun z => absurd rfl z⟩⟩
          rw [show (t : Int) + 1 = ((t + 1 : Nat) : Int) by omega, ← e4]
          exact ih (t + 1) (by omega)
        · have l36 : ∀ (m look : Nat), look + m = 4 → RR mX4_minutesFrom 0 0 36 [some (.ref 31), some (.int (zI (c * 4 + l))), some (.int (zI (k : Int))), some (.int (zI (mnF F (4 * t + look)))), some (.int (zI (t : Int))), some (.int (zI ((k ||| nb Kd (h 41 (t : Int)) : Nat) : Int))), some (.int (zI (look : Int))), none] [] zS0 h (zQi zS0 K) := by
            intro m
            induction m with
            | zero =>
              intro look hl
              obtain rfl : look = 4 := by omega
              refine bX4_minutesFrom_36 ⟨by decide, ⟨by omega, by omega⟩, ⟨by omega, by omega⟩, fun _ => ?_, fun z => absurd (show (4 : Int) ≤ ((4 : Nat) : Int) by decide) z⟩
              rw [show (t : Int) + 1 = ((t + 1 : Nat) : Int) by omega]
              exact ih (t + 1) (by omega)
            | succ m im =>
              intro look hl
              have f0 := fv t look tt (by omega)
              rw [if_neg q] at f0
              have re := Re (t : Int) (by omega) tt q (t : Int) (look : Int) (by omega) tt (by omega) (by omega) (by rw [Nat.or_assoc, Nat.or_self])
              have fr := (Fa (4 * t + look) (by omega)).1 (c * 4 + l) (by omega) (by omega)
              rw [show ((4 * t + look : Nat) : Int) = (t : Int) * 4 + (look : Int) by omega] at fr
              have fr : 0 ≤ h 42 (((t : Int) * 4 + (look : Int)) * 144 + (c * 4 + l)) ∧ h 42 (((t : Int) * 4 + (look : Int)) * 144 + (c * 4 + l)) ≤ 1000000 := fr
              have mr := lM_R (Kd := Kd) hR ((k ||| nb Kd (h 41 (t : Int)) : Nat) : Int) (h 41 (t : Int)) (look : Int)
              have m0 := mnF_0 F (4 * t + look)
              have m1 : 0 ≤ mnF F (4 * t + look) := by
                have lo := mnF_le F
                have at1 := mnF_at F (4 * t + look)
                rcases at1 with e | ⟨i, hi, e⟩
                · omega
                · rw [e]
                  have f1 := fv (i / 4) (i % 4) (by omega) (by omega)
                  rw [show 4 * (i / 4) + i % 4 = i by omega] at f1
                  rw [f1]
                  split
                  · decide
                  · have fr2 := (Fa i (by omega)).1 (c * 4 + l) (by omega) (by omega)
                    rw [show ((i : Nat) : Int) = ((i / 4 : Nat) : Int) * 4 + ((i % 4 : Nat) : Int) by omega] at fr2
                    have fr2 : 0 ≤ h 42 ((((i / 4 : Nat) : Int) * 4 + ((i % 4 : Nat) : Int)) * 144 + (c * 4 + l)) ∧ _ := fr2
                    have mr2 := lM_R (Kd := Kd) hR ((k ||| nb Kd (h 41 ((i / 4 : Nat) : Int)) : Nat) : Int) (h 41 ((i / 4 : Nat) : Int)) ((i % 4 : Nat) : Int)
                    have fr3 := fr2.1
                    omega
              refine bX4_minutesFrom_36 ⟨⟨by omega, by omega⟩, ⟨by omega, by omega⟩, ⟨by omega, by omega⟩, fun z => absurd z (by omega), fun _ => ⟨fun z => absurd z (by omega), fun _ => ⟨⟨by omega, by omega⟩, ⟨by omega, by omega⟩, ⟨by omega, by omega⟩, ?_⟩⟩⟩
              rw [re, ← f0]
              refine ⟨⟨by omega, by omega⟩, ?_⟩
              rw [show (look : Int) + 1 = ((look + 1 : Nat) : Int) by omega]
              exact im (look + 1) (by omega)
          exact l36 4 0 rfl
    exact lp (lRk Kd 36).toNat 0 (by omega)
  · rw [hm, lM_all] at w
    exact w
theorem nBit_i : ∀ t : Nat, t < 7 → ∀ x : Nat, x < 128 → (x / 2 ^ t % 2 = 1 ↔ x ||| 2 ^ t = x) := by decide +kernel
theorem nBit_z {x t : Nat} (hx : x < 128) (ht : t < 7) : iSr (x : Int) (t : Int) % 2 = ((x / 2 ^ t % 2 : Nat) : Int) := by
  rw [iSr_is ⟨by omega, by omega⟩ t (by omega), ← Int.natCast_ediv, show (2 : Int) = ((2 : Nat) : Int) from rfl, ← Int.natCast_emod]
theorem cCh.r43 {Kd R : Int → Int} {h g : zMm} (C : cCh Kd R h) (F : ∀ o : Nat, o ≠ 43 → g o = h o) : cCh Kd R g := by
  unfold cCh cNx cTg at C ⊢
  rw [F 31 (by decide), F 38 (by decide), F 39 (by decide), F 40 (by decide), F 41 (by decide)]
  exact C
theorem sX4_weigh {Kd R : Int → Int} {h : zMm} {K : zMm → Prop} {k : Nat} (hR : zRu R) (hG : lRk Kd 36 ≤ 7) (C : cCh Kd R h) (Fa : cFa Kd R h) (hk : k ≤ nA Kd) (Re : ∀ t : Int, 0 ≤ t → t < lRk Kd 36 → k ||| nb Kd (h 41 t) ≠ k → cRe Kd R h (k ||| nb Kd (h 41 t))) (hK : ∀ h', (∀ o : Nat, o ≠ 43 → h' o = h o) → (∀ i : Int, ¬ ((k : Int) * 28 ≤ i ∧ i < (k : Int) * 28 + 28) → h' 43 i = h 43 i) → cRe Kd R h' k → K h') : zCv mX4_weigh [.ref 31, .int (zI (k : Int))] zS0 h K := by
  have T := lTg_of C
  have g0 := lRk_R Kd 36
  have hA := nA_le hG
  have e10 : h 31 10 = lRk Kd 36 := C.2.2.2.1
  have lp : ∀ (n t : Nat) (g : zMm), (t : Int) + (n : Int) = lRk Kd 36 → (∀ o : Nat, o ≠ 43 → g o = h o) → (∀ i : Int, ¬ ((k : Int) * 28 ≤ i ∧ i < (k : Int) * 28 + 28) → g 43 i = h 43 i) → (∀ t' look : Int, 0 ≤ t' → t' < (t : Int) → 0 ≤ look → look ≤ 3 → k ||| nb Kd (h 41 t') = k → g 43 ((k : Int) * 28 + (t' * 4 + look)) = lM Kd R (k : Int) (h 41 t') look) → RR mX4_weigh 0 0 2 [some (.ref 31), some (.int (zI (k : Int))), some (.int (zI (t : Int))), none, none] [] zS0 g (zQv zS0 K) := by
    intro n
    induction n with
    | zero =>
      intro t g ht F1 F2 D
      refine bX4_weigh_2 ?_
      rw [F1 31 (by decide), e10]
      refine ⟨⟨by omega, by omega⟩, ⟨by omega, by omega⟩, fun _ => hK g F1 F2 (fun t' look x0 x1 x2 x3 x4 => ?_), fun z => absurd (show lRk Kd 36 ≤ (t : Int) by omega) z⟩
      rw [F1 41 (by decide)] at x4 ⊢
      exact D t' look x0 (by omega) x2 x3 x4
    | succ n ih =>
      intro t g ht F1 F2 D
      have tt : (t : Int) < lRk Kd 36 := by omega
      have tc := T (t : Int) (by omega) tt
      have hnb := nb_tg T (t := (t : Int)) (by omega) tt
      rw [Int.toNat_natCast] at hnb
      have tk : ¬ Kd (h 41 (t : Int)) = 2 := by have := tc.2.1; omega
      have bz := nBit_z (x := k) (t := t) (by omega) (by omega)
      have bi := nBit_i t (by omega) k (by omega)
      rw [← hnb] at bi bz
      refine bX4_weigh_2 ?_
      rw [F1 31 (by decide), e10]
      refine ⟨⟨by omega, by omega⟩, ⟨by omega, by omega⟩, fun z => absurd z (by omega), fun _ => ?_⟩
      by_cases q : k ||| nb Kd (h 41 (t : Int)) = k
      · have b1 : iSr (k : Int) (t : Int) % 2 = 1 := by rw [bz, bi.mpr q]; rfl
        have l12 : ∀ (m look : Nat) (g : zMm), look + m = 4 → (∀ o : Nat, o ≠ 43 → g o = h o) → (∀ i : Int, ¬ ((k : Int) * 28 ≤ i ∧ i < (k : Int) * 28 + 28) → g 43 i = h 43 i) → (∀ t' look' : Int, 0 ≤ t' → t' ≤ (t : Int) → 0 ≤ look' → look' ≤ 3 → (t' < (t : Int) ∨ look' < (look : Int)) → k ||| nb Kd (h 41 t') = k → g 43 ((k : Int) * 28 + (t' * 4 + look')) = lM Kd R (k : Int) (h 41 t') look') → RR mX4_weigh 0 0 12 [some (.ref 31), some (.int (zI (k : Int))), some (.int (zI (t : Int))), some (.int (zI (look : Int))), none] [] zS0 g (zQv zS0 K) := by
          intro m
          induction m with
          | zero =>
            intro look g hl F1 F2 D
            obtain rfl : look = 4 := by omega
            refine bX4_weigh_12 ?_
            rw [b1]
            refine ⟨by decide, by decide, fun _ => ?_, fun z => absurd (show (4 : Int) ≤ ((4 : Nat) : Int) by decide) z⟩
            rw [show (t : Int) + 1 = ((t + 1 : Nat) : Int) by omega]
            exact ih (t + 1) g (by omega) F1 F2 (fun t' look' x0 x1 x2 x3 x4 => D t' look' x0 (by omega) x2 x3 (Or.inr (by omega)) x4)
          | succ m im =>
            intro look g hl F1 F2 D
            refine bX4_weigh_12 ?_
            rw [b1]
            refine ⟨⟨by omega, by omega⟩, by decide, fun z => absurd z (by omega), fun _ => ⟨fun z => absurd rfl z, fun _ => ⟨⟨by omega, by omega⟩, ?_⟩⟩⟩
            rw [F1 41 (by decide)]
            have Cg := C.r43 F1
            have Fg : cFa Kd R g := by
              unfold cFa at Fa ⊢
              rw [F1 41 (by decide), F1 42 (by decide)]
              exact Fa
            refine sX4_minutesFrom hR hG Cg Fg ⟨k, rfl, hk, ⟨tc.1.1, tc.1.2, tk⟩, ⟨by omega, by omega⟩, q⟩ (fun t' x0 x1 x2 => ?_) ⟨⟨by omega, by omega⟩, ?_⟩
            · rw [F1 41 (by decide)] at x2 ⊢
              have r := Re t' x0 x1 x2
              have tl := nA_or hk (nb_le (Kd := Kd) (T t' x0 x1).1)
              have gt : k < k ||| nb Kd (h 41 t') := by
                have := Nat.left_le_or (n := k) (m := nb Kd (h 41 t'))
                omega
              intro t2 look2 y0 y1 y2 y3 y4
              rw [F1 41 (by decide)] at y4 ⊢
              rw [F2 _ (by omega)]
              exact r t2 look2 y0 y1 y2 y3 y4
            · rw [show (look : Int) + 1 = ((look + 1 : Nat) : Int) by omega]
              refine im (look + 1) _ (by omega) (fun o ho => (zU_off o ho).trans (F1 o ho)) (fun i hi => (zU_ne (by omega)).trans (F2 i hi)) (fun t' look' x0 x1 x2 x3 x4 x5 => ?_)
              by_cases e : t' = (t : Int) ∧ look' = (look : Int)
              · obtain ⟨rfl, rfl⟩ := e
                rw [show (k : Int) * 28 + ((t : Int) * 4 + (look : Int)) = (k : Int) * 28 + (t : Int) * 4 + (look : Int) by omega, zU_eq]
              · rw [zU_ne (by omega)]
                exact D t' look' x0 x1 x2 x3 (by omega) x5
        exact l12 4 0 g rfl F1 F2 (fun t' look' x0 x1 x2 x3 x4 x5 => D t' look' x0 (by omega) x2 x3 x5)
      · have b0 : ¬ iSr (k : Int) (t : Int) % 2 = 1 := by
          rw [bz]
          intro z
          have cz : ∀ n : Nat, (n : Int) = 1 → n = 1 := fun n => by omega
          exact q (bi.mp (cz _ z))
        refine bX4_weigh_12 ⟨by decide, ⟨by omega, by omega⟩, fun z => absurd z (by decide), fun _ => ⟨fun _ => ?_, fun z => absurd z b0⟩⟩
        rw [show (t : Int) + 1 = ((t + 1 : Nat) : Int) by omega]
        refine ih (t + 1) g (by omega) F1 F2 (fun t' look' x0 x1 x2 x3 x4 => ?_)
        by_cases e : t' = (t : Int)
        · rw [e] at x4; exact absurd x4 q
        · exact D t' look' x0 (by omega) x2 x3 x4
  exact wX4_weigh (lp (lRk Kd 36).toNat 0 h (by omega) (fun _ _ => rfl) (fun _ _ => rfl) (fun t' look x0 x1 => absurd x1 (by omega)))
