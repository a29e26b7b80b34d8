/-! LEAST: the class's minutes, a cell opened or not -/
theorem nAnd_or : ∀ x : Nat, x < 128 → ∀ y : Nat, y < 128 → (x &&& y = y ↔ x ||| y = x) := by decide +kernel
theorem iA_n {x y : Nat} (hx : x ≤ 127) (hy : y ≤ 127) : iA (x : Int) (y : Int) = ((x &&& y : Nat) : Int) := by
  unfold iA
  show ((zI (x : Int)).toBitVec &&& (zI (y : Int)).toBitVec).toInt = _
  rw [BitVec.toInt_eq_toNat_bmod, BitVec.toNat_and, zI_nat ⟨by omega, by omega⟩, zI_nat ⟨by omega, by omega⟩, Int.toNat_natCast, Int.toNat_natCast]
  have h1 : x &&& y ≤ x := Nat.and_le_left
  rw [Int.bmod_def]
  split <;> omega
def cLd (Kd R : Int → Int) (h : zMm) : Prop := cPl Kd R h ∧ cCh Kd R h ∧ cFa Kd R h ∧ (∀ k : Nat, k ≤ nA Kd → k ||| nb Kd (R 0) = k → cRe Kd R h k) ∧ ∀ y : Int, 0 ≤ y → y < 144 → h 45 y = 0
theorem cCh.fr {Kd R : Int → Int} {h g : zMm} (C : cCh Kd R h) (F : ∀ o : Nat, ¬ (42 ≤ o ∧ o ≤ 45) → g o = h o) : cCh Kd R g := by
  unfold cCh cNx cTg at C ⊢
  rw [F 31 (by decide), F 38 (by decide), F 39 (by decide), F 40 (by decide), F 41 (by decide)]
  exact C
theorem cPl.fr {Kd R : Int → Int} {h g : zMm} (P : cPl Kd R h) (F : ∀ o : Nat, ¬ (42 ≤ o ∧ o ≤ 45) → g o = h o) : cPl Kd R g := by
  unfold cPl at P ⊢
  rw [F 33 (by decide), F 37 (by decide)]
  exact P
theorem sX4_mw78 {Kd R : Int → Int} {h : zMm} {K : Int → zMm → Prop} (hR : zRu R) (hG : lRk Kd 36 ≤ 7) (h0 : ¬ Kd (R 0) = 2) (P : cPl Kd R h) (C : cCh Kd R h) (Fa : cFa Kd R h) (z45 : ∀ y : Int, 0 ≤ y → y < 144 → h 45 y = 0) (hK : ∀ h', (∀ o : Nat, o ≠ 43 → h' o = h o) → cLd Kd R h' → K (lMin Kd R) h') : RR mX4_minutesWith 0 0 78 [some (.ref 31), none, none, some (.int (zI (lBt Kd (R 0)))), some (.int (zI (lAll Kd)))] [] zS0 h (zQi zS0 K) := by
  have hr0 : 0 ≤ R 0 ∧ R 0 < 36 := ⟨hR.1.1, by have := hR.1.2; omega⟩
  have hA := nA_le hG
  have hb := nb_le (Kd := Kd) hr0
  have T := lTg_of C
  have lp : ∀ (M : Nat) (g : zMm), M ≤ nA Kd + 1 → (∀ o : Nat, o ≠ 43 → g o = h o) → (∀ k : Nat, M ≤ k → k ≤ nA Kd → k ||| nb Kd (R 0) = k → cRe Kd R g k) → RR mX4_minutesWith 0 0 78 [some (.ref 31), none, none, some (.int (zI ((nb Kd (R 0) : Nat) : Int))), some (.int (zI ((M : Int) + (-1))))] [] zS0 g (zQi zS0 K) := by
    intro M
    induction M with
    | zero =>
      intro g hM F Re
      have Pg := P.fr (g := g) (fun o ho => F o (fun z => ho (by omega)))
      have Cg := C.r43 F
      have Fg : cFa Kd R g := by
        unfold cFa at Fa ⊢
        rw [F 41 (by decide), F 42 (by decide)]
        exact Fa
      have an : iA (((0 : Nat) : Int) + (-1)) ((nb Kd (R 0) : Nat) : Int) = iA (-1) ((nb Kd (R 0) : Nat) : Int) := rfl
      have ar : zR (iA (((0 : Nat) : Int) + (-1)) ((nb Kd (R 0) : Nat) : Int)) := by
        unfold iA
        exact ⟨Int32.le_toInt _, Int32.toInt_lt _⟩
      refine bX4_minutesWith_78 ⟨by decide, ar, ⟨by omega, by omega⟩, fun _ => ?_, fun z => absurd (show (((0 : Nat) : Int) + (-1)) < 0 by decide) z⟩
      refine sX3_told g0_32 (by decide) ?_
      rw [show g (32 + 5) 0 = R 0 from Pg.2 0 (by decide) (by decide)]
      refine sX4_minutesFrom hR hG Cg Fg ⟨nb Kd (R 0), rfl, hb, ⟨hr0.1, hr0.2, h0⟩, by decide, Nat.or_self _⟩ (fun t t0 t1 q => ?_) ?_
      · rw [F 41 (by decide)]
        have nt := nb_le (Kd := Kd) (T t t0 t1).1
        refine Re _ (Nat.zero_le _) (nA_or hb nt) ?_
        rw [Nat.or_comm (nb Kd (R 0)), Nat.or_assoc, Nat.or_self]
      · rw [← lBt_n hr0 hG]
        refine hK g F ⟨Pg, Cg, Fg, fun k hk hs => Re k (Nat.zero_le _) hk hs, fun y y0 y1 => ?_⟩
        rw [F 45 (by decide)]; exact z45 y y0 y1
    | succ M ih =>
      intro g hM F Re
      have ia := iA_n (x := M) (y := nb Kd (R 0)) (by omega) (by omega)
      have io := nAnd_or M (by omega) (nb Kd (R 0)) (by omega)
      have al : M &&& nb Kd (R 0) ≤ M := Nat.and_le_left
      have eM : ((M + 1 : Nat) : Int) + (-1) = (M : Int) := by omega
      rw [eM]
      refine bX4_minutesWith_78 ?_
      rw [ia]
      have Cg := C.r43 F
      have Fg : cFa Kd R g := by
        unfold cFa at Fa ⊢
        rw [F 41 (by decide), F 42 (by decide)]
        exact Fa
      refine ⟨⟨by omega, by omega⟩, ⟨by omega, by omega⟩, ⟨by omega, by omega⟩, fun z => absurd z (by omega), fun _ => ⟨fun q => ?_, fun q => ?_⟩⟩
      · refine ih g (by omega) F (fun k k0 k1 hs => ?_)
        by_cases e : k = M
        · rw [e] at hs
          exact absurd (congrArg (fun n : Nat => (n : Int)) (io.mpr hs)) q
        · exact Re k (by omega) k1 hs
      · have hs : M ||| nb Kd (R 0) = M := io.mp (by omega)
        refine sX4_weigh hR hG Cg Fg (by omega) (fun t t0 t1 q => ?_) (fun h' F1 F2 D => ?_)
        · rw [F 41 (by decide)] at q ⊢
          have nt := nb_le (Kd := Kd) (T t t0 t1).1
          have gl := nA_or (show M ≤ nA Kd by omega) nt
          have gt := Nat.left_le_or (n := M) (m := nb Kd (h 41 t))
          refine Re _ (by omega) gl ?_
          rw [Nat.or_assoc, Nat.or_comm (nb Kd (h 41 t)), ← Nat.or_assoc, hs]
        · refine ih h' (by omega) (fun o ho => (F1 o ho).trans (F o ho)) (fun k k0 k1 hs => ?_)
          by_cases e : k = M
          · rw [e]; exact D
          · have r := Re k (by omega) k1 hs
            intro t look t0 t1 l0 l1 q
            have t7 : t < 7 := by omega
            rw [F1 41 (by decide)] at q ⊢
            rw [F2 _ (by omega)]
            exact r t look t0 t1 l0 l1 q
  have z := lp (nA Kd + 1) h (Nat.le_refl _) (fun _ _ => rfl) (fun k k0 k1 => absurd k1 (by omega))
  rw [lBt_n hr0 hG, lAll_n hG]
  rw [show ((nA Kd + 1 : Nat) : Int) + (-1) = (nA Kd : Int) by omega] at z
  exact z
theorem sX4_mw31 {Kd R : Int → Int} {h : zMm} {K : Int → zMm → Prop} (hR : zRu R) (hG : lRk Kd 36 ≤ 7) (h0 : ¬ Kd (R 0) = 2) (P : cPl Kd R h) (C : cCh Kd R h) (z45 : ∀ y : Int, 0 ≤ y → y < 144 → h 45 y = 0) (f42 : ∀ i : Int, 0 ≤ i → i < 4032 → h 42 i = 1000000) (hK : ∀ h', (∀ o : Nat, ¬ (42 ≤ o ∧ o ≤ 45) → h' o = h o) → cLd Kd R h' → K (lMin Kd R) h') : RR mX4_minutesWith 0 0 31 [some (.ref 31), none, none, some (.int (zI 0)), none] [] zS0 h (zQi zS0 K) := by
  have hr0 : 0 ≤ R 0 ∧ R 0 < 36 := ⟨hR.1.1, by have := hR.1.2; omega⟩
  have g0 := lRk_R Kd 36
  have e10 : h 31 10 = lRk Kd 36 := C.2.2.2.1
  have lp : ∀ (n t : Nat) (g : zMm), (t : Int) + (n : Int) = lRk Kd 36 → (∀ o : Nat, ¬ (42 ≤ o ∧ o ≤ 45) → g o = h o) → (∀ y : Int, 0 ≤ y → y < 144 → g 45 y = 0) → (∀ i : Nat, i < 4 * t → lFr Kd R (h 41 ((i / 4 : Nat) : Int)) ((i % 4 : Nat) : Int) (fun y => g 42 ((i : Int) * 144 + y))) → (∀ i : Int, (4 * (t : Int)) * 144 ≤ i → i < 4032 → g 42 i = 1000000) → RR mX4_minutesWith 0 0 31 [some (.ref 31), none, none, some (.int (zI (t : Int))), none] [] zS0 g (zQi zS0 K) := by
    intro n
    induction n with
    | zero =>
      intro t g ht F z D N
      have Pg := P.fr F
      have Cg := C.fr F
      refine bX4_minutesWith_31 ?_
      rw [F 31 (by decide), e10]
      refine ⟨⟨by omega, by omega⟩, ⟨by omega, by omega⟩, fun _ => sX4_seenAtFirst Pg Cg hr0 ?_, fun y => absurd (show lRk Kd 36 ≤ (t : Int) by omega) y⟩
      rw [show g 31 11 = lAll Kd from Cg.2.1]
      refine sX4_mw78 hR hG h0 Pg Cg (fun i hi => ?_) z (fun h' F1 L => hK h' (fun o ho => (F1 o (fun y => ho (by omega))).trans (F o ho)) L)
      rw [F 41 (by decide)]
      exact D i (by omega)
    | succ n ih =>
      intro t g ht F z D N
      have tt : (t : Int) < lRk Kd 36 := by omega
      have l42 : ∀ (m look : Nat) (g : zMm), look + m = 4 → (∀ o : Nat, ¬ (42 ≤ o ∧ o ≤ 45) → g o = h o) → (∀ y : Int, 0 ≤ y → y < 144 → g 45 y = 0) → (∀ i : Nat, i < 4 * t + look → lFr Kd R (h 41 ((i / 4 : Nat) : Int)) ((i % 4 : Nat) : Int) (fun y => g 42 ((i : Int) * 144 + y))) → (∀ i : Int, (4 * (t : Int) + (look : Int)) * 144 ≤ i → i < 4032 → g 42 i = 1000000) → RR mX4_minutesWith 0 0 42 [some (.ref 31), none, none, some (.int (zI (t : Int))), some (.int (zI (look : Int)))] [] zS0 g (zQi zS0 K) := by
        intro m
        induction m with
        | zero =>
          intro look g hl F z D N
          obtain rfl : look = 4 := by omega
          refine bX4_minutesWith_42 ⟨by decide, fun _ => ?_, fun y => absurd (show (4 : Int) ≤ ((4 : Nat) : Int) by decide) y⟩
          rw [show (t : Int) + 1 = ((t + 1 : Nat) : Int) by omega]
          exact ih (t + 1) g (by omega) F z (fun i hi => D i (by omega)) (fun i i0 i1 => N i (by omega) i1)
        | succ m im =>
          intro look g hl F z D N
          have Cg := C.fr F
          refine bX4_minutesWith_42 ⟨⟨by omega, by omega⟩, fun y => absurd y (by omega), fun _ => ?_⟩
          refine sX4_measure hR hG Cg ⟨by omega, tt⟩ ⟨by omega, by omega⟩ z (fun y y0 y1 => N _ (by omega) (by omega)) (fun h' F1 z' L => ?_)
          rw [show (look : Int) + 1 = ((look + 1 : Nat) : Int) by omega]
          refine im (look + 1) h' (by omega) (fun o ho => (F1.1 o (fun y => ho (by omega))).trans (F o ho)) z' (fun i hi => ?_) (fun i i0 i1 => ?_)
          · by_cases e : i = 4 * t + look
            · rw [show i / 4 = t by omega, show i % 4 = look by omega, show ((i : Nat) : Int) = (t : Int) * 4 + (look : Int) by omega]
              rw [F 41 (by decide)] at L
              exact L
            · have d := D i (by omega)
              have eq : ∀ y : Int, 0 ≤ y → y < 144 → h' 42 ((i : Int) * 144 + y) = g 42 ((i : Int) * 144 + y) := fun y y0 y1 => F1.2 _ (by omega)
              obtain ⟨d1, d2, d3, d4⟩ := d
              have tc := lTg_of C ((i / 4 : Nat) : Int) (by omega) (by omega)
              refine ⟨fun y y0 y1 => ?_, ?_, fun c l w c0 c1 ck l0 l1 w0 w1 ho => ?_, fun c l k hd => ?_⟩
              · show 0 ≤ h' 42 ((i : Int) * 144 + y) ∧ h' 42 ((i : Int) * 144 + y) ≤ 1000000
                rw [eq y y0 y1]; exact d1 y y0 y1
              · show h' 42 ((i : Int) * 144 + (h 41 ((i / 4 : Nat) : Int) * 4 + ((i % 4 : Nat) : Int))) = 0
                rw [eq _ (by omega) (by omega)]; exact d2
              · show h' 42 ((i : Int) * 144 + (c * 4 + l)) ≤ lCo Kd R c l w + h' 42 ((i : Int) * 144 + (zNx Kd c w * 4 + w))
                rcases zNx_R (Kd := Kd) (way := w) (show 0 ≤ c ∧ c < 36 from ⟨c0, c1⟩) with y | ⟨y1, y2, y3⟩
                · omega
                · rw [eq _ (by omega) (by omega), eq _ (by omega) (by omega)]
                  exact d3 c l w c0 c1 ck l0 l1 w0 w1 ho
              · show _ ≤ h' 42 ((i : Int) * 144 + (c * 4 + l)) + _
                obtain ⟨k', ek, e2, e3, e4, e5⟩ := id hd
                rw [eq _ (by omega) (by omega)]
                exact d4 c l k hd
          · rw [F1.2 i (by omega)]
            exact N i (by omega) i1
      refine bX4_minutesWith_31 ?_
      rw [F 31 (by decide), e10]
      exact ⟨⟨by omega, by omega⟩, ⟨by omega, by omega⟩, fun y => absurd y (by omega), fun _ => l42 4 0 g rfl F z D (fun i i0 i1 => N i (by omega) i1)⟩
  exact lp (lRk Kd 36).toNat 0 h (by omega) (fun _ _ => rfl) z45 (fun i hi => absurd hi (by omega)) (fun i i0 i1 => f42 i (by omega) i1)
def cWf (h g : zMm) : Prop := (∀ o : Nat, ¬ (o = 31 ∨ (33 ≤ o ∧ o ≤ 45)) → g o = h o) ∧ ∀ i : Int, ¬ (10 ≤ i ∧ i ≤ 12) → g 31 i = h 31 i
theorem sX4_minutesWith {Kd R : Int → Int} {h : zMm} {K : Int → zMm → Prop} {v : Int} (hR : zRu R) (hG : lRk Kd 36 ≤ 7) (h0 : ¬ Kd (R 0) = 2) (z45 : ∀ y : Int, 0 ≤ y → y < 144 → h 45 y = 0) (hr : ∀ r : Int, 0 ≤ r → r ≤ 7 → h 15 r = R r) (hk : (v = -4 ∧ zKd (h 11) Kd) ∨ ∃ K0 : Int → Int, (0 ≤ v ∧ v < 36) ∧ zKd (h 11) K0 ∧ Kd = lUp K0 v) (hK : ∀ h', cWf h h' → cLd Kd R h' → K (lMin Kd R) h') : zCi mX4_minutesWith [.ref 31, .ref 10, .int (zI v)] zS0 h K := by
  have rv : zR v := by
    rcases hk with ⟨e, -⟩ | ⟨K0, e, -⟩
    · rw [e]; decide
    · exact ⟨by omega, by omega⟩
  refine wX4_minutesWith (wX3_takeAll g0_32 g0_10 (wX3_takeCells g0_32 g0_10 ?_))
  generalize hg : zCp (zCp (zCp (zCp (zCp h (10 + 1) (32 + 1) 36) (10 + 2) (32 + 2) 36) (10 + 4) (32 + 4) 36) (10 + 3) (32 + 3) 36) (10 + 5) (32 + 5) 8 = g
  have go : ∀ o : Nat, ¬ (33 ≤ o ∧ o ≤ 37) → g o = h o := fun o ho => by
    rw [← hg, zCp_off o (by omega), zCp_off o (by omega), zCp_off o (by omega), zCp_off o (by omega), zCp_off o (by omega)]
  have g33 : ∀ i : Int, 0 ≤ i → i < 36 → g 33 i = h 11 i := fun i i0 i1 => by
    rw [← hg, zCp_off 33 (by decide), zCp_off 33 (by decide), zCp_off 33 (by decide), zCp_off 33 (by decide)]
    exact zCp_in (a1 := 33) i0 i1
  have g37 : ∀ r : Int, 0 ≤ r → r ≤ 7 → g 37 r = R r := fun r r0 r7 => by
    rw [← hr r r0 r7, ← hg]
    refine (zCp_in (a1 := 37) r0 (by omega)).trans ?_
    rw [zCp_off 15 (by decide), zCp_off 15 (by decide), zCp_off 15 (by decide), zCp_off 15 (by decide)]
  refine sX11_isCell rv ?_
  simp only [decide_eq_true_eq, decide_eq_false_iff_not]
  have go2 : ∀ k : zMm, cPl Kd R k → (∀ o : Nat, ¬ (33 ≤ o ∧ o ≤ 37) → k o = h o) → zCv mX4_chart [.ref 31] zS0 k (fun h3 => RR mX4_minutesWith 0 0 31 [some (.ref 31), none, none, some (.int (zI 0)), none] [] zS0 h3 (zQi zS0 K)) := by
    intro k P F
    refine sX4_chart hG P (fun h3 F3 C3 f42 => ?_)
    refine sX4_mw31 hR hG h0 (P.hf F3) C3 (fun y y0 y1 => ?_) f42 (fun h4 F4 L => hK h4 ⟨fun o ho => ?_, fun i hi => ?_⟩ L)
    · rw [F3.1 45 (by decide) (by decide), F 45 (by decide)]; exact z45 y y0 y1
    · rw [F4 o (by omega), F3.1 o (by omega) (by omega), F o (by omega)]
    · rw [F4 31 (by decide), F3.2 i hi, F 31 (by decide)]
  refine ⟨fun c => ?_, fun c => ⟨c, ?_⟩⟩
  · rcases hk with ⟨e, k1⟩ | ⟨K0, e, -⟩
    · refine go2 g ⟨fun i i0 i1 => ?_, g37⟩ go
      rw [g33 i i0 i1]; exact k1 i i0 i1
    · exact absurd e c
  · rcases hk with ⟨e, k1⟩ | ⟨K0, e, k1, k2⟩
    · omega
    · refine go2 _ ⟨fun i i0 i1 => ?_, fun r r0 r7 => ?_⟩ (fun o ho => ?_)
      · rw [k2]
        by_cases q : i = v
        · rw [q, zU_eq, lUp_d]; exact ⟨rfl, by decide, by decide⟩
        · rw [zU_ne (fun z => q z.2), lUp_o q, g33 i i0 i1]; exact k1 i i0 i1
      · rw [zU_off 37 (by decide)]; exact g37 r r0 r7
      · rw [zU_off o (by omega)]; exact go o ho
