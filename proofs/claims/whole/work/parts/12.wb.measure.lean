/-! LEAST: the class measures from one target -/
def cMf (h g : zMm) (B : Int) : Prop := (∀ o : Nat, ¬ (o = 42 ∨ o = 44 ∨ o = 45) → g o = h o) ∧ ∀ i : Int, ¬ (B ≤ i ∧ i < B + 144) → g 42 i = h 42 i
theorem cMf.rf (h : zMm) (B : Int) : cMf h h B := ⟨fun _ _ => rfl, fun _ _ => rfl⟩
theorem cMf.u42 {h g : zMm} {B y x : Int} (F : cMf h g B) (hy : 0 ≤ y ∧ y < 144) : cMf h (zU g 42 (B + y) x) B := ⟨fun o ho => (zU_off o (fun z => ho (Or.inl z))).trans (F.1 o ho), fun i hi => (zU_ne (fun z => hi (by omega))).trans (F.2 i hi)⟩
theorem cMf.u {h g : zMm} {B y x : Int} {o : Nat} (F : cMf h g B) (ho : o = 44 ∨ o = 45) : cMf h (zU g o y x) B := ⟨fun q hq => (zU_off q (fun z => hq (by omega))).trans (F.1 q hq), fun i hi => by rw [zU_off 42 (by omega)]; exact F.2 i hi⟩
theorem cCh.mf {Kd R : Int → Int} {h g : zMm} {B : Int} (C : cCh Kd R h) (F : cMf h g B) : cCh Kd R g := by
  unfold cCh cNx cTg at C ⊢
  rw [F.1 31 (by decide), F.1 38 (by decide), F.1 39 (by decide), F.1 40 (by decide), F.1 41 (by decide)]
  exact C
theorem qX_fin {Kd R : Int → Int} {f iq : Int → Int} {x b : Int} (X : qX Kd R f iq x b) (hx : 0 ≤ x ∧ x < 144) (e : 4 ≤ b ∨ zNx Kd (x / 4) ((x % 4 + 2) % 4) < 0) : qX Kd R f iq (-1) 0 := by
  intro y c l y0 y1 hy c0 c1 ck l0 l1 hz _
  refine X y c l y0 y1 hy c0 c1 ck l0 l1 hz (fun z => ?_)
  subst z
  rcases e with e | e
  · omega
  · have := zNx_rev (Kd := Kd) ⟨c0, c1⟩ ck ⟨by omega, by omega⟩ hz (by omega)
    omega
theorem sX4_measure {Kd R : Int → Int} {h : zMm} {K : zMm → Prop} {t look : Int} (hR : zRu R) (hG : lRk Kd 36 ≤ 7) (C : cCh Kd R h) (ht : 0 ≤ t ∧ t < lRk Kd 36) (hl : 0 ≤ look ∧ look ≤ 3) (q0 : ∀ y : Int, 0 ≤ y → y < 144 → h 45 y = 0) (f0 : ∀ y : Int, 0 ≤ y → y < 144 → h 42 ((t * 4 + look) * 144 + y) = 1000000)
    (hK : ∀ h', cMf h h' ((t * 4 + look) * 144) → (∀ y : Int, 0 ≤ y → y < 144 → h' 45 y = 0) → lFr Kd R (h 41 t) look (fun y => h' 42 ((t * 4 + look) * 144 + y)) → K h') : zCv mX4_measure [.ref 31, .int (zI t), .int (zI look)] zS0 h K := by
  obtain ⟨tc0, tc1, tc2⟩ := C.2.2.2.2.2 t ht.1 ht.2
  generalize hB : (t * 4 + look) * 144 = B at f0 hK
  have hB0 : 0 ≤ B ∧ B + 144 ≤ 4032 := by omega
  generalize htc : h 41 t = tc at hK tc0 tc1 tc2
  have tk : ¬ Kd tc = 2 := by omega
  have fin : ∀ (g : zMm) (hd n r : Int) (iq : Int → Int), n ≤ 0 → cMf h g B → qQ iq (g 44) hd n → (∀ y : Int, 0 ≤ y → y < 144 → g 45 y = iq y) → qX Kd R (fun y => g 42 (B + y)) iq (-1) 0 → qV Kd R tc look (fun y => g 42 (B + y)) r n → K g := by
    intro g hd n r iq hn F Q hq X V
    have z : ∀ y : Int, 0 ≤ y → y < 144 → iq y = 0 := fun y y0 y1 => by
      rcases Q.2.2.1 y y0 y1 with e | e
      · exact e
      · obtain ⟨j, j0, j1, -⟩ := Q.2.2.2.2.1 y y0 y1 e
        omega
    refine hK g F (fun y y0 y1 => (hq y y0 y1).trans (z y y0 y1)) ⟨fun y y0 y1 => (qV_R V y y0 y1).1, V.1.2.1, fun c l w c0 c1 ck l0 l1 w0 w1 ho => ?_, V.2⟩
    rcases zNx_R (Kd := Kd) (way := w) (show 0 ≤ c ∧ c < 36 from ⟨c0, c1⟩) with y | ⟨z1, z2, z3⟩
    · omega
    · have e1 : (zNx Kd c w * 4 + w) % 4 = w := by omega
      have e2 : (zNx Kd c w * 4 + w) / 4 = zNx Kd c w := by omega
      have := X (zNx Kd c w * 4 + w) c l (by omega) (by omega) (z _ (by omega) (by omega)) c0 c1 ck l0 l1 (by rw [e1, e2]) (fun y => by omega)
      rw [e1] at this
      exact this
  have lp : ∀ (N : Nat) (g : zMm) (hd n r : Int) (iq : Int → Int), (1000000 - r).toNat ≤ N → cMf h g B → qQ iq (g 44) hd n → (∀ y : Int, 0 ≤ y → y < 144 → (0 < n → y ≠ g 44 hd) → g 45 y = iq y) → (∀ j : Int, 0 ≤ j → j < n → ¬ Kd (g 44 ((hd + j) % 144) / 4) = 2) → qX Kd R (fun y => g 42 (B + y)) iq (-1) 0 → qV Kd R tc look (fun y => g 42 (B + y)) r n → RR mX4_measure 0 0 49 [some (.ref 31), none, none, some (.int (zI B)), none, some (.int (zI hd)), some (.int (zI n)), some (.int (zI r)), none, none, none, none, none, none] [] zS0 g (zQv zS0 K) := by
    intro N
    induction N with
    | zero =>
      intro g hd n r iq hN F Q hq qo X V
      have := qV_P V
      have := V.1.2.2
      have := Q.2.1
      omega
    | succ N ih =>
      intro g hd n r iq hN F Q hq qo X V
      have vp := qV_P V
      have v2 := V.1.2.2
      have qn := Q.2.1
      have qh := Q.1
      refine bX4_measure_49 ⟨⟨by omega, by omega⟩, ⟨by omega, by omega⟩, fun z => absurd z (by omega), fun _ => ⟨fun hn => ?_, fun hn => ?_⟩⟩
      · exact fin g hd n r iq hn F Q (fun y y0 y1 => hq y y0 y1 (fun z => absurd z (by omega))) X V
      · have x01 := (Q.2.2.2.1 0 (by decide) (by omega)).1
        have xk := qo 0 (by decide) (by omega)
        rw [show (hd + 0) % 144 = hd by omega] at x01 xk
        generalize hx : g 44 hd = x at x01 xk hq
        refine ⟨qh, ⟨by omega, by omega⟩, x01, ⟨by omega, by omega⟩, ⟨by omega, by omega⟩, ?_⟩
        have Cg := C.mf F
        have e38 : g 38 (x - x % 4 + (x % 4 + 2) % 4) = zNx Kd (x / 4) ((x % 4 + 2) % 4) := by
          rw [show x - x % 4 + (x % 4 + 2) % 4 = x / 4 * 4 + (x % 4 + 2) % 4 by omega]
          exact (Cg.2.2.1 (x / 4) ((x % 4 + 2) % 4) (by omega) (by omega) (by omega) (by omega) (by omega)).1
        rw [e38]
        have Q1 : qQ (fun y => if y = x then 0 else iq y) (g 44) ((hd + 1) % 144) (n - 1) := qQ_pop Q (by omega) (by rw [hx]; exact if_pos rfl) (fun y hy => if_neg (by rw [hx] at hy; exact hy))
        have lo : ∀ (m : Nat) (b : Int) (k : zMm) (n' : Int), 0 ≤ b → b + (m : Int) = 4 → cMf h k B → qQ (k 45) (k 44) ((hd + 1) % 144) n' → (∀ j : Int, 0 ≤ j → j < n' → ¬ Kd (k 44 (((hd + 1) % 144 + j) % 144) / 4) = 2) → qX Kd R (fun y => k 42 (B + y)) (k 45) x b → qV Kd R tc look (fun y => k 42 (B + y)) (r + 1) n' → RR mX4_measure 0 0 119 [some (.ref 31), none, none, some (.int (zI B)), none, some (.int (zI ((hd + 1) % 144))), some (.int (zI n')), some (.int (zI r)), some (.int (zI x)), some (.int (zI (x % 4))), some (.int (zI (zNx Kd (x / 4) ((x % 4 + 2) % 4)))), some (.int (zI b)), none, none] [] zS0 k (zQv zS0 K) := by
          intro m
          induction m with
          | zero =>
            intro b k n' b0 hb F' Q' qo' X' V'
            have hz := zNx_R (Kd := Kd) (way := (x % 4 + 2) % 4) (show 0 ≤ x / 4 ∧ x / 4 < 36 by omega)
            refine bX4_measure_119 ⟨⟨by omega, by omega⟩, ⟨by omega, by omega⟩, fun _ => ?_, fun z => absurd (show 4 ≤ b by omega) z⟩
            exact ih k _ n' (r + 1) (k 45) (by omega) F' Q' (fun _ _ _ _ => rfl) qo' (qX_fin X' x01 (Or.inl (by omega))) V'
          | succ m im =>
            intro b k n' b0 hb F' Q' qo' X' V'
            have hz := zNx_R (Kd := Kd) (way := (x % 4 + 2) % 4) (show 0 ≤ x / 4 ∧ x / 4 < 36 by omega)
            refine bX4_measure_119 ⟨⟨by omega, by omega⟩, ⟨by omega, by omega⟩, fun z => absurd z (by omega), fun _ => ⟨fun z => ?_, fun z => ?_⟩⟩
            · exact ih k _ n' (r + 1) (k 45) (by omega) F' Q' (fun _ _ _ _ => rfl) qo' (qX_fin X' x01 (Or.inr z)) V'
            · have rv := zNx_rev (Kd := Kd) (Kq := Kd) (show 0 ≤ x / 4 ∧ x / 4 < 36 by omega) xk (show 0 ≤ (x % 4 + 2) % 4 ∧ (x % 4 + 2) % 4 ≤ 3 by omega) rfl (by omega)
              rw [show ((x % 4 + 2) % 4 + 2) % 4 = x % 4 by omega] at rv
              have un : ∀ c : Int, 0 ≤ c → c < 36 → ¬ Kd c = 2 → zNx Kd c (x % 4) = x / 4 → c = zNx Kd (x / 4) ((x % 4 + 2) % 4) := fun c c0 c1 ck e => (zNx_rev (Kd := Kd) ⟨c0, c1⟩ ck ⟨by omega, by omega⟩ e (by omega)).symm
              generalize zNx Kd (x / 4) ((x % 4 + 2) % 4) = fr at hz z rv un im ⊢
              have fr0 : 0 ≤ fr ∧ fr < 36 ∧ ¬ Kd fr = 2 := by
                rcases hz with y | y
                · omega
                · exact y
              have hco := lCo_R (Kd := Kd) hR fr b (x % 4)
              have vx : 0 ≤ k 42 (B + x) ∧ k 42 (B + x) ≤ 1000000 := (qV_R V' x x01.1 x01.2).1
              have vo : 0 ≤ k 42 (B + (fr * 4 + b)) ∧ k 42 (B + (fr * 4 + b)) ≤ 1000000 := (qV_R V' (fr * 4 + b) (by omega) (by omega)).1
              have Ck := C.mf F'
              refine ⟨⟨by omega, by omega⟩, sX4_minutesToGo Ck ⟨fr0.1, fr0.2.1⟩ ⟨b0, by omega⟩ ⟨by omega, by omega⟩ (by rw [rv]; omega) ⟨⟨by omega, by omega⟩, ⟨by omega, by omega⟩, ⟨by omega, by omega⟩, fun c => ?_, fun c => ⟨⟨by omega, by omega⟩, ?_⟩⟩⟩
              · refine im (b + 1) k n' (by omega) (by omega) F' Q' qo' ?_ V'
                intro y c' l y0 y1 hy c0 c1 ck l0 l1 hz' hyx
                by_cases e : y = x ∧ l = b
                · obtain ⟨rfl, rfl⟩ := e
                  obtain rfl := un c' c0 c1 ck hz'
                  show k 42 (B + (c' * 4 + l)) ≤ lCo Kd R c' l (y % 4) + k 42 (B + y)
                  omega
                · exact X' y c' l y0 y1 hy c0 c1 ck l0 l1 hz' (fun z => by have := hyx z; omega)
              · have lw := qV_low (x := x) (w := x % 4) (c := fr) (l := b) (o := fr * 4 + b) (f := fun y => k 42 (B + y)) (g := fun y => zU k 42 (B + (fr * 4 + b)) (k 42 (B + x) + lCo Kd R fr b (x % 4)) 42 (B + y)) hR hG tc0 tk hl V' fr0 ⟨b0, by omega⟩ ⟨by omega, by omega⟩ rfl (by rw [rv]; omega) (by rw [rv]; omega) x01.2 (by show lCo Kd R fr b (x % 4) + k 42 (B + x) < k 42 (B + (fr * 4 + b)); omega) (by show zU k 42 (B + (fr * 4 + b)) (k 42 (B + x) + lCo Kd R fr b (x % 4)) 42 (B + (fr * 4 + b)) = lCo Kd R fr b (x % 4) + k 42 (B + x); rw [zU_eq]; omega) (fun y y0 y1 y2 => zU_ne (by omega))
                have X2 : ∀ iq' : Int → Int, iq' (fr * 4 + b) = 1 → (∀ y : Int, y ≠ fr * 4 + b → iq' y = k 45 y) → qX Kd R (fun y => zU k 42 (B + (fr * 4 + b)) (k 42 (B + x) + lCo Kd R fr b (x % 4)) 42 (B + y)) iq' x (b + 1) := by
                  intro iq' i1 i2 y c' l y0 y1 hy c0 c1 ck l0 l1 hz' hyx
                  have yo : y ≠ fr * 4 + b := fun z => by rw [z, i1] at hy; exact absurd hy (by decide)
                  rw [i2 y yo] at hy
                  show zU k 42 (B + (fr * 4 + b)) (k 42 (B + x) + lCo Kd R fr b (x % 4)) 42 (B + (c' * 4 + l)) ≤ lCo Kd R c' l (y % 4) + zU k 42 (B + (fr * 4 + b)) (k 42 (B + x) + lCo Kd R fr b (x % 4)) 42 (B + y)
                  rw [zU_ne (show ¬ (42 = 42 ∧ B + y = B + (fr * 4 + b)) by omega)]
                  by_cases e : y = x ∧ l = b
                  · obtain ⟨rfl, rfl⟩ := e
                    obtain rfl := un c' c0 c1 ck hz'
                    rw [zU_eq]
                    omega
                  · have q := X' y c' l y0 y1 hy c0 c1 ck l0 l1 hz' (fun z => by have := hyx z; omega)
                    have q : k 42 (B + (c' * 4 + l)) ≤ lCo Kd R c' l (y % 4) + k 42 (B + y) := q
                    by_cases e2 : c' * 4 + l = fr * 4 + b
                    · rw [e2, zU_eq]
                      rw [e2] at q
                      omega
                    · rw [zU_ne (by omega)]
                      exact q
                have fq := Q'.2.2.1 (fr * 4 + b) (by omega) (by omega)
                refine ⟨⟨by omega, by omega⟩, fun hq1 => ?_, fun hq0 => ⟨⟨by have := Q'.2.1; omega, by have := Q'.2.1; omega⟩, ⟨by omega, by omega⟩, ?_⟩⟩
                · refine im (b + 1) _ n' (by omega) (by omega) (F'.u42 ⟨by omega, by omega⟩) ?_ ?_ ?_ lw.2
                  · rw [zU_off 45 (by decide), zU_off 44 (by decide)]; exact Q'
                  · rw [zU_off 44 (by decide)]; exact qo'
                  · rw [zU_off 45 (by decide)]
                    exact X2 (k 45) (by omega) (fun _ _ => rfl)
                · have nr := qQ_room Q' (o := fr * 4 + b) ⟨by omega, by omega⟩ hq0
                  have Q2 := qQ_put (iq' := zU (zU (zU k 42 (B + (fr * 4 + b)) (k 42 (B + x) + lCo Kd R fr b (x % 4))) 45 (fr * 4 + b) 1) 44 (((hd + 1) % 144 + n') % 144) (fr * 4 + b) 45) (q' := zU (zU (zU k 42 (B + (fr * 4 + b)) (k 42 (B + x) + lCo Kd R fr b (x % 4))) 45 (fr * 4 + b) 1) 44 (((hd + 1) % 144 + n') % 144) (fr * 4 + b) 44) Q' (o := fr * 4 + b) ⟨by omega, by omega⟩ hq0 (by rw [zU_off 45 (by decide), zU_eq]) (fun y hy => by rw [zU_off 45 (by decide), zU_ne (fun z => hy z.2), zU_off 45 (by decide)]) (zU_eq _ _ _ _) (fun y hy => by rw [zU_ne (fun z => hy z.2), zU_off 44 (by decide), zU_off 44 (by decide)])
                  refine im (b + 1) _ (n' + 1) (by omega) (by omega) (((F'.u42 ⟨by omega, by omega⟩).u (Or.inr rfl)).u (Or.inl rfl)) Q2 (fun j j0 j1 => ?_) ?_ ?_
                  · by_cases e : j = n'
                    · rw [e, zU_eq, show (fr * 4 + b) / 4 = fr by omega]; exact fr0.2.2
                    · have := Q'.1
                      have := Q'.2.1
                      rw [zU_ne (by omega), zU_off 44 (by decide), zU_off 44 (by decide)]
                      exact qo' j j0 (by omega)
                  · rw [zU_off 42 (by decide), zU_off 42 (by decide)]
                    exact X2 _ (by rw [zU_off 45 (by decide), zU_eq]) (fun y hy => by rw [zU_off 45 (by decide), zU_ne (fun z => hy z.2), zU_off 45 (by decide)])
                  · rw [zU_off 42 (by decide), zU_off 42 (by decide)]
                    exact lw.1
        have i45 : ∀ y : Int, 0 ≤ y → y < 144 → zU g 45 x 0 45 y = if y = x then 0 else iq y := fun y y0 y1 => by
          by_cases e : y = x
          · rw [e, zU_eq, if_pos rfl]
          · rw [zU_ne (fun z => e z.2), if_neg e]
            exact hq y y0 y1 (fun _ => e)
        have Q2 : qQ (zU g 45 x 0 45) (zU g 45 x 0 44) ((hd + 1) % 144) (n - 1) := by
          rw [zU_off 44 (by decide)]
          obtain ⟨a1, a2, a3, a4, a5, a6⟩ := Q1
          refine ⟨a1, a2, fun y y0 y1 => ?_, fun j j0 j1 => ?_, fun y y0 y1 hy => ?_, a6⟩
          · rw [i45 y y0 y1]; exact a3 y y0 y1
          · have := a4 j j0 j1
            rw [i45 _ this.1.1 this.1.2]; exact this
          · rw [i45 y y0 y1] at hy
            exact a5 y y0 y1 hy
        have e6 : n + -1 = n - 1 := by omega
        rw [e6]
        refine lo 4 0 _ (n - 1) (Int.le_refl _) rfl (F.u (Or.inr rfl)) Q2 (fun j j0 j1 => ?_) ?_ ?_
        · rw [zU_off 44 (by decide), show ((hd + 1) % 144 + j) % 144 = (hd + (j + 1)) % 144 by omega]
          exact qo (j + 1) (by omega) (by omega)
        · rw [zU_off 42 (by decide)]
          intro y c l y0 y1 hy c0 c1 ck l0 l1 hz hyx
          rw [i45 y y0 y1] at hy
          by_cases e : y = x
          · have := hyx e; omega
          · rw [if_neg e] at hy
            exact X y c l y0 y1 hy c0 c1 ck l0 l1 hz (fun z => by omega)
        · rw [zU_off 42 (by decide)]
          obtain ⟨⟨a1, a2, a3⟩, a4⟩ := V
          exact ⟨⟨a1, a2, ⟨by omega, by omega⟩⟩, a4⟩
  have ef : ∀ y : Int, 0 ≤ y → y < 144 → zU (zU h 42 (B + (tc * 4 + look)) 0) 44 0 (tc * 4 + look) 42 (B + y) = if y = tc * 4 + look then 0 else 1000000 := fun y y0 y1 => by
    rw [zU_off 42 (by decide)]
    by_cases e : y = tc * 4 + look
    · rw [e, zU_eq, if_pos rfl]
    · rw [zU_ne (by omega), if_neg e]; exact f0 y y0 y1
  refine wX4_measure ?_
  rw [hB, htc]
  refine ⟨⟨by omega, by omega⟩, ⟨by omega, by omega⟩, ?_⟩
  refine lp 1000000 _ 0 1 0 (fun y => if y = tc * 4 + look then 1 else 0) (by decide) (((cMf.rf h B).u42 ⟨by omega, by omega⟩).u (Or.inl rfl)) ⟨by decide, by decide, fun y y0 y1 => ?_, fun j j0 j1 => ?_, fun y y0 y1 hy => ?_, fun i j i0 ij jn => ?_⟩ (fun y y0 y1 hy => ?_) (fun j j0 j1 => ?_) ?_ ?_
  · show (if y = tc * 4 + look then (1 : Int) else 0) = 0 ∨ (if y = tc * 4 + look then (1 : Int) else 0) = 1
    split
    · exact Or.inr rfl
    · exact Or.inl rfl
  · obtain rfl : j = 0 := by omega
    show (0 ≤ zU (zU h 42 (B + (tc * 4 + look)) 0) 44 0 (tc * 4 + look) 44 0 ∧ zU (zU h 42 (B + (tc * 4 + look)) 0) 44 0 (tc * 4 + look) 44 0 < 144) ∧ (if zU (zU h 42 (B + (tc * 4 + look)) 0) 44 0 (tc * 4 + look) 44 0 = tc * 4 + look then (1 : Int) else 0) = 1
    rw [zU_eq, if_pos rfl]
    exact ⟨⟨by omega, by omega⟩, rfl⟩
  · by_cases e : y = tc * 4 + look
    · exact ⟨0, by decide, by decide, (zU_eq _ _ _ _).trans e.symm⟩
    · have : (if y = tc * 4 + look then (1 : Int) else 0) = 1 := hy
      rw [if_neg e] at this
      exact absurd this (by decide)
  · omega
  · have hne := hy (by decide)
    rw [zU_eq] at hne
    rw [zU_off 45 (by decide), zU_off 45 (by decide), q0 y y0 y1]
    exact (if_neg hne).symm
  · obtain rfl : j = 0 := by omega
    show ¬ Kd (zU (zU h 42 (B + (tc * 4 + look)) 0) 44 0 (tc * 4 + look) 44 0 / 4) = 2
    rw [zU_eq, show (tc * 4 + look) / 4 = tc by omega]
    exact tk
  · intro y c l y0 y1 hy c0 c1 ck l0 l1 hz _
    have e : ¬ y = tc * 4 + look := fun z => by
      have : (if y = tc * 4 + look then (1 : Int) else 0) = 0 := hy
      rw [if_pos z] at this
      exact absurd this (by decide)
    have hco := lCo_R (Kd := Kd) hR c l (y % 4)
    show zU (zU h 42 (B + (tc * 4 + look)) 0) 44 0 (tc * 4 + look) 42 (B + (c * 4 + l)) ≤ lCo Kd R c l (y % 4) + zU (zU h 42 (B + (tc * 4 + look)) 0) 44 0 (tc * 4 + look) 42 (B + y)
    rw [ef y y0 y1, ef _ (by omega) (by omega), if_neg e]
    split <;> omega
  · have qs := qN_R (fun y => zU (zU h 42 (B + (tc * 4 + look)) 0) 44 0 (tc * 4 + look) 42 (B + y))
    have qp := (qP_R (f := fun y => zU (zU h 42 (B + (tc * 4 + look)) 0) 44 0 (tc * 4 + look) 42 (B + y)) 144 (fun y y0 y1 => by
      show 0 ≤ qW (zU (zU h 42 (B + (tc * 4 + look)) 0) 44 0 (tc * 4 + look) 42 (B + y)) ∧ qW (zU (zU h 42 (B + (tc * 4 + look)) 0) 44 0 (tc * 4 + look) 42 (B + y)) ≤ 1450
      rw [ef y y0 (by omega)]
      split <;> decide)).2
    refine ⟨⟨fun y y0 y1 => ?_, ?_, ⟨Int.le_refl _, by omega⟩⟩, fun c l k hd => ?_⟩
    · show zU (zU h 42 (B + (tc * 4 + look)) 0) 44 0 (tc * 4 + look) 42 (B + y) = 1000000 ∨ (0 ≤ zU (zU h 42 (B + (tc * 4 + look)) 0) 44 0 (tc * 4 + look) 42 (B + y) ∧ zU (zU h 42 (B + (tc * 4 + look)) 0) 44 0 (tc * 4 + look) 42 (B + y) ≤ 10 * qN _)
      rw [ef y y0 y1]
      split
      · exact Or.inr ⟨Int.le_refl _, by omega⟩
      · exact Or.inl rfl
    · show zU (zU h 42 (B + (tc * 4 + look)) 0) 44 0 (tc * 4 + look) 42 (B + (tc * 4 + look)) = 0
      rw [ef _ (by omega) (by omega), if_pos rfl]
    · obtain ⟨k', ek, d2, d3, d4, d5⟩ := hd
      obtain rfl : k = k' := by omega
      show lM Kd R (k : Int) c l ≤ zU (zU h 42 (B + (tc * 4 + look)) 0) 44 0 (tc * 4 + look) 42 (B + (c * 4 + l)) + _
      have m0 := lM_R (Kd := Kd) hR ((k ||| nb Kd tc : Nat) : Int) tc look
      have m1 := lM_R (Kd := Kd) hR (k : Int) c l
      rw [ef _ (by omega) (by omega)]
      by_cases e : c * 4 + l = tc * 4 + look
      · obtain rfl : c = tc := by omega
        obtain rfl : l = look := by omega
        rw [if_pos rfl, d5]
        omega
      · rw [if_neg e]
        omega
