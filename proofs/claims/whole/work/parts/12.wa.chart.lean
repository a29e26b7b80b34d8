/-! LEAST: the class's chart -/
def cPl (Kd R : Int → Int) (h : zMm) : Prop := zKd (h 33) Kd ∧ ∀ r : Int, 0 ≤ r → r ≤ 7 → h 37 r = R r
def cNx (Kd R : Int → Int) (h : zMm) (n : Int) : Prop := ∀ c w : Int, 0 ≤ c → c < 36 → 0 ≤ w → w ≤ 3 → c * 4 + w < n → h 38 (c * 4 + w) = zNx Kd c w ∧ (0 ≤ zNx Kd c w → h 39 (c * 4 + w) = zMn Kd R w (zNx Kd c w))
def cTg (Kd : Int → Int) (h : zMm) (n : Int) : Prop := h 31 10 = lRk Kd n.toNat ∧ (∀ c : Int, 0 ≤ c → c < n → h 40 c = lBt Kd c) ∧ ∀ t : Int, 0 ≤ t → t < lRk Kd n.toNat → (0 ≤ h 41 t ∧ h 41 t < 36) ∧ Kd (h 41 t) ≤ 1 ∧ lRk Kd (h 41 t).toNat = t
def cCh (Kd R : Int → Int) (h : zMm) : Prop := h 31 12 = R 1 ∧ h 31 11 = lAll Kd ∧ cNx Kd R h 144 ∧ cTg Kd h 36
def cHf (h g : zMm) : Prop := (∀ o : Nat, o ≠ 31 → ¬ (38 ≤ o ∧ o ≤ 42) → g o = h o) ∧ ∀ i : Int, ¬ (10 ≤ i ∧ i ≤ 12) → g 31 i = h 31 i
theorem cHf.rf (h : zMm) : cHf h h := ⟨fun _ _ _ => rfl, fun _ _ => rfl⟩
theorem cHf.u {h g : zMm} (F : cHf h g) {o : Nat} {i x : Int} (ho : 38 ≤ o ∧ o ≤ 42) : cHf h (zU g o i x) := ⟨fun q q1 q2 => (zU_off q (fun z => q2 (by omega))).trans (F.1 q q1 q2), fun j hj => by rw [zU_off 31 (by omega)]; exact F.2 j hj⟩
theorem cHf.u31 {h g : zMm} (F : cHf h g) {i x : Int} (hi : 10 ≤ i ∧ i ≤ 12) : cHf h (zU g 31 i x) := ⟨fun q q1 q2 => (zU_off q q1).trans (F.1 q q1 q2), fun j hj => by rw [zU_ne (fun z => hj (by omega))]; exact F.2 j hj⟩
theorem cPl.hf {Kd R : Int → Int} {h g : zMm} (P : cPl Kd R h) (F : cHf h g) : cPl Kd R g := by
  unfold cPl at P ⊢
  rw [F.1 33 (by decide) (by decide), F.1 37 (by decide) (by decide)]
  exact P
theorem sX3_mOS {Kd R : Int → Int} {h : zMm} {K : Int → zMm → Prop} {w to : Int} (P : cPl Kd R h) (hw : 0 ≤ w ∧ w ≤ 3) (ht : to = -4 ∨ (0 ≤ to ∧ to < 36)) (k : ∀ x : Int, (0 ≤ to → x = zMn Kd R w to) → K x h) : zCi mX3_minutesOfStep [.ref 32, .int (zI w), .int (zI to)] zS0 h K := by
  rcases ht with e | e
  · subst e
    have k1 := k 1 (fun z => absurd z (by decide))
    refine wX3_minutesOfStep g0_32 ⟨⟨by omega, by omega⟩, fun _ => k1, fun _ => sX11_isCell (by decide) ?_⟩
    exact ⟨fun _ => k1, fun z => absurd z (by decide)⟩
  · refine sX3_minutesOfStep g0_32 P.1 hw e ?_
    rw [show h (32 + 5) 2 = R 2 from P.2 2 (by decide) (by decide)]
    exact k _ (fun _ => rfl)
theorem sX4_chart {Kd R : Int → Int} {h : zMm} {K : zMm → Prop} (hG : lRk Kd 36 ≤ 7) (P : cPl Kd R h) (hK : ∀ h', cHf h h' → cCh Kd R h' → (∀ i : Int, 0 ≤ i → i < 4032 → h' 42 i = 1000000) → K h') : zCv mX4_chart [.ref 31] zS0 h K := by
  have lp : ∀ (n c : Nat) (g : zMm), c + n = 36 → cHf h g → g 31 12 = R 1 → cNx Kd R g (4 * (c : Int)) → cTg Kd g (c : Int) → RR mX4_chart 0 0 19 [some (.ref 31), some (.int (zI (c : Int))), none, none] [] zS0 g (zQv zS0 K) := by
    intro n
    induction n with
    | zero =>
      intro c g hc F e12 N G
      obtain rfl : c = 36 := by omega
      refine bX4_chart_19 ⟨by decide, fun _ => ?_, fun z => absurd (show (36 : Int) ≤ ((36 : Nat) : Int) by decide) z⟩
      have e : zU g 31 11 ((iSl 1 (g 31 10)) - 1) 31 11 = lAll Kd := by
        rw [zU_eq, G.1]
        rfl
      refine sJ7_fill_i s0_42 (by decide) (hK _ ⟨fun o o1 o2 => ?_, fun i hi => ?_⟩ ⟨?_, ?_, ?_, ?_, ?_, ?_⟩ (fun i i0 i1 => zFi_in i0 i1))
      · funext b
        rw [zFi_off (by omega), zU_off o o1]; exact congrFun (F.1 o o1 o2) b
      · rw [zFi_off (by decide), zU_ne (by omega)]; exact F.2 i hi
      · rw [zFi_off (by decide), zU_ne (by omega)]; exact e12
      · rw [zFi_off (by decide)]; exact e
      · intro x w x0 x1 w0 w1 hn
        rw [zFi_off (by decide), zFi_off (by decide), zU_off 38 (by decide), zU_off 39 (by decide)]
        exact N x w x0 x1 w0 w1 hn
      · rw [zFi_off (by decide), zU_ne (by omega)]; exact G.1
      · intro x x0 x1
        rw [zFi_off (by decide), zU_off 40 (by decide)]
        exact G.2.1 x x0 x1
      · intro t t0 t1
        rw [zFi_off (by decide), zU_off 41 (by decide)]
        exact G.2.2 t t0 t1
    | succ n ih =>
      intro c g hc F e12 N G
      have c0 : (0 : Int) ≤ c ∧ (c : Int) < 36 := ⟨by omega, by omega⟩
      have r0 := lRk_R Kd c
      have ec : ((c : Int)).toNat = c := Int.toNat_natCast _
      have l86 : ∀ (m w : Nat) (k : zMm), w + m = 4 → cHf h k → k 31 12 = R 1 → cNx Kd R k (4 * (c : Int) + (w : Int)) → cTg Kd k ((c : Int) + 1) → RR mX4_chart 0 0 86 [some (.ref 31), some (.int (zI (c : Int))), some (.int (zI (w : Int))), none] [] zS0 k (zQv zS0 K) := by
        intro m
        induction m with
        | zero =>
          intro w k hw F' e12' N' G'
          obtain rfl : w = 4 := by omega
          refine bX4_chart_86 ⟨by decide, fun _ => ?_, fun z => absurd (show (4 : Int) ≤ ((4 : Nat) : Int) by decide) z⟩
          rw [show (c : Int) + 1 = ((c + 1 : Nat) : Int) by omega] at G' ⊢
          refine ih (c + 1) k (by omega) F' e12' ?_ G'
          rw [show 4 * ((c + 1 : Nat) : Int) = 4 * (c : Int) + ((4 : Nat) : Int) by omega]
          exact N'
        | succ m im =>
          intro w k hw F' e12' N' G'
          have P' := P.hf F'
          have w0 : (0 : Int) ≤ w ∧ (w : Int) ≤ 3 := ⟨by omega, by omega⟩
          have hz := zNx_R (Kd := Kd) (way := (w : Int)) c0
          refine bX4_chart_86 ⟨⟨by omega, by omega⟩, fun z => absurd z (by omega), fun _ => sX3_ahead g0_32 P'.1 c0 w0 ⟨⟨by omega, by omega⟩, ?_⟩⟩
          have F1 := F'.u (o := 38) (i := (c : Int) * 4 + (w : Int)) (x := zNx Kd (c : Int) (w : Int)) (by decide)
          refine sX3_mOS (P.hf F1) w0 (by rcases hz with z | z; exact Or.inl z; exact Or.inr ⟨z.1, z.2.1⟩) (fun v39 e39 => ?_)
          rw [show (w : Int) + 1 = ((w + 1 : Nat) : Int) by omega]
          refine im (w + 1) _ (by omega) (F1.u (by decide)) ?_ ?_ ?_
          · rw [zU_off 31 (by decide), zU_off 31 (by decide)]; exact e12'
          · intro x v x0 x1 v0 v1 hn
            by_cases e : x = (c : Int) ∧ v = (w : Int)
            · obtain ⟨rfl, rfl⟩ := e
              rw [zU_eq, zU_off 38 (by decide), zU_eq]
              exact ⟨rfl, e39⟩
            · have q := N' x v x0 x1 v0 v1 (by omega)
              refine ⟨?_, ?_⟩
              · rw [zU_off 38 (by decide), zU_ne (by omega)]; exact q.1
              · intro z
                rw [zU_ne (by omega), zU_off 39 (by decide)]; exact q.2 z
          · unfold cTg at G' ⊢
            rw [zU_off 31 (by decide), zU_off 31 (by decide), zU_off 40 (by decide), zU_off 40 (by decide), zU_off 41 (by decide), zU_off 41 (by decide)]
            exact G'
      have P0 := P.hf F
      have F40 := F.u (o := 40) (i := (c : Int)) (x := 0) (by decide)
      have go : ∀ k : zMm, cHf h k → k 31 12 = R 1 → k 38 = g 38 → k 39 = g 39 → cTg Kd k ((c : Int) + 1) → RR mX4_chart 0 0 86 [some (.ref 31), some (.int (zI (c : Int))), some (.int (zI 0)), none] [] zS0 k (zQv zS0 K) := by
        intro k F' e12' e38 e39 G'
        refine l86 4 0 k rfl F' e12' ?_ G'
        unfold cNx
        rw [e38, e39]
        intro x w x0 x1 w0 w1 hn
        exact N x w x0 x1 w0 w1 (by omega)
      refine bX4_chart_19 ⟨⟨by omega, by omega⟩, fun z => absurd z (by omega), fun _ => ⟨c0, sX3_isGrass' g0_32 (P.hf F40).1 c0 ?_⟩⟩
      rw [show zU g 40 (c : Int) 0 31 10 = lRk Kd c by rw [zU_off 31 (by decide), G.1, ec]]
      simp only [decide_eq_true_eq, decide_eq_false_iff_not]
      refine ⟨⟨by omega, by omega⟩, fun hk => ?_, fun hk => ?_⟩
      · refine go _ F40 ?_ ?_ ?_ ⟨?_, fun x x0 x1 => ?_, ?_⟩
        · rw [zU_off 31 (by decide)]; exact e12
        · exact zU_off 38 (by decide)
        · exact zU_off 39 (by decide)
        · rw [zU_off 31 (by decide), G.1, ec, show ((c : Int) + 1).toNat = c + 1 by omega, lRk_o hk]
        · by_cases e : x = (c : Int)
          · rw [e, zU_eq]; exact (if_neg hk).symm
          · rw [zU_ne (fun z => e z.2)]; exact G.2.1 x x0 (by omega)
        · rw [zU_off 41 (by decide), show ((c : Int) + 1).toNat = c + 1 by omega, lRk_o hk]
          have := G.2.2
          rw [ec] at this
          exact this
      · have r1 := lRk_lt c0 hk (N := 36) c0.2
        rw [ec] at r1
        refine ⟨fun z => absurd z (by omega), fun _ => ⟨⟨by omega, by omega⟩, go _ (((F40.u (by decide)).u (by decide)).u31 (by decide)) ?_ ?_ ?_ ⟨?_, fun x x0 x1 => ?_, fun t t0 t1 => ?_⟩⟩⟩
        · rw [zU_ne (by omega), zU_off 31 (by decide), zU_off 31 (by decide), zU_off 31 (by decide)]; exact e12
        · rw [zU_off 38 (by decide), zU_off 38 (by decide), zU_off 38 (by decide), zU_off 38 (by decide)]
        · rw [zU_off 39 (by decide), zU_off 39 (by decide), zU_off 39 (by decide), zU_off 39 (by decide)]
        · rw [zU_eq, show ((c : Int) + 1).toNat = c + 1 by omega, lRk_y hk]
        · rw [zU_off 40 (by decide), zU_off 40 (by decide)]
          by_cases e : x = (c : Int)
          · rw [e, zU_eq]
            unfold lBt
            rw [if_pos hk, ec]
          · rw [zU_ne (fun z => e z.2), zU_ne (fun z => e z.2)]; exact G.2.1 x x0 (by omega)
        · rw [show ((c : Int) + 1).toNat = c + 1 by omega, lRk_y hk] at t1
          rw [zU_off 41 (by decide)]
          by_cases e : t = lRk Kd c
          · rw [e, zU_eq, ec]; exact ⟨c0, hk, rfl⟩
          · rw [zU_ne (fun z => e z.2), zU_off 41 (by decide), zU_off 41 (by decide)]
            exact G.2.2 t t0 (by rw [ec]; omega)
  refine wX4_chart (sX3_told g0_32 (by decide) ?_)
  rw [show h (32 + 5) 1 = R 1 from P.2 1 (by decide) (by decide)]
  refine lp 36 0 _ rfl (((cHf.rf h).u31 (by decide)).u31 (by decide)) ?_ ?_ ⟨?_, ?_, ?_⟩
  · rw [zU_ne (by omega), zU_eq]
  · intro x w x0 x1 w0 w1 hn
    exact absurd hn (by omega)
  · rw [zU_eq]; rfl
  · intro x x0 x1; exact absurd x1 (by omega)
  · intro t t0 t1
    exact absurd (show t < 0 from t1) (by omega)
theorem sX4_minutesToGo {Kd R : Int → Int} {h : zMm} {K : Int → zMm → Prop} {c l w : Int} (C : cCh Kd R h) (hc : 0 ≤ c ∧ c < 36) (hl : 0 ≤ l ∧ l ≤ 3) (hw : 0 ≤ w ∧ w ≤ 3) (ho : 0 ≤ zNx Kd c w) (k : K (lCo Kd R c l w) h) : zCi mX4_minutesToGo [.ref 31, .int (zI (c * 4 + l)), .int (zI w)] zS0 h K := by
  refine wX4_minutesToGo ⟨⟨by omega, by omega⟩, ?_⟩
  rw [show (c * 4 + l) % 4 = l by omega, show c * 4 + l - l + w = c * 4 + w by omega]
  refine sX11_quartersBetween ⟨⟨by omega, by omega⟩, ?_⟩
  rw [C.1, (C.2.2.1 c w hc.1 hc.2 hw.1 hw.2 (by omega)).2 ho, Int.mul_comm]
  exact k
theorem sX4_seenAtFirst {Kd R : Int → Int} {h : zMm} {K : Int → zMm → Prop} (P : cPl Kd R h) (C : cCh Kd R h) (hr : 0 ≤ R 0 ∧ R 0 < 36) (k : K (lBt Kd (R 0)) h) : zCi mX4_seenAtFirst [.ref 31] zS0 h K := by
  refine wX4_seenAtFirst (sX3_told g0_32 (by decide) ?_)
  rw [show h (32 + 5) 0 = R 0 from P.2 0 (by decide) (by decide)]
  refine sX11_isCell ⟨by omega, by omega⟩ ?_
  simp only [decide_eq_true_eq, decide_eq_false_iff_not]
  refine ⟨fun z => absurd hr z, fun _ => ⟨hr, ?_⟩⟩
  rw [C.2.2.2.2.1 (R 0) hr.1 hr.2]
  exact k
