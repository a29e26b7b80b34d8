/-! LEAST: least, tree, dearest, adopt of the model -/
theorem mLeast {a h : zMm} {v1 : Int} {K : Int → zMm → Prop} (W : WF a) (M : MR a h) (r1 : zR v1) (hK : ∀ h', MR a h' → zLo81 h h' → K (fLeast a v1) h') : zCi mX12_least [.ref 81, .int (zI v1)] zS0 h K := by
  have hw := fWhy_R a
  have rw0 : zR (fWhy a) := by rcases hw with e | e | e <;> rw [e] <;> decide
  have hR := W.2.1
  have hr0 : 0 ≤ a 4 0 ∧ a 4 0 < 36 := ⟨hR.1.1, by have := hR.1.2; omega⟩
  refine wX12_least (sX12_awake M (fun h1 M1 A1 lo1 => ⟨r1, sX12_in r1 (by decide) (by decide) ?_⟩))
  simp only [decide_eq_true_eq, decide_eq_false_iff_not]
  have nz : ∀ h2 : zMm, mWf h1 h2 → ¬ (¬ (0 ≤ v1 ∧ v1 ≤ 2) ∧ v1 < 10) → ¬ fWhy a = 0 → K (fWhy a) h2 := by
    intro h2 F c z
    have fin := hK h2 (F.M M1) (fun o ho => (F.lo o ho).trans (lo1 o ho))
    unfold fLeast at fin
    rw [if_neg c, if_pos z] at fin
    exact fin
  have go : ∀ h2 : zMm, mWf h1 h2 → ¬ (¬ (0 ≤ v1 ∧ v1 ≤ 2) ∧ v1 < 10) → fWhy a = 0 → mLy (a 0) (a 4) h2 → ((0 ≤ (h2 88 0) ∧ (h2 88 0) < 36) ∧ ((0 ≤ ((144 * (h2 98 (h2 88 0))) + (4 * (h2 88 0))) ∧ ((144 * (h2 98 (h2 88 0))) + (4 * (h2 88 0))) < 18432) ∧ zCv mX12_layWay [.ref 81] zS0 h2 (fun h8 => (zR (v1 - 10) ∧ (zR (h8 81 36) ∧ ((¬ v1 = 0 → ((¬ v1 = 1 → ((¬ v1 = 2 → (((h8 81 36) ≤ (v1 - 10) → K (-1) h8) ∧ (¬ (h8 81 36) ≤ (v1 - 10) → ((0 ≤ (v1 - 10) ∧ (v1 - 10) < 1000) ∧ K (h8 100 (v1 - 10)) h8)))) ∧ (v1 = 2 → K (h8 81 37) h8))) ∧ (v1 = 1 → K (h8 81 36) h8))) ∧ (v1 = 0 → K (h2 99 ((144 * (h2 98 (h2 88 0))) + (4 * (h2 88 0)))) h8))))))) := by
    intro h2 F c z L
    obtain ⟨hG, hf⟩ := fWhy_0 z
    have hA := nA_le hG
    obtain ⟨l1, l2, l3⟩ := lLen_ok hR hG W.2.2.1 hf
    have A2 := F.A A1
    have P2 := mPl_of A2
    have hb := nb_le (Kd := a 0) hr0
    have rr := L.2.1 (nb (a 0) (a 4 0)) hb (a 4 0) 0 hr0.1 hr0.2 W.2.2.1 (by decide) (by decide)
    rw [P2.2 0 (by decide) (by decide), L.1 (a 4 0) hr0.1 hr0.2, lBt_n hr0 hG]
    refine ⟨hr0, ⟨by omega, by omega⟩, sX12_layWay hR hG W.2.2.1 P2 L hf (fun h8 G1 G2 e36 e37 e100 => ?_)⟩
    have F8 : mWf h1 h8 := F.trans ⟨fun o o1 o2 o3 o4 => G1 o o1 o4, fun i i1 i2 i3 => G2 i i2 i3⟩
    have fin := hK h8 (F8.M M1) (fun o ho => (F8.lo o ho).trans (lo1 o ho))
    unfold fLeast at fin
    rw [if_neg c, if_neg (fun y => y z)] at fin
    rw [e36, e37]
    refine ⟨⟨by omega, by omega⟩, ⟨by omega, by omega⟩, fun n0 => ⟨fun n1 => ⟨fun n2 => ⟨fun q => ?_, fun q => ⟨⟨by omega, by omega⟩, ?_⟩⟩, fun y2 => ?_⟩, fun y1 => ?_⟩, fun y0 => ?_⟩
    · rw [if_neg n0, if_neg n1, if_neg n2, if_neg (by omega)] at fin; exact fin
    · rw [if_neg n0, if_neg n1, if_neg n2, if_pos (by omega)] at fin
      rw [show v1 - 10 = (((v1 - 10).toNat : Nat) : Int) by omega, e100 _ (by omega)]
      exact fin
    · rw [if_neg n0, if_neg n1, if_pos y2] at fin; exact fin
    · rw [if_neg n0, if_pos y1] at fin; exact fin
    · rw [if_pos y0] at fin
      rw [show 144 * ((nb (a 0) (a 4 0) : Nat) : Int) + 4 * a 4 0 = 144 * ((nb (a 0) (a 4 0) : Nat) : Int) + (4 * a 4 0 + 0) by omega, rr, ← lBt_n hr0 hG]
      exact fin
  refine ⟨fun c => sX12_hinders W A1 (fun h2 F L => ⟨rw0, fun z => go h2 F (fun y => y.1 c) z (L z), fun z => nz h2 F (fun y => y.1 c) z⟩), fun c => ⟨fun c2 => sX12_hinders W A1 (fun h2 F L => ⟨rw0, fun z => go h2 F (fun y => by omega) z (L z), fun z => nz h2 F (fun y => by omega) z⟩), fun c2 => ?_⟩⟩
  have fin := hK h1 M1 lo1
  unfold fLeast at fin
  rw [if_pos ⟨c, by omega⟩] at fin
  exact fin
theorem mTree {a h : zMm} {v1 : Int} {K : Int → zMm → Prop} (W : WF a) (M : MR a h) (r1 : zR v1) (hK : ∀ h', MR a h' → zLo81 h h' → K (fTree a v1) h') : zCi mX12_tree [.ref 81, .int (zI v1)] zS0 h K := by
  have hw := fWhy_R a
  have rw0 : zR (fWhy a) := by rcases hw with e | e | e <;> rw [e] <;> decide
  refine wX12_tree (sX12_awake M (fun h1 M1 A1 lo1 => sX12_isCell r1 ?_))
  simp only [decide_eq_true_eq, decide_eq_false_iff_not]
  refine ⟨fun c => ?_, fun c => ⟨⟨by omega, by omega⟩, ?_⟩⟩
  · have fin := hK h1 M1 lo1
    unfold fTree at fin
    rw [if_pos (fun z => c z.1)] at fin
    exact fin
  · obtain ⟨g1, g2, g3⟩ := A1.1.1 v1 c.1 c.2
    rw [g1]
    refine ⟨⟨by omega, by omega⟩, fun c2 => sX12_hinders W A1 (fun h2 F L => ⟨rw0, fun z => ?_, fun z => ?_⟩), fun c2 => ?_⟩
    · obtain ⟨hG, hf⟩ := fWhy_0 z
      refine sX12_layLeast W.2.1 hG W.2.2.1 (mPl_of (F.A A1)) (fun h3 F1 F2 _ => ?_)
      have F3 : mWf h1 h3 := F.trans ⟨fun o o1 o2 o3 o4 => F1 o o1 o2 o3, fun i i1 i2 i3 => F2 i i1⟩
      refine sX12_withoutTree W (F3.A A1) hG c c2 (fun h4 F4 => ?_)
      have F5 := F3.trans F4
      have fin := hK h4 (F5.M M1) (fun o ho => (F5.lo o ho).trans (lo1 o ho))
      unfold fTree at fin
      rw [if_neg (fun y => y ⟨c, c2⟩), if_neg (fun y => y z)] at fin
      exact fin
    · have fin := hK h2 (F.M M1) (fun o ho => (F.lo o ho).trans (lo1 o ho))
      unfold fTree at fin
      rw [if_neg (fun y => y ⟨c, c2⟩), if_pos z] at fin
      exact fin
    · have fin := hK h1 M1 lo1
      unfold fTree at fin
      rw [if_pos (fun z => c2 z.2)] at fin
      exact fin
theorem mDearest {a h : zMm} {v1 : Int} {K : Int → zMm → Prop} (W : WF a) (M : MR a h) (r1 : zR v1) (hK : ∀ h', MR a h' → zLo81 h h' → K (fDearest a v1) h') : zCi mX12_dearest [.ref 81, .int (zI v1)] zS0 h K := by
  have hw := fWhy_R a
  have rw0 : zR (fWhy a) := by rcases hw with e | e | e <;> rw [e] <;> decide
  have hR := W.2.1
  refine wX12_dearest (sX12_awake M (fun h1 M1 A1 lo1 => ⟨r1, sX12_in r1 (by decide) (by decide) ?_⟩))
  simp only [decide_eq_true_eq, decide_eq_false_iff_not]
  refine ⟨fun c => sX12_hinders W A1 (fun h2 F L => ⟨rw0, fun z => ?_, fun z => ?_⟩), fun c => ?_⟩
  · obtain ⟨hG, hf⟩ := fWhy_0 z
    refine sX12_layLeast hR hG W.2.2.1 (mPl_of (F.A A1)) (fun h3 F1 F2 _ => ?_)
    have F3 : mWf h1 h3 := F.trans ⟨fun o o1 o2 o3 o4 => F1 o o1 o2 o3, fun i i1 i2 i3 => F2 i i1⟩
    have lp : ∀ (n x : Nat) (g : zMm), x + n = 36 → mWf h1 g → RR mX12_dearest 0 0 42 [some (.ref 81), some (.int (zI v1)), none, some (.int (zI (lMin (a 0) (a 4)))), some (.int (zI (lDr (a 0) (a 4) x).1)), some (.int (zI (lDr (a 0) (a 4) x).2)), some (.int (zI (x : Int))), none] [] zS0 g (zQi zS0 K) := by
      intro n
      induction n with
      | zero =>
        intro x g hx Fg
        obtain rfl : x = 36 := by omega
        have dr := lDr_R (Kd := a 0) hR 36
        have fin := hK g (Fg.M M1) (fun o ho => (Fg.lo o ho).trans (lo1 o ho))
        unfold fDearest at fin
        rw [if_neg (fun y => y c), if_neg (fun y => y z)] at fin
        refine bX12_dearest_42 ⟨by decide, fun _ => ⟨⟨by omega, by omega⟩, r1, ?_⟩, fun z => absurd (show (36 : Int) ≤ ((36 : Nat) : Int) by decide) z⟩
        by_cases q : (lDr (a 0) (a 4) 36).1 = -4
        · rw [if_pos q]
          rw [if_pos (by omega)] at fin
          exact fin
        · rw [if_neg q]
          rw [if_neg (by omega)] at fin
          exact fin
      | succ n ih =>
        intro x g hx Fg
        have x0 : (0 : Int) ≤ x ∧ (x : Int) < 36 := ⟨by omega, by omega⟩
        have dr := lDr_R (Kd := a 0) hR x
        have cr := lCs_R (Kd := a 0) hR (x : Int)
        have Ag := Fg.A A1
        obtain ⟨g1, g2, g3⟩ := Ag.1.1 (x : Int) x0.1 x0.2
        refine bX12_dearest_42 ⟨⟨by omega, by omega⟩, fun y => absurd y (by omega), fun _ => ⟨⟨by omega, by omega⟩, ?_⟩⟩
        rw [g1, show (x : Int) + 1 = ((x + 1 : Nat) : Int) by omega]
        refine ⟨⟨by omega, by omega⟩, fun q => ?_, fun q => sX12_withoutTree W Ag hG x0 q (fun h5 F5 => ?_)⟩
        · have e := ih (x + 1) g (by omega) Fg
          rw [lDr_n (fun y => q y.1)] at e
          exact e
        · have ec : lMin (a 0) (a 4) - lMin (lUp (a 0) (x : Int)) (a 4) = lCs (a 0) (a 4) (x : Int) := rfl
          rw [ec]
          refine ⟨⟨by omega, by omega⟩, ⟨by omega, by omega⟩, ?_⟩
          have e := ih (x + 1) h5 (by omega) (Fg.trans F5)
          by_cases l : lCs (a 0) (a 4) (x : Int) ≤ (lDr (a 0) (a 4) x).2
          · rw [if_pos l, if_pos l]
            rw [lDr_n (fun y => by omega)] at e
            exact e
          · rw [if_neg l, if_neg l]
            rw [lDr_y ⟨q, by omega⟩] at e
            exact e
    exact lp 36 0 h3 rfl F3
  · have fin := hK h2 (F.M M1) (fun o ho => (F.lo o ho).trans (lo1 o ho))
    unfold fDearest at fin
    rw [if_neg (fun y => y c), if_pos z] at fin
    exact fin
  · have fin := hK h1 M1 lo1
    unfold fDearest at fin
    rw [if_pos c] at fin
    exact fin
theorem mA_21 {a h : zMm} (M : MR a h) (A : mA a h) : h 81 21 = 1 := by
  rcases M.1 with e | ⟨-, e, -⟩
  · exact e.1
  · have q := e.2.2.2.2 0 (by decide) (by decide)
    have p := (A.1.2.2.2.2 0 (by decide) (by decide)).1
    rw [q.2.2.2.2.1, q.2.1] at p
    exact absurd p (by decide)
/-- the model's cells, with other MOVES -/
theorem MR.mo {a b h g : zMm} (M : MR a h) (A : mA a h) (H : zOm a b) (F : ∀ o : Nat, o ≠ 92 → o ≠ 100 → g o = h o) (F92 : ∀ i : Int, i < 144 ∨ 192 < i → g 92 i = h 92 i) (e0 : g 92 192 = b 7 0) (em : ∀ i : Int, 0 ≤ i → i < b 7 0 → g 92 (144 + 2 * i) = b 5 i ∧ g 92 (144 + 2 * i + 1) = b 6 i) : MR b g := by
  have h21 := mA_21 M A
  obtain ⟨MG, MT, MI, MS, MO, MC⟩ := M
  obtain ⟨⟨A1, A2, A3, A4, A5⟩, A6⟩ := A
  obtain ⟨go, g7⟩ := H
  have g0 := go 0 (by decide) (by decide) (by decide)
  refine ⟨Or.inl ⟨by rw [F 81 (by decide) (by decide)]; exact h21, ⟨fun i i0 i1 => ?_, fun r r0 r7 => ?_, e0, em, fun i i0 i1 => ?_⟩, fun i i0 i1 => ?_⟩, ?_, ?_, fun k hk => ?_, ?_, ?_⟩
  · rw [F92 i (by omega), g0]; exact A1 i i0 i1
  · rw [F 88 (by decide) (by decide), go 4 (by decide) (by decide) (by decide)]; exact A2 r r0 r7
  · rw [F92 _ (by omega), F92 _ (by omega), go 1 (by decide) (by decide) (by decide), go 3 (by decide) (by decide) (by decide)]; exact A5 i i0 i1
  · rw [F92 _ (by omega), go 2 (by decide) (by decide) (by decide)]; exact A6 i i0 i1
  · unfold mT at MT ⊢
    rw [F 81 (by decide) (by decide), F 82 (by decide) (by decide), g7 1 (by decide), go 8 (by decide) (by decide) (by decide)]
    exact MT
  · unfold mI mI1 at MI ⊢
    rw [F 104 (by decide) (by decide), g7 4 (by decide), g7 5 (by decide), go 10 (by decide) (by decide) (by decide), go (10 + 1) (by decide) (by decide) (by decide), go (10 + 2) (by decide) (by decide) (by decide), go (10 + 3) (by decide) (by decide) (by decide), go (10 + 4) (by decide) (by decide) (by decide), go (10 + 5) (by decide) (by decide) (by decide), go 20 (by decide) (by decide) (by decide), go (20 + 1) (by decide) (by decide) (by decide), go (20 + 2) (by decide) (by decide) (by decide), go (20 + 3) (by decide) (by decide) (by decide), go (20 + 4) (by decide) (by decide) (by decide), go (20 + 5) (by decide) (by decide) (by decide)]
    obtain ⟨m1, m2, m3, m4⟩ := MI
    refine ⟨m1, m2, fun z => ?_, fun z => ?_⟩
    · obtain ⟨q1, q2, q3⟩ := m3 z
      refine ⟨fun i i0 i1 => ?_, ?_, fun i i0 i1 => ?_⟩
      · rw [F92 _ (by omega), F92 _ (by omega), F92 _ (by omega)]; exact q1 i i0 i1
      · rw [F92 _ (by omega)]; exact q2
      · rw [F92 _ (by omega), F92 _ (by omega)]; exact q3 i i0 i1
    · obtain ⟨q1, q2, q3⟩ := m4 z
      refine ⟨fun i i0 i1 => ?_, ?_, fun i i0 i1 => ?_⟩
      · rw [F92 _ (by omega), F92 _ (by omega), F92 _ (by omega)]; exact q1 i i0 i1
      · rw [F92 _ (by omega)]; exact q2
      · rw [F92 _ (by omega), F92 _ (by omega)]; exact q3 i i0 i1
  · rw [go 30 (by decide) (by decide) (by decide), go 31 (by decide) (by decide) (by decide), go (32 + k) (by omega) (by omega) (by omega), F 105 (by decide) (by decide), F 106 (by decide) (by decide), F 107 (by decide) (by decide)]
    exact MS k hk
  · unfold mO at MO ⊢
    rw [F 81 (by decide) (by decide), g7 2 (by decide), g7 3 (by decide)]
    exact MO
  · unfold mC at MC ⊢
    rw [F 83 (by decide) (by decide), F 84 (by decide) (by decide), F 85 (by decide) (by decide), F 86 (by decide) (by decide), F 87 (by decide) (by decide)]
    exact MC
theorem sX12_addMove0 {h : zMm} {K : zMm → Prop} {w s m : Int} (em : h 92 192 = m) (hm : 0 ≤ m ∧ m < 24) (hK : K (zU (zU (zU h 92 (144 + 2 * m) w) 92 (144 + 2 * m + 1) s) 92 192 (m + 1))) : zCv mX12_addMove [.ref 81, .int (zI w), .int (zI s)] zS0 h K := by
  have e1 : zU h 92 (144 + 2 * m) w 92 192 = m := by rw [zU_ne (by omega)]; exact em
  have e2 : zU (zU h 92 (144 + 2 * m) w) 92 (144 + 2 * m + 1) s 92 192 = m := by rw [zU_ne (by omega)]; exact e1
  refine wX12_addMove ?_
  rw [em, e1, e2]
  exact ⟨⟨by omega, by omega⟩, ⟨by omega, by omega⟩, hK⟩
theorem mAdopt {a h : zMm} {K : Int → zMm → Prop} (W : WF a) (M : MR a h) (hK : ∀ h', MR (aAdopt a) h' → zLo81 h h' → K (fAdopt a) h') : zCi mX12_adopt [.ref 81] zS0 h K := by
  have hw := fWhy_R a
  have rw0 : zR (fWhy a) := by rcases hw with e | e | e <;> rw [e] <;> decide
  have hR := W.2.1
  refine wX12_adopt (sX12_awake M (fun h1 M1 A1 lo1 => sX12_hinders W A1 (fun h2 F L => ⟨rw0, fun z => ?_, fun z => ?_⟩)))
  · obtain ⟨hG, hf⟩ := fWhy_0 z
    obtain ⟨l1, l2, l3⟩ := lLen_ok hR hG W.2.2.1 hf
    refine sX12_layWay hR hG W.2.2.1 (mPl_of (F.A A1)) (L z) hf (fun h4 G1 G2 e36 e37 e100 => ?_)
    have F4 : mWf h1 h4 := F.trans ⟨fun o o1 o2 o3 o4 => G1 o o1 o4, fun i i1 i2 i3 => G2 i i2 i3⟩
    have wr : ∀ s : Nat, s < lLen (a 0) (a 4) → 0 ≤ lWy (a 0) (a 4) s ∧ lWy (a 0) (a 4) s ≤ 3 := fun s hs => (sS_way hR hG W.2.2.1 hf (l3 s hs)).1
    have dk : ∀ s : Nat, s ≤ lLen (a 0) (a 4) → dOk (a 0) (a 4) s := fun s hs => dM_ok W z hs
    -- laying
    have l124 : dM a ≤ 24 → ∀ (n s : Nat) (g : zMm), s + n = lLen (a 0) (a 4) → (∀ o : Nat, o ≠ 92 → g o = h4 o) → (∀ i : Int, i < 144 ∨ 192 < i → g 92 i = h4 92 i) → g 92 192 = (dA (a 0) (a 4) s).1 → (∀ i : Int, 0 ≤ i → i < (dA (a 0) (a 4) s).1 → g 92 (144 + 2 * i) = (dA (a 0) (a 4) s).2.1 i ∧ g 92 (144 + 2 * i + 1) = (dA (a 0) (a 4) s).2.2 i) → RR mX12_adopt 0 0 124 [some (.ref 81), none, some (.int (zI (dM a))), none, some (.int (zI (s : Int))), none] [] zS0 g (zQi zS0 K) := by
      intro h24 n
      induction n with
      | zero =>
        intro s g hs Fg F92 em D
        obtain rfl : s = lLen (a 0) (a 4) := by omega
        refine bX12_adopt_124 ?_
        rw [Fg 81 (by decide), e36]
        refine ⟨⟨by omega, by omega⟩, ⟨by omega, by omega⟩, fun _ => ?_, fun y => absurd (Int.le_refl _) y⟩
        have e1 : aAdopt a = aAd a := if_pos ⟨z, h24⟩
        have e2 : fAdopt a = dM a := by unfold fAdopt; rw [if_neg (fun y => y z), if_pos h24]
        rw [← e2]
        refine hK g ?_ (fun o ho => (Fg o (by omega)).trans ((F4.lo o ho).trans (lo1 o ho)))
        rw [e1]
        refine (F4.M M1).mo (F4.A A1) (aAd_o a) (fun o o1 o2 => Fg o o1) F92 (em.trans (aAd_5 a 0).2.2.symm) (fun i i0 i1 => ?_)
        rw [(aAd_5 a 0).2.2] at i1
        rw [(aAd_5 a i).1, (aAd_5 a i).2.1]
        exact D i i0 i1
      | succ n ih =>
        intro s g hs Fg F92 em D
        have w := wr s (by omega)
        obtain ⟨d1, d2, d3⟩ := dk s (by omega)
        have up0 := dA_up (a 0) (a 4) s (n + 1)
        rw [show s + (n + 1) = lLen (a 0) (a 4) by omega] at up0
        have up0 : (dA (a 0) (a 4) s).1 ≤ dM a := up0
        have m24 : (dA (a 0) (a 4) s).1 ≤ 24 := by omega
        have g100 : ∀ t : Nat, t < lLen (a 0) (a 4) → g 100 (t : Int) = lWy (a 0) (a 4) t := fun t ht => by
          rw [Fg 100 (by decide)]; exact e100 t ht
        have add : ¬ (0 < (dA (a 0) (a 4) s).1 ∧ (dA (a 0) (a 4) s).2.1 ((dA (a 0) (a 4) s).1 - 1) = lWy (a 0) (a 4) s ∧ (dA (a 0) (a 4) s).2.2 ((dA (a 0) (a 4) s).1 - 1) < 5) → zCv mX12_addMove [.ref 81, .int (zI (lWy (a 0) (a 4) s)), .int (zI 1)] zS0 g (fun h24 => RR mX12_adopt 0 0 124 [some (.ref 81), none, some (.int (zI (dM a))), none, some (.int (zI ((s : Int) + 1))), none] [] zS0 h24 (zQi zS0 K)) := by
          intro q
          have e := dA_n q
          have up := dA_up (a 0) (a 4) (s + 1) n
          rw [show s + 1 + n = lLen (a 0) (a 4) by omega, e] at up
          have up : (dA (a 0) (a 4) s).1 + 1 ≤ dM a := up
          rw [show (s : Int) + 1 = ((s + 1 : Nat) : Int) by omega]
          refine sX12_addMove0 em ⟨d1.1, by omega⟩ (ih (s + 1) _ (by omega) (fun o ho => by rw [zU_off o ho, zU_off o ho, zU_off o ho]; exact Fg o ho) (fun i hi => by rw [zU_ne (by omega), zU_ne (by omega), zU_ne (by omega)]; exact F92 i hi) (by rw [e, zU_eq]) (fun i i0 i1 => ?_))
          rw [e] at i1 ⊢
          have i1 : i < (dA (a 0) (a 4) s).1 + 1 := i1
          show _ = (if i = (dA (a 0) (a 4) s).1 then lWy (a 0) (a 4) s else (dA (a 0) (a 4) s).2.1 i) ∧ _ = (if i = (dA (a 0) (a 4) s).1 then 1 else (dA (a 0) (a 4) s).2.2 i)
          by_cases c : i = (dA (a 0) (a 4) s).1
          · rw [if_pos c, if_pos c, c]
            refine ⟨?_, ?_⟩
            · rw [zU_ne (by omega), zU_ne (by omega), zU_eq]
            · rw [zU_ne (by omega), zU_eq]
          · rw [if_neg c, if_neg c]
            have d := D i i0 (by omega)
            refine ⟨?_, ?_⟩
            · rw [zU_ne (by omega), zU_ne (by omega), zU_ne (by omega)]; exact d.1
            · rw [zU_ne (by omega), zU_ne (by omega), zU_ne (by omega)]; exact d.2
        refine bX12_adopt_124 ?_
        rw [Fg 81 (by decide), e36]
        refine ⟨⟨by omega, by omega⟩, ⟨by omega, by omega⟩, fun y => absurd y (by omega), fun _ => ⟨fun s0 => ⟨⟨by omega, by omega⟩, ?_⟩, fun s0 => ⟨⟨by omega, by omega⟩, ⟨by omega, by omega⟩, ?_⟩⟩⟩
        · rw [g100 s (by omega)]
          refine add (fun y => ?_)
          have := d1.2
          omega
        · have dl := d3 (by omega)
          have p := wr (s - 1) (by omega)
          rw [g100 s (by omega), show (s : Int) - 1 = ((s - 1 : Nat) : Int) by omega, g100 (s - 1) (by omega)]
          refine ⟨⟨by omega, by omega⟩, ⟨by omega, by omega⟩, fun y => add (fun q => y (by rw [← q.2.1]; exact dl.2)), fun y => ?_⟩
          rw [em, show 144 + 2 * (dA (a 0) (a 4) s).1 - 1 = 144 + 2 * ((dA (a 0) (a 4) s).1 - 1) + 1 by omega, (D _ (by omega) (by omega)).2]
          have dd := d2 ((dA (a 0) (a 4) s).1 - 1) (by omega) (by omega)
          refine ⟨⟨by omega, by omega⟩, ⟨by omega, by omega⟩, fun q => add (fun x => by omega), fun q => ?_⟩
          have qq : 0 < (dA (a 0) (a 4) s).1 ∧ (dA (a 0) (a 4) s).2.1 ((dA (a 0) (a 4) s).1 - 1) = lWy (a 0) (a 4) s ∧ (dA (a 0) (a 4) s).2.2 ((dA (a 0) (a 4) s).1 - 1) < 5 := ⟨dl.1, by rw [dl.2, y], by omega⟩
          have e := dA_y qq
          rw [show (s : Int) + 1 = ((s + 1 : Nat) : Int) by omega]
          refine ih (s + 1) _ (by omega) (fun o ho => by rw [zU_off o ho]; exact Fg o ho) (fun i hi => by rw [zU_ne (by omega)]; exact F92 i hi) (by rw [e, zU_ne (by omega)]; exact em) (fun i i0 i1 => ?_)
          rw [e] at i1 ⊢
          have i1 : i < (dA (a 0) (a 4) s).1 := i1
          have d := D i i0 i1
          refine ⟨?_, ?_⟩
          · rw [zU_ne (by omega)]; exact d.1
          · show _ = (if i = (dA (a 0) (a 4) s).1 - 1 then (dA (a 0) (a 4) s).2.2 i + 1 else (dA (a 0) (a 4) s).2.2 i)
            by_cases c : i = (dA (a 0) (a 4) s).1 - 1
            · rw [if_pos c, c, zU_eq]
            · rw [if_neg c, zU_ne (by omega)]; exact d.2
    -- counting
    have l26 : ∀ (n s : Nat) (r : Int), s + n = lLen (a 0) (a 4) → (0 < s → r = (dA (a 0) (a 4) s).2.2 ((dA (a 0) (a 4) s).1 - 1)) → RR mX12_adopt 0 0 26 [some (.ref 81), none, some (.int (zI (dA (a 0) (a 4) s).1)), some (.int (zI r)), some (.int (zI (s : Int))), none] [] zS0 h4 (zQi zS0 K) := by
      intro n
      induction n with
      | zero =>
        intro s r hs hr
        obtain rfl : s = lLen (a 0) (a 4) := by omega
        obtain ⟨d1, d2, d3⟩ := dk (lLen (a 0) (a 4)) (Nat.le_refl _)
        refine bX12_adopt_26 ?_
        rw [e36]
        refine ⟨⟨by omega, by omega⟩, ⟨by omega, by omega⟩, fun _ => ⟨⟨by omega, by omega⟩, fun q => ?_, fun q => ?_⟩, fun y => absurd (Int.le_refl _) y⟩
        · exact l124 q (lLen (a 0) (a 4)) 0 _ (by omega) (fun o ho => zU_off o ho) (fun i hi => zU_ne (by omega)) (zU_eq _ _ _ _) (fun i i0 i1 => absurd (show i < 0 from i1) (by omega))
        · have q' : ¬ dM a ≤ 24 := q
          have e1 : aAdopt a = a := if_neg (fun y => q' y.2)
          have e2 : fAdopt a = -3 := by unfold fAdopt; rw [if_neg (fun y => y z), if_neg q']
          have fin := hK h4 (by rw [e1]; exact F4.M M1) (fun o ho => (F4.lo o ho).trans (lo1 o ho))
          rw [e2] at fin
          exact fin
      | succ n ih =>
        intro s r hs hr
        obtain ⟨d1, d2, d3⟩ := dk s (by omega)
        refine bX12_adopt_26 ?_
        rw [e36]
        refine ⟨⟨by omega, by omega⟩, ⟨by omega, by omega⟩, fun y => absurd y (by omega), fun _ => ⟨fun s0 => ?_, fun s0 => ⟨⟨by omega, by omega⟩, ⟨by omega, by omega⟩, ?_⟩⟩⟩
        · obtain rfl : s = 0 := by omega
          have e := dA_n (Kd := a 0) (R := a 4) (n := 0) (fun y => absurd (show (0 : Int) < 0 from y.1) (by decide))
          have q := ih (0 + 1) 1 (by omega) (fun _ => by rw [e]; rfl)
          rw [e] at q
          exact q
        · have dl := d3 (by omega)
          have p0 := wr s (by omega)
          have p1 := wr (s - 1) (by omega)
          have hr := hr (by omega)
          have dd := d2 ((dA (a 0) (a 4) s).1 - 1) (by omega) (by omega)
          rw [e100 s (by omega), show (s : Int) - 1 = ((s - 1 : Nat) : Int) by omega, e100 (s - 1) (by omega), show (s : Int) + 1 = ((s + 1 : Nat) : Int) by omega]
          refine ⟨⟨by omega, by omega⟩, ⟨by omega, by omega⟩, ⟨by omega, by omega⟩, ?_⟩
          by_cases y : lWy (a 0) (a 4) s = lWy (a 0) (a 4) (s - 1)
          · rw [if_pos y]
            by_cases q : 5 ≤ r
            · rw [if_pos q]
              have e := dA_n (Kd := a 0) (R := a 4) (n := s) (fun x => by omega)
              have t := ih (s + 1) 1 (by omega) (fun _ => by rw [e]; exact (if_pos (by show (dA (a 0) (a 4) s).1 + 1 - 1 = (dA (a 0) (a 4) s).1; omega)).symm)
              rw [e] at t
              exact t
            · rw [if_neg q]
              have e := dA_y (Kd := a 0) (R := a 4) (n := s) ⟨dl.1, by rw [dl.2, y], by omega⟩
              have t := ih (s + 1) (r + 1) (by omega) (fun _ => by rw [e]; exact (show r + 1 = if (dA (a 0) (a 4) s).1 - 1 = (dA (a 0) (a 4) s).1 - 1 then (dA (a 0) (a 4) s).2.2 ((dA (a 0) (a 4) s).1 - 1) + 1 else _ by rw [if_pos rfl, hr]))
              rw [e] at t
              have e0 : (dA (a 0) (a 4) s).1 + bI (if true = true then false else true) = (dA (a 0) (a 4) s).1 := Int.add_zero _
              rw [e0]
              exact t
          · rw [if_neg y]
            have e := dA_n (Kd := a 0) (R := a 4) (n := s) (fun x => y (by rw [← x.2.1]; exact dl.2))
            have t := ih (s + 1) 1 (by omega) (fun _ => by rw [e]; exact (if_pos (by show (dA (a 0) (a 4) s).1 + 1 - 1 = (dA (a 0) (a 4) s).1; omega)).symm)
            rw [e] at t
            exact t
    exact l26 (lLen (a 0) (a 4)) 0 0 (by omega) (fun y => absurd y (by decide))
  · have e1 : aAdopt a = a := if_neg (fun y => z y.1)
    have e2 : fAdopt a = fWhy a := by unfold fAdopt; rw [if_pos z]
    have fin := hK h2 (by rw [e1]; exact F.M M1) (fun o ho => (F.lo o ho).trans (lo1 o ho))
    rw [e2] at fin
    exact fin
