/-! LEAST: the model lays all, follows -/
def mLy (Kd R : Int → Int) (h : zMm) : Prop := mBt Kd h ∧ (∀ k : Nat, k ≤ nA Kd → mRow Kd R h k) ∧ h 81 34 = lRk Kd 36
theorem sX12_layLeast {Kd R : Int → Int} {h : zMm} {K : Int → zMm → Prop} (hR : zRu R) (hG : lRk Kd 36 ≤ 7) (h0 : ¬ Kd (R 0) = 2) (P : mPl Kd R h) (hK : ∀ h', (∀ o : Nat, o ≠ 81 → o ≠ 98 → o ≠ 99 → h' o = h o) → (∀ i : Int, i ≠ 34 → h' 81 i = h 81 i) → mLy Kd R h' → K (lMin Kd R) h') : zCi mX12_layLeast [.ref 81] zS0 h K := by
  have hA := nA_le hG
  have hAll := lAll_n hG
  have hr0 : 0 ≤ R 0 ∧ R 0 < 36 := ⟨hR.1.1, by have := hR.1.2; omega⟩
  have hb := nb_le (Kd := Kd) hr0
  have g0 := lRk_R Kd 36
  -- the sets, from all down
  have l76 : ∀ (M : Nat) (g : zMm), M ≤ nA Kd + 1 → (∀ o : Nat, o ≠ 81 → o ≠ 98 → o ≠ 99 → g o = h o) → (∀ i : Int, i ≠ 34 → g 81 i = h 81 i) → mBt Kd g → g 81 34 = lRk Kd 36 → (∀ k : Nat, M ≤ k → k ≤ nA Kd → mRow Kd R g k) → RR mX12_layLeast 0 0 76 [some (.ref 81), some (.int (zI (nA Kd : Int))), some (.int (zI ((M : Int) + (-1)))), none] [] zS0 g (zQi zS0 K) := by
    intro M
    induction M with
    | zero =>
      intro g hM F F1 B e34 Re
      have r := Re (nb Kd (R 0)) (Nat.zero_le _) hb (R 0) 0 hr0.1 hr0.2 h0 (by decide) (by decide)
      refine bX12_layLeast_76 ?_
      rw [F 88 (by decide) (by decide) (by decide), P.2 0 (by decide) (by decide), B (R 0) hr0.1 hr0.2, lBt_n hr0 hG]
      refine ⟨by decide, fun _ => ⟨hr0, ⟨by omega, by omega⟩, ?_⟩, fun z => absurd (show (((0 : Nat) : Int) + (-1)) < 0 by decide) z⟩
      rw [show 144 * ((nb Kd (R 0) : Nat) : Int) + 4 * R 0 = 144 * ((nb Kd (R 0) : Nat) : Int) + (4 * R 0 + 0) by omega, r, ← lBt_n hr0 hG]
      exact hK g F F1 ⟨B, fun k hk => Re k (Nat.zero_le _) hk, e34⟩
    | succ M ih =>
      intro g hM F F1 B e34 Re
      have eM : ((M + 1 : Nat) : Int) + (-1) = (M : Int) := by omega
      rw [eM]
      have P' : ∀ g' : zMm, (∀ o : Nat, o ≠ 99 → g' o = g o) → mPl Kd R g' := fun g' F' => by
        unfold mPl at P ⊢
        rw [F' 92 (by decide), F' 88 (by decide), F 92 (by decide) (by decide) (by decide), F 88 (by decide) (by decide) (by decide)]
        exact P
      have B' : ∀ g' : zMm, (∀ o : Nat, o ≠ 99 → g' o = g o) → mBt Kd g' := fun g' F' => by
        unfold mBt at B ⊢
        rw [F' 98 (by decide)]
        exact B
      have l82 : ∀ (n x : Nat) (g' : zMm), x + n = 144 → (∀ o : Nat, o ≠ 99 → g' o = g o) → (∀ i : Int, ¬ (144 * (M : Int) ≤ i ∧ i < 144 * (M : Int) + 144) → g' 99 i = g 99 i) → (∀ i : Int, 0 ≤ i → i < (x : Int) → g' 99 (144 * (M : Int) + i) = (if (M : Int) = (nA Kd : Int) then 0 else 1000000)) → RR mX12_layLeast 0 0 82 [some (.ref 81), some (.int (zI (nA Kd : Int))), some (.int (zI (M : Int))), some (.int (zI (x : Int)))] [] zS0 g' (zQi zS0 K) := by
        intro n
        induction n with
        | zero =>
          intro x g' hx F' F2 D
          obtain rfl : x = 144 := by omega
          have D : ∀ i : Int, 0 ≤ i → i < 144 → g' 99 (144 * (M : Int) + i) = (if (M : Int) = (nA Kd : Int) then 0 else 1000000) := D
          have Re' : ∀ k : Nat, M < k → k ≤ nA Kd → mRow Kd R g' k := fun k k0 k1 c l c0 c1 ck l0 l1 => by
            rw [F2 _ (by omega)]
            exact Re k (by omega) k1 c l c0 c1 ck l0 l1
          refine bX12_layLeast_82 ⟨by decide, ⟨by omega, by omega⟩, ⟨by omega, by omega⟩, fun _ => ⟨fun q => ?_, fun q => ?_⟩, fun z => absurd (show (144 : Int) ≤ ((144 : Nat) : Int) by decide) z⟩
          · obtain rfl : M = nA Kd := by omega
            refine ih g' (by omega) (fun o o1 o2 o3 => (F' o o3).trans (F o o1 o2 o3)) (fun i hi => by rw [F' 81 (by decide)]; exact F1 i hi) (B' g' F') (by rw [F' 81 (by decide)]; exact e34) (fun k k0 k1 => ?_)
            by_cases e : k = nA Kd
            · intro c l c0 c1 ck l0 l1
              rw [e, D _ (by omega) (by omega), if_pos rfl, ← hAll, lM_all]
            · exact Re' k (by omega) k1
          · refine sX12_oneSet hR hG (P' g' F') (B' g' F') (by omega) Re' (fun i i0 i1 => by rw [D i i0 i1, if_neg (by omega)]) (fun g2 G1 G2 Rw => ?_)
            refine ih g2 (by omega) (fun o o1 o2 o3 => (G1 o o3).trans ((F' o o3).trans (F o o1 o2 o3))) (fun i hi => by rw [G1 81 (by decide), F' 81 (by decide)]; exact F1 i hi) ?_ (by rw [G1 81 (by decide), F' 81 (by decide)]; exact e34) (fun k k0 k1 => ?_)
            · exact B' g2 (fun o ho => (G1 o ho).trans (F' o ho))
            · by_cases e : k = M
              · rw [e]; exact Rw
              · intro c l c0 c1 ck l0 l1
                rw [G2 _ (by omega)]
                exact Re' k (by omega) k1 c l c0 c1 ck l0 l1
        | succ n im =>
          intro x g' hx F' F2 D
          refine bX12_layLeast_82 ⟨⟨by omega, by omega⟩, ⟨by omega, by omega⟩, ⟨by omega, by omega⟩, fun z => absurd z (by omega), fun _ => ⟨⟨by omega, by omega⟩, ?_⟩⟩
          rw [show (x : Int) + 1 = ((x + 1 : Nat) : Int) by omega]
          refine im (x + 1) _ (by omega) (fun o ho => (zU_off o ho).trans (F' o ho)) (fun i hi => (zU_ne (by omega)).trans (F2 i hi)) (fun i i0 i1 => ?_)
          by_cases e : i = (x : Int)
          · rw [e, zU_eq]
          · rw [zU_ne (by omega)]; exact D i i0 (by omega)
      refine bX12_layLeast_76 ⟨⟨by omega, by omega⟩, fun z => absurd z (by omega), fun _ => ?_⟩
      exact l82 144 0 g rfl (fun _ _ => rfl) (fun _ _ => rfl) (fun i i0 i1 => absurd i1 (by omega))
  -- the bits
  have l7 : ∀ (n c : Nat) (g : zMm), c + n = 36 → (∀ o : Nat, o ≠ 81 → o ≠ 98 → o ≠ 99 → g o = h o) → (∀ i : Int, i ≠ 34 → g 81 i = h 81 i) → g 81 34 = lRk Kd c → (∀ x : Int, 0 ≤ x → x < (c : Int) → g 98 x = lBt Kd x) → RR mX12_layLeast 0 0 7 [some (.ref 81), some (.int (zI (c : Int))), none, none] [] zS0 g (zQi zS0 K) := by
    intro n
    induction n with
    | zero =>
      intro c g hc F F1 e34 D
      obtain rfl : c = 36 := by omega
      refine bX12_layLeast_7 ⟨by decide, fun _ => ?_, fun z => absurd (show (36 : Int) ≤ ((36 : Nat) : Int) by decide) z⟩
      rw [e34]
      have z := l76 (nA Kd + 1) g (Nat.le_refl _) F F1 D e34 (fun k k0 k1 => absurd k1 (by omega))
      rw [show ((nA Kd + 1 : Nat) : Int) + (-1) = (nA Kd : Int) by omega, ← hAll] at z
      exact z
    | succ n ih =>
      intro c g hc F F1 e34 D
      have c0 : (0 : Int) ≤ c ∧ (c : Int) < 36 := ⟨by omega, by omega⟩
      have Kg : zKd (g 92) Kd := by rw [F 92 (by decide) (by decide) (by decide)]; exact P.1
      refine bX12_layLeast_7 ⟨⟨by omega, by omega⟩, fun z => absurd z (by omega), fun _ => sX12_isGrass Kg c0 ⟨c0, sX12_isGrass (by rw [zU_off 92 (by decide)]; exact Kg) c0 ?_⟩⟩
      rw [e34, show (c : Int) + 1 = ((c + 1 : Nat) : Int) by omega]
      refine ih (c + 1) _ (by omega) (fun o o1 o2 o3 => by rw [zU_off o o1, zU_off o o2]; exact F o o1 o2 o3) (fun i hi => by rw [zU_81 hi, zU_off 81 (by decide)]; exact F1 i hi) ?_ (fun x x0 x1 => ?_)
      · rw [zU_eq]
        by_cases q : Kd (c : Int) ≤ 1
        · rw [lRk_y q, decide_eq_true q]; rfl
        · rw [lRk_o q, decide_eq_false q]; exact Int.add_zero _
      · rw [zU_off 98 (by decide)]
        by_cases e : x = (c : Int)
        · rw [e, zU_eq]
          unfold lBt
          rw [Int.toNat_natCast]
          by_cases q : Kd (c : Int) ≤ 1
          · rw [if_pos q, if_pos (decide_eq_true q)]
          · rw [if_neg q, if_neg (by rw [decide_eq_false q]; decide)]
        · rw [zU_ne (fun z => e z.2)]; exact D x x0 (by omega)
  exact wX12_layLeast (l7 36 0 _ rfl (fun o o1 o2 o3 => zU_off o o1) (fun i hi => zU_81 hi) (zU_eq _ _ _ _) (fun x x0 x1 => absurd x1 (by omega)))
theorem sX12_layWay {Kd R : Int → Int} {h : zMm} {K : zMm → Prop} (hR : zRu R) (hG : lRk Kd 36 ≤ 7) (h0 : ¬ Kd (R 0) = 2) (P : mPl Kd R h) (L : mLy Kd R h) (hf : lMin Kd R < 1000000) (hK : ∀ h', (∀ o : Nat, o ≠ 81 → o ≠ 100 → h' o = h o) → (∀ i : Int, i ≠ 36 → i ≠ 37 → h' 81 i = h 81 i) → h' 81 36 = ((lLen Kd R : Nat) : Int) → h' 81 37 = sQ Kd R (lLen Kd R) → (∀ s : Nat, s < lLen Kd R → h' 100 (s : Int) = lWy Kd R s) → K h') : zCv mX12_layWay [.ref 81] zS0 h K := by
  have hA := nA_le hG
  have hAll := lAll_n hG
  have hr0 : 0 ≤ R 0 ∧ R 0 < 36 := ⟨hR.1.1, by have := hR.1.2; omega⟩
  obtain ⟨l1, l2, l3⟩ := lLen_ok hR hG h0 hf
  obtain ⟨B, Rw, e34⟩ := L
  have lp : ∀ (n s : Nat) (g : zMm), s + n = lLen Kd R → (∀ o : Nat, o ≠ 81 → o ≠ 100 → g o = h o) → (∀ i : Int, i ≠ 36 → i ≠ 37 → g 81 i = h 81 i) → g 81 36 = (s : Int) → g 81 37 = sQ Kd R s → (∀ t : Nat, t < s → g 100 (t : Int) = lWy Kd R t) → RR mX12_layWay 0 0 41 [some (.ref 81), some (.int (zI (sM Kd R s))), some (.int (zI (sC Kd R s))), some (.int (zI (sL Kd R s))), some (.int (zI (lAll Kd))), none, none] [] zS0 g (zQv zS0 K) := by
    intro n
    induction n with
    | zero =>
      intro s g hs F F1 e36 e37 D
      obtain rfl : s = lLen Kd R := by omega
      refine bX12_layWay_41 ?_
      rw [l2, hAll]
      exact ⟨⟨by omega, by omega⟩, ⟨by omega, by omega⟩, fun _ => hK g F F1 e36 e37 D, fun z => absurd rfl z⟩
    | succ n ih =>
      intro s g hs F F1 e36 e37 D
      have hm := l3 s (by omega)
      obtain ⟨dd, hfs⟩ := sS_ok hR hG h0 hf s
      obtain ⟨w1, w2, w3⟩ := sS_way hR hG h0 hf hm
      obtain ⟨n1, n2, n3, n4⟩ := sS_no hm
      obtain ⟨f1, f2, f3, f4⟩ := lFw_ok hR hm hfs
      have ew : lFw Kd R (sM Kd R s) (sC Kd R s) (sL Kd R s) = lWy Kd R s := rfl
      rw [ew] at f1 f2 f3 f4
      obtain ⟨d, ed, d2, d3, d4, -⟩ := id dd
      rw [ed] at hfs hm f3 f4 n1 ⊢
      have Pg : mPl Kd R g := by
        unfold mPl at P ⊢
        rw [F 92 (by decide) (by decide), F 88 (by decide) (by decide)]
        exact P
      have Bg : mBt Kd g := by
        unfold mBt at B ⊢
        rw [F 98 (by decide) (by decide)]
        exact B
      have here := Rw d d2 (sC Kd R s) (sL Kd R s) d3.1 d3.2.1 d3.2.2 d4.1 d4.2
      have mh := lM_R (Kd := Kd) hR (d : Int) (sC Kd R s) (sL Kd R s)
      have l63 : ∀ (m : Nat) (v : Int), 0 ≤ v → v + (m : Int) = lWy Kd R s → RR mX12_layWay 0 0 63 [some (.ref 81), some (.int (zI (d : Int))), some (.int (zI (sC Kd R s))), some (.int (zI (sL Kd R s))), some (.int (zI (lAll Kd))), some (.int (zI v)), some (.int (zI (144 * (d : Int) + (4 * sC Kd R s + sL Kd R s))))] [] zS0 g (zQv zS0 K) := by
        intro m
        induction m with
        | zero =>
          intro v v0 hv
          obtain rfl : v = lWy Kd R s := by omega
          refine bX12_layWay_63 (sX12_nextOf Pg.1 ⟨d3.1, d3.2.1⟩ f1 ?_)
          rcases zNx_R (Kd := Kd) (way := lWy Kd R s) (show 0 ≤ sC Kd R s ∧ sC Kd R s < 36 from ⟨d3.1, d3.2.1⟩) with z | ⟨z1, z2, z3⟩
          · omega
          · have le := nA_or d2 (nb_le (Kd := Kd) (c := zNx Kd (sC Kd R s) (lWy Kd R s)) ⟨z1, z2⟩)
            have r := Rw _ le _ _ z1 z2 z3 f1.1 f1.2
            have mr := lM_R (Kd := Kd) hR ((d ||| nb Kd (zNx Kd (sC Kd R s) (lWy Kd R s)) : Nat) : Int) (zNx Kd (sC Kd R s) (lWy Kd R s)) (lWy Kd R s)
            have hco := lCo_R (Kd := Kd) hR (sC Kd R s) (sL Kd R s) (lWy Kd R s)
            refine ⟨⟨by omega, by omega⟩, fun y => absurd y (by omega), fun _ => sX12_stepCost Pg ⟨d3.1, d3.2.1⟩ f1 z1 (sX12_behind hG Pg Bg d2 ⟨d3.1, d3.2.1⟩ f1 z1 ?_)⟩
            rw [F 99 (by decide) (by decide), here, r]
            rw [nA_bt hG d2 ⟨z1, z2⟩] at f3 n1
            refine ⟨⟨by omega, by omega⟩, ⟨by omega, by omega⟩, ⟨by omega, by omega⟩, ⟨by omega, by omega⟩, fun _ => sX12_quarters ?_, fun y => absurd f3 y⟩
            rw [e36, e37]
            refine ⟨⟨by omega, by omega⟩, sX12_nextOf ?_ ⟨d3.1, d3.2.1⟩ f1 ⟨⟨z1, z2⟩, ?_⟩⟩
            · rw [zU_off 92 (by decide), zU_off 92 (by decide), zU_off 92 (by decide)]; exact Pg.1
            · rw [zU_off 98 (by decide), zU_off 98 (by decide), zU_off 98 (by decide), Bg _ z1 z2, nA_bt hG d2 ⟨z1, z2⟩, ← n1, ← n2, ← n4, show (s : Int) + 1 = ((s + 1 : Nat) : Int) by omega]
              have z := ih (s + 1) (zU (zU (zU g 81 37 (sQ Kd R (s + 1))) 100 (s : Int) (lWy Kd R s)) 81 36 ((s + 1 : Nat) : Int)) (by omega) (fun o o1 o2 => by rw [zU_off o o1, zU_off o o2, zU_off o o1]; exact F o o1 o2) (fun i i1 i2 => by rw [zU_81 i1, zU_off 81 (by decide), zU_81 i2]; exact F1 i i1 i2) (zU_eq _ _ _ _) (by rw [zU_81 (by decide), zU_off 81 (by decide), zU_eq]) (fun t ht => by
                rw [zU_off 100 (by decide)]
                by_cases c : t = s
                · rw [c, zU_eq]
                · rw [zU_ne (by omega), zU_off 100 (by decide)]; exact D t (by omega))
              rw [n3] at z
              exact z
        | succ m im =>
          intro v v0 hv
          have v3 : v ≤ 3 := by omega
          refine bX12_layWay_63 (sX12_nextOf Pg.1 ⟨d3.1, d3.2.1⟩ ⟨v0, v3⟩ ?_)
          rcases zNx_R (Kd := Kd) (way := v) (show 0 ≤ sC Kd R s ∧ sC Kd R s < 36 from ⟨d3.1, d3.2.1⟩) with z | ⟨z1, z2, z3⟩
          · exact ⟨⟨by omega, by omega⟩, fun _ => im (v + 1) (by omega) (by omega), fun y => absurd z y⟩
          · have le := nA_or d2 (nb_le (Kd := Kd) (c := zNx Kd (sC Kd R s) v) ⟨z1, z2⟩)
            have r := Rw _ le _ _ z1 z2 z3 v0 v3
            have mr := lM_R (Kd := Kd) hR ((d ||| nb Kd (zNx Kd (sC Kd R s) v) : Nat) : Int) (zNx Kd (sC Kd R s) v) v
            have hco := lCo_R (Kd := Kd) hR (sC Kd R s) (sL Kd R s) v
            refine ⟨⟨by omega, by omega⟩, fun y => absurd y (by omega), fun _ => sX12_stepCost Pg ⟨d3.1, d3.2.1⟩ ⟨v0, v3⟩ z1 (sX12_behind hG Pg Bg d2 ⟨d3.1, d3.2.1⟩ ⟨v0, v3⟩ z1 ?_)⟩
            rw [F 99 (by decide) (by decide), here, r]
            have nf := f4 v v0 (by omega)
            rw [nA_bt hG d2 ⟨z1, z2⟩] at nf
            exact ⟨⟨by omega, by omega⟩, ⟨by omega, by omega⟩, ⟨by omega, by omega⟩, ⟨by omega, by omega⟩, fun y => absurd ⟨z1, y⟩ nf, fun _ => im (v + 1) (by omega) (by omega)⟩
      refine bX12_layWay_41 ⟨⟨by omega, by omega⟩, by rw [hAll]; exact ⟨by omega, by omega⟩, fun z => absurd z hm, fun _ => ?_⟩
      rw [show 144 * (d : Int) + 4 * sC Kd R s + sL Kd R s = 144 * (d : Int) + (4 * sC Kd R s + sL Kd R s) by omega]
      exact l63 (lWy Kd R s).toNat 0 (Int.le_refl _) (by omega)
  refine wX12_layWay ?_
  rw [P.2 0 (by decide) (by decide), B (R 0) hr0.1 hr0.2, e34]
  refine ⟨hr0, ?_⟩
  exact lp (lLen Kd R) 0 (zU (zU h 81 36 0) 81 37 0) (by omega) (fun o o1 o2 => by rw [zU_off o o1, zU_off o o1]) (fun i i1 i2 => by rw [zU_81 i2, zU_81 i1]) (by rw [zU_81 (by decide), zU_eq]; rfl) (zU_eq _ _ _ _) (fun t ht => absurd ht (by omega))
/-- the model's scratch of LEAST -/
def mWf (h g : zMm) : Prop := (∀ o : Nat, o ≠ 81 → o ≠ 98 → o ≠ 99 → o ≠ 100 → g o = h o) ∧ ∀ i : Int, i ≠ 34 → i ≠ 36 → i ≠ 37 → g 81 i = h 81 i
theorem mWf.rf (h : zMm) : mWf h h := ⟨fun _ _ _ _ _ => rfl, fun _ _ _ _ => rfl⟩
theorem mWf.trans {h g k : zMm} (F : mWf h g) (G : mWf g k) : mWf h k := ⟨fun o o1 o2 o3 o4 => (G.1 o o1 o2 o3 o4).trans (F.1 o o1 o2 o3 o4), fun i i1 i2 i3 => (G.2 i i1 i2 i3).trans (F.2 i i1 i2 i3)⟩
theorem mWf.M {a h g : zMm} (F : mWf h g) (M : MR a h) : MR a g := M.scr ⟨F.2 1 (by decide) (by decide) (by decide), F.2 2 (by decide) (by decide) (by decide), F.2 21 (by decide) (by decide) (by decide), F.2 50 (by decide) (by decide) (by decide)⟩ (fun o ho => F.1 o (by omega) (by omega) (by omega) (by omega))
theorem mWf.A {a h g : zMm} (F : mWf h g) (A : mA a h) : mA a g := by
  unfold mA zGm at A ⊢
  rw [F.1 92 (by decide) (by decide) (by decide) (by decide), F.1 88 (by decide) (by decide) (by decide) (by decide)]
  exact A
theorem mWf.lo {h g : zMm} (F : mWf h g) : zLo81 h g := fun o ho => F.1 o (by omega) (by omega) (by omega) (by omega)
theorem mPl_of {a h : zMm} (A : mA a h) : mPl (a 0) (a 4) h := ⟨A.1.1, A.1.2.1⟩
theorem sX12_hinders {a h : zMm} {K : Int → zMm → Prop} (W : WF a) (A : mA a h) (hK : ∀ h', mWf h h' → (fWhy a = 0 → mLy (a 0) (a 4) h') → K (fWhy a) h') : zCi mX12_hinders [.ref 81] zS0 h K := by
  have mR := lMin_R (Kd := a 0) W.2.1
  have g0 := lRk_R (a 0) 36
  refine wX12_hinders (sX12_grassMany A.1.1 ?_)
  rw [← lRk_is]
  refine ⟨⟨by omega, by omega⟩, fun c => sX12_layLeast W.2.1 c W.2.2.1 (mPl_of A) (fun h1 F1 F2 L => ⟨⟨by omega, by omega⟩, ?_⟩), fun c => ?_⟩
  · have fin := hK h1 ⟨fun o o1 o2 o3 o4 => F1 o o1 o2 o3, fun i i1 i2 i3 => F2 i i1⟩ (fun _ => L)
    unfold fWhy at fin
    rw [if_pos c] at fin
    exact fin
  · have fin := hK h (mWf.rf h) (fun z => absurd (fWhy_0 z).1 c)
    unfold fWhy at fin
    rw [if_neg c] at fin
    exact fin
theorem sX12_withoutTree {a h : zMm} {c : Int} {K : Int → zMm → Prop} (W : WF a) (A : mA a h) (hG : lRk (a 0) 36 ≤ 7) (hc : 0 ≤ c ∧ c < 36) (hk : a 0 c = 2) (hK : ∀ h', mWf h h' → K (lMin (lUp (a 0) c) (a 4)) h') : zCi mX12_withoutTree [.ref 81, .int (zI c)] zS0 h K := by
  have hne : a 4 0 ≠ c := fun z => W.2.2.1 (by rw [z]; exact hk)
  have P : mPl (lUp (a 0) c) (a 4) (zU h 92 c 3) := by
    refine ⟨fun i i0 i1 => ?_, fun r r0 r7 => ?_⟩
    · by_cases q : i = c
      · rw [q, zU_eq, lUp_d]; exact ⟨rfl, by decide, by decide⟩
      · rw [zU_ne (fun z => q z.2), lUp_o q]; exact A.1.1 i i0 i1
    · rw [zU_off 88 (by decide)]; exact A.1.2.1 r r0 r7
  refine wX12_withoutTree ⟨⟨by omega, by omega⟩, sX12_layLeast W.2.1 (by rw [lRk_lUp hk]; exact hG) (by rw [lUp_o hne]; exact W.2.2.1) P (fun h1 F1 F2 _ => ?_)⟩
  refine hK _ ⟨fun o o1 o2 o3 o4 => ?_, fun i i1 i2 i3 => ?_⟩
  · by_cases e : o = 92
    · subst e
      funext i
      rw [zU_at]
      split
      · rename_i z
        rw [z.2, (A.1.1 c hc.1 hc.2).1, hk]
      · rename_i z
        rw [F1 92 (by decide) (by decide) (by decide), zU_ne z]
    · rw [zU_off o e, F1 o o1 o2 o3, zU_off o e]
  · rw [zU_off 81 (by decide), F2 i i1, zU_off 81 (by decide)]
