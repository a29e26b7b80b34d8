/-! BY CHANCE, the model's -/
def qF (h h' : zMm) : Prop := ∀ o : Nat, o ≠ 102 → o ≠ 103 → h' o = h o
theorem qF.trans {h h1 h2 : zMm} (a : qF h h1) (b : qF h1 h2) : qF h h2 := fun o c1 c2 => (b o c1 c2).trans (a o c1 c2)
theorem qF.up {h h1 : zMm} {o : Nat} {k x : Int} (a : qF h h1) (ho : o = 102 ∨ o = 103) : qF h (zU h1 o k x) := fun q c1 c2 => (zU_off q (by omega)).trans (a q c1 c2)
theorem qF.MR {a h h' : zMm} (F : qF h h') (M : MR a h) : MR a h' := by
  have e := F 81 (by decide) (by decide)
  exact M.scr (by rw [e]; exact ⟨rfl, rfl, rfl, rfl⟩) (fun o ho => F o (by omega) (by omega))
theorem qF.mA {a h h' : zMm} (F : qF h h') (A : mA a h) : mA a h' := A.to (zAll_rf a) (F 92 (by decide) (by decide)) (F 88 (by decide) (by decide))
theorem qF.lo {h h' : zMm} (F : qF h h') : zLo81 h h' := fun o ho => F o (by omega) (by omega)
def eE (f g : Int → Int) : Prop := ∀ i : Int, 0 ≤ i → i < 144 → f i = g i
theorem lSl_4 {n : Nat} (hn : n ≤ 20) : lSl 1 (2 * (n : Int)) = p4 n := by
  have : ∀ n : Fin 21, lSl 1 (2 * ((n.1 : Nat) : Int)) = p4 n.1 := by decide +kernel
  exact this ⟨n, by omega⟩
theorem odds_gcd {h : zMm} {n v5 : Int} {up : Int} {K : Int → zMm → Prop} (hn : 0 ≤ n ∧ n ≤ 20) (h5 : 0 ≤ v5 ∧ v5 ≤ 1) (hup : 0 ≤ up ∧ up ≤ 1099511627776) (hK : K (fOd up n.toNat v5) h) : ∀ (N x y : Nat), y ≤ N → x ≤ 1099511627776 → y ≤ 1099511627776 → (0 < x ∨ 0 < y) → Nat.gcd x y = Nat.gcd up.toNat (4 ^ n.toNat) → RR mX12_odds 0 0 320 [none, none, none, none, some (.int (zI n)), some (.int (zI v5)), some (.long (zJ up)), none, some (.long (zJ (x : Int))), none, some (.long (zJ (y : Int))), none, none, none] [] zS0 h (zQl zS0 K) := by
  have pr := p4_R (n := n.toNat) (by omega)
  have es : lSl 1 (2 * n) = p4 n.toNat := by
    have := lSl_4 (n := n.toNat) (by omega)
    rw [show ((n.toNat : Nat) : Int) = n by omega] at this
    exact this
  have done : ∀ x : Nat, x ≤ 1099511627776 → 0 < x → Nat.gcd x 0 = Nat.gcd up.toNat (4 ^ n.toNat) → (zR v5 ∧ ((0 ≤ (if v5 = 0 then up else (lSl 1 (2 * n))) ∧ (if v5 = 0 then up else (lSl 1 (2 * n))) < 9223372036854775808) ∧ ((0 < (x : Int) ∧ (x : Int) < 9223372036854775808) ∧ K ((if v5 = 0 then up else (lSl 1 (2 * n))) / (x : Int)) h))) := by
    intro x hx h0 hg
    rw [Nat.gcd_zero_right] at hg
    unfold fOd at hK
    rw [← hg] at hK
    rw [es]
    refine ⟨⟨by omega, by omega⟩, by split <;> exact ⟨by omega, by omega⟩, ⟨by omega, by omega⟩, hK⟩
  intro N
  induction N with
  | zero =>
    intro x y hy hx hy2 hxy hg
    have y0 : y = 0 := by omega
    subst y0
    exact bX12_odds_320 ⟨by decide, fun _ => done x hx (by omega) hg, fun z => absurd rfl z⟩
  | succ N ih =>
    intro x y hy hx hy2 hxy hg
    by_cases y0 : y = 0
    · subst y0
      exact bX12_odds_320 ⟨by decide, fun _ => done x hx (by omega) hg, fun z => absurd rfl z⟩
    · refine bX12_odds_320 ⟨⟨by omega, by omega⟩, fun z => absurd z (by omega), fun _ => ⟨⟨by omega, by omega⟩, ⟨by omega, by omega⟩, ?_⟩⟩
      have hm := Nat.mod_lt x (show 0 < y by omega)
      rw [← Int.natCast_emod]
      refine ih y (x % y) (by omega) hy2 (by omega) (Or.inl (by omega)) ?_
      rw [← hg, Nat.gcd_comm x y, Nat.gcd_rec y x, Nat.gcd_comm]
theorem odds_st {Kd p : Int → Int} {goal n v5 i : Int} {h0 : zMm} {K : Int → zMm → Prop} (hk : zKd (h0 92) Kd) (hg : 0 ≤ goal ∧ goal < 36)
    (kk : ∀ h', eE (h' 102) (pD Kd goal p 144) → qF h0 h' → RR mX12_odds 0 0 103 [some (.ref 81), none, none, some (.int (zI goal)), some (.int (zI n)), some (.int (zI v5)), some (.int (zI (i + 1))), none, none, none, none, none, none, none] [] zS0 h' (zQl zS0 K)) (h : zMm) (F : qF h0 h) (e : eE (h 102) p) : RR mX12_odds 0 0 113 [some (.ref 81), none, none, some (.int (zI goal)), some (.int (zI n)), some (.int (zI v5)), some (.int (zI i)), some (.int (zI 0)), none, none, none, none, none, none] [] zS0 h (zQl zS0 K) := by
  -- back again
  have l240 : ∀ (m k : Nat) (h1 : zMm), k + m = 144 → qF h0 h1 → eE (h1 103) (pD Kd goal p 144) → (∀ j : Int, 0 ≤ j → j < k → h1 102 j = pD Kd goal p 144 j) → RR mX12_odds 0 0 240 [some (.ref 81), none, none, some (.int (zI goal)), some (.int (zI n)), some (.int (zI v5)), some (.int (zI i)), some (.int (zI (k : Int))), none, none, none, none, none, none] [] zS0 h1 (zQl zS0 K) := by
    intro m
    induction m with
    | zero =>
      intro k h1 hk2 F1 e1 e2
      exact bX12_odds_240 ⟨⟨by omega, by omega⟩, fun _ => kk h1 (fun j j0 j1 => e2 j j0 (by omega)) F1, fun z => absurd (by omega) z⟩
    | succ m ih =>
      intro k h1 hk2 F1 e1 e2
      refine bX12_odds_240 ⟨⟨by omega, by omega⟩, fun z => absurd z (by omega), fun _ => ⟨⟨by omega, by omega⟩, ?_⟩⟩
      rw [show (k : Int) + 1 = ((k + 1 : Nat) : Int) by omega]
      refine ih (k + 1) _ (by omega) (F1.up (Or.inl rfl)) (fun j j0 j1 => by rw [zU_off 103 (by decide)]; exact e1 j j0 j1) (fun j j0 j1 => ?_)
      rw [zU_at]
      by_cases c : j = (k : Int)
      · rw [if_pos ⟨rfl, c⟩, c]
        exact e1 (k : Int) (by omega) (by omega)
      · rw [if_neg (fun z => c z.2)]
        exact e2 j j0 (by omega)
  -- all stands
  have l138 : ∀ (m k : Nat) (h1 : zMm), k + m = 144 → qF h0 h1 → eE (h1 102) p → eE (h1 103) (pD Kd goal p k) → RR mX12_odds 0 0 138 [some (.ref 81), none, none, some (.int (zI goal)), some (.int (zI n)), some (.int (zI v5)), some (.int (zI i)), some (.int (zI (k : Int))), none, none, none, none, none, none] [] zS0 h1 (zQl zS0 K) := by
    intro m
    induction m with
    | zero =>
      intro k h1 hk2 F1 e1 e2
      refine bX12_odds_138 ⟨⟨by omega, by omega⟩, fun _ => ?_, fun z => absurd (by omega) z⟩
      rw [show k = 144 by omega] at e2
      exact l240 144 0 h1 (by decide) F1 e2 (fun j j0 j1 => absurd j1 (by omega))
    | succ m ih =>
      intro k h1 hk2 F1 e1 e2
      have hc : 0 ≤ (k : Int) / 4 ∧ (k : Int) / 4 < 36 := by omega
      have hr := pTo_R (Kd := Kd) hg (k := (k : Int)) ⟨by omega, by omega⟩
      have ek := e1 (k : Int) (by omega) (by omega)
      have four : RR mX12_odds 0 0 175 [some (.ref 81), none, none, some (.int (zI goal)), some (.int (zI n)), some (.int (zI v5)), some (.int (zI i)), some (.int (zI (k : Int))), some (.int (zI (pTo Kd goal (k : Int)))), some (.int (zI 0)), none, none, none, none] [] zS0 h1 (zQl zS0 K) := by
        have next := fun h2 => ih (k + 1) h2 (by omega)
        rw [show ((k + 1 : Nat) : Int) = (k : Int) + 1 by omega] at next
        have eD : ∀ j, pD Kd goal p (k + 1) j = pOn Kd goal (k : Int) (p (k : Int)) (pD Kd goal p k) j := fun j => rfl
        by_cases c : pTo Kd goal (k : Int) = -4
        · refine bX12_odds_175 ⟨by decide, ⟨by omega, by omega⟩, fun z => absurd z (by decide), fun _ => ⟨fun z => absurd c z, fun _ => ⟨⟨by omega, by omega⟩, ⟨by omega, by omega⟩, ⟨by omega, by omega⟩, ?_⟩⟩⟩
          refine bX12_odds_175 ⟨by decide, ⟨by omega, by omega⟩, fun z => absurd z (by decide), fun _ => ⟨fun z => absurd c z, fun _ => ⟨⟨by omega, by omega⟩, ⟨by omega, by omega⟩, ⟨by omega, by omega⟩, ?_⟩⟩⟩
          refine bX12_odds_175 ⟨by decide, ⟨by omega, by omega⟩, fun z => absurd z (by decide), fun _ => ⟨fun z => absurd c z, fun _ => ⟨⟨by omega, by omega⟩, ⟨by omega, by omega⟩, ⟨by omega, by omega⟩, ?_⟩⟩⟩
          refine bX12_odds_175 ⟨by decide, ⟨by omega, by omega⟩, fun z => absurd z (by decide), fun _ => ⟨fun z => absurd c z, fun _ => ⟨⟨by omega, by omega⟩, ⟨by omega, by omega⟩, ⟨by omega, by omega⟩, ?_⟩⟩⟩
          refine bX12_odds_175 ⟨by decide, ⟨by omega, by omega⟩, fun _ => ?_, fun z => absurd z (by decide)⟩
          refine next _ ((((F1.up (Or.inr rfl)).up (Or.inr rfl)).up (Or.inr rfl)).up (Or.inr rfl)) (fun j j0 j1 => ?_) (fun j j0 j1 => ?_)
          · rw [zU_off 102 (by decide), zU_off 102 (by decide), zU_off 102 (by decide), zU_off 102 (by decide)]
            exact e1 j j0 j1
          · rw [zU_sA, zU_sA, zU_sA, zU_sA]
            simp only [zU_at, show ¬ ((102 : Nat) = 103) by decide, false_and, if_false, ek]
            rw [e2 j j0 j1, eD, pOn_at, if_pos c]
            (repeat' split) <;> omega
        · refine bX12_odds_175 ⟨by decide, ⟨by omega, by omega⟩, fun z => absurd z (by decide), fun _ => ⟨fun _ => ⟨⟨by omega, by omega⟩, ⟨by omega, by omega⟩, ⟨by omega, by omega⟩, ?_⟩, fun z => absurd z c⟩⟩
          refine bX12_odds_175 ⟨by decide, ⟨by omega, by omega⟩, fun z => absurd z (by decide), fun _ => ⟨fun _ => ⟨⟨by omega, by omega⟩, ⟨by omega, by omega⟩, ⟨by omega, by omega⟩, ?_⟩, fun z => absurd z c⟩⟩
          refine bX12_odds_175 ⟨by decide, ⟨by omega, by omega⟩, fun z => absurd z (by decide), fun _ => ⟨fun _ => ⟨⟨by omega, by omega⟩, ⟨by omega, by omega⟩, ⟨by omega, by omega⟩, ?_⟩, fun z => absurd z c⟩⟩
          refine bX12_odds_175 ⟨by decide, ⟨by omega, by omega⟩, fun z => absurd z (by decide), fun _ => ⟨fun _ => ⟨⟨by omega, by omega⟩, ⟨by omega, by omega⟩, ⟨by omega, by omega⟩, ?_⟩, fun z => absurd z c⟩⟩
          refine bX12_odds_175 ⟨by decide, ⟨by omega, by omega⟩, fun _ => ?_, fun z => absurd z (by decide)⟩
          refine next _ ((((F1.up (Or.inr rfl)).up (Or.inr rfl)).up (Or.inr rfl)).up (Or.inr rfl)) (fun j j0 j1 => ?_) (fun j j0 j1 => ?_)
          · rw [zU_off 102 (by decide), zU_off 102 (by decide), zU_off 102 (by decide), zU_off 102 (by decide)]
            exact e1 j j0 j1
          · rw [zU_sA, zU_sA, zU_sA, zU_sA]
            simp only [zU_at, show ¬ ((102 : Nat) = 103) by decide, false_and, if_false, ek]
            rw [e2 j j0 j1, eD, pOn_at, if_neg c]
            (repeat' split) <;> omega
      refine bX12_odds_138 ⟨⟨by omega, by omega⟩, fun z => absurd z (by omega), fun _ => ⟨⟨by omega, by omega⟩, ⟨by omega, by omega⟩, ⟨by omega, by omega⟩, fun c => sX12_nextOf (by rw [F1 92 (by decide) (by decide)]; exact hk) hc ⟨by omega, by omega⟩ ?_, fun c => ?_⟩⟩
      · have et : pTo Kd goal (k : Int) = zNx Kd ((k : Int) / 4) ((k : Int) % 4) := by unfold pTo; rw [if_neg c]
        rw [et] at four
        exact four
      · have et : pTo Kd goal (k : Int) = goal := by unfold pTo; rw [if_pos c]
        rw [et] at four
        exact four
  -- all to nothing
  have l113 : ∀ (m k : Nat) (h1 : zMm), k + m = 144 → qF h0 h1 → eE (h1 102) p → (∀ j : Int, 0 ≤ j → j < k → h1 103 j = 0) → RR mX12_odds 0 0 113 [some (.ref 81), none, none, some (.int (zI goal)), some (.int (zI n)), some (.int (zI v5)), some (.int (zI i)), some (.int (zI (k : Int))), none, none, none, none, none, none] [] zS0 h1 (zQl zS0 K) := by
    intro m
    induction m with
    | zero =>
      intro k h1 hk2 F1 e1 e2
      exact bX12_odds_113 ⟨⟨by omega, by omega⟩, fun _ => l138 144 0 h1 (by decide) F1 e1 (fun j j0 j1 => e2 j j0 (by omega)), fun z => absurd (by omega) z⟩
    | succ m ih =>
      intro k h1 hk2 F1 e1 e2
      refine bX12_odds_113 ⟨⟨by omega, by omega⟩, fun z => absurd z (by omega), fun _ => ⟨⟨by omega, by omega⟩, ?_⟩⟩
      rw [show (k : Int) + 1 = ((k + 1 : Nat) : Int) by omega]
      refine ih (k + 1) _ (by omega) (F1.up (Or.inr rfl)) (fun j j0 j1 => by rw [zU_off 102 (by decide)]; exact e1 j j0 j1) (fun j j0 j1 => ?_)
      rw [zU_at]
      by_cases c : j = (k : Int)
      · rw [if_pos ⟨rfl, c⟩]
      · rw [if_neg (fun z => c z.2)]
        exact e2 j j0 (by omega)
  exact l113 144 0 h (by decide) F e (fun j j0 j1 => absurd j1 (by omega))
theorem mOdds {a h : zMm} {v1 v2 v3 v4 v5 : Int} {K : Int → zMm → Prop} (M : MR a h) (r1 : zR v1) (r2 : zR v2) (r3 : zR v3) (r4 : zR v4) (r5 : zR v5) (hK : ∀ h', MR a h' → zLo81 h h' → K (fOdds a v1 v2 v3 v4 v5) h') : zCl mX12_odds [.ref 81, .int (zI v1), .int (zI v2), .int (zI v3), .int (zI v4), .int (zI v5)] zS0 h K := by
  unfold fOdds at hK
  refine wX12_odds (sX12_awake M ?_)
  intro h0 M0 A0 L0
  have no : ¬ (0 ≤ v1 ∧ v1 < 36 ∧ 0 ≤ v2 ∧ v2 ≤ 3 ∧ 0 ≤ v3 ∧ v3 < 36 ∧ 0 ≤ v4 ∧ v4 ≤ 20 ∧ 0 ≤ v5 ∧ v5 ≤ 1) → K (-1) h0 := by
    intro c
    rw [if_neg c] at hK
    exact hK h0 M0 L0
  refine sX12_isRobot r1 r2 ?_
  simp only [decide_eq_true_eq, decide_eq_false_iff_not]
  refine ⟨fun c => no (by omega), fun c => sX12_isCell r3 ?_⟩
  simp only [decide_eq_true_eq, decide_eq_false_iff_not]
  refine ⟨fun d => no (by omega), fun d => ⟨r4, sX12_in r4 (by decide) (by decide) ?_⟩⟩
  simp only [decide_eq_true_eq, decide_eq_false_iff_not]
  refine ⟨fun f => no (by omega), fun f => ⟨r5, sX12_in r5 (by decide) (by decide) ?_⟩⟩
  simp only [decide_eq_true_eq, decide_eq_false_iff_not]
  refine ⟨fun g => ⟨⟨by omega, by omega⟩, ?_⟩, fun g => no (by omega)⟩
  have k := A0.1.1 v1 (by omega) (by omega)
  rw [k.1]
  rw [if_pos (by omega)] at hK
  refine ⟨⟨by omega, by omega⟩, fun q => ?_, fun q => ?_⟩
  · rw [if_neg q] at hK
    have hs : 0 ≤ 4 * v1 + v2 ∧ 4 * v1 + v2 < 144 := by omega
    have ok := pIt_ok (Kd := a 0) d hs
    -- the sum at the goal, and the fraction
    have l280 : ∀ h1 : zMm, qF h0 h1 → eE (h1 102) (pIt (a 0) v3 v4.toNat (p0 (4 * v1 + v2))) → RR mX12_odds 0 0 280 [some (.ref 81), none, none, some (.int (zI v3)), some (.int (zI v4)), some (.int (zI v5)), some (.long (zJ 0)), none, some (.int (zI 0)), none, none, none, none, none] [] zS0 h1 (zQl zS0 K) := by
      intro h1 F1 e1
      have key := hK h1 (F1.MR M0) (L0.trans F1.lo)
      have gr := gG_le (ok v4.toNat).1 d
      rw [(ok v4.toNat).2] at gr
      have pr := p4_R (n := v4.toNat) (by omega)
      have es : lSl 1 (2 * v4) = p4 v4.toNat := by
        have := lSl_4 (n := v4.toNat) (by omega)
        rw [show ((v4.toNat : Nat) : Int) = v4 by omega] at this
        exact this
      refine bX12_odds_280 ⟨by decide, fun z => absurd z (by decide), fun _ => ⟨⟨by omega, by omega⟩, ?_⟩⟩
      refine bX12_odds_280 ⟨by decide, fun z => absurd z (by decide), fun _ => ⟨⟨by omega, by omega⟩, ?_⟩⟩
      refine bX12_odds_280 ⟨by decide, fun z => absurd z (by decide), fun _ => ⟨⟨by omega, by omega⟩, ?_⟩⟩
      refine bX12_odds_280 ⟨by decide, fun z => absurd z (by decide), fun _ => ⟨⟨by omega, by omega⟩, ?_⟩⟩
      refine bX12_odds_280 ⟨by decide, fun _ => ?_, fun z => absurd z (by decide)⟩
      have eu : 0 + h1 102 (4 * v3 + 0) + h1 102 (4 * v3 + (0 + 1)) + h1 102 (4 * v3 + (0 + 1 + 1)) + h1 102 (4 * v3 + (0 + 1 + 1 + 1)) = gG (pIt (a 0) v3 v4.toNat (p0 (4 * v1 + v2))) v3 := by
        unfold gG
        rw [e1 _ (by omega) (by omega), e1 _ (by omega) (by omega), e1 _ (by omega) (by omega), e1 _ (by omega) (by omega)]
        rw [show 4 * v3 + 0 = 4 * v3 by omega, show 4 * v3 + (0 + 1) = 4 * v3 + 1 by omega, show 4 * v3 + (0 + 1 + 1) = 4 * v3 + 2 by omega, show 4 * v3 + (0 + 1 + 1 + 1) = 4 * v3 + 3 by omega]
        omega
      rw [eu, es]
      generalize gG (pIt (a 0) v3 v4.toNat (p0 (4 * v1 + v2))) v3 = up at *
      have := odds_gcd (h := h1) (n := v4) (v5 := v5) (up := up) (K := K) f g ⟨by omega, by omega⟩ key (4 ^ v4.toNat) up.toNat (4 ^ v4.toNat) (Nat.le_refl _) (by omega) (by have : p4 v4.toNat = ((4 ^ v4.toNat : Nat) : Int) := rfl; omega) (Or.inr (Nat.pow_pos (by decide))) rfl
      rw [show ((up.toNat : Nat) : Int) = up by omega] at this
      exact this
    have l103 : ∀ (m i : Nat) (h1 : zMm), i + m = v4.toNat → qF h0 h1 → eE (h1 102) (pIt (a 0) v3 i (p0 (4 * v1 + v2))) → RR mX12_odds 0 0 103 [some (.ref 81), none, none, some (.int (zI v3)), some (.int (zI v4)), some (.int (zI v5)), some (.int (zI (i : Int))), none, none, none, none, none, none, none] [] zS0 h1 (zQl zS0 K) := by
      intro m
      induction m with
      | zero =>
        intro i h1 hi F1 e1
        refine bX12_odds_103 ⟨⟨by omega, by omega⟩, r4, fun _ => ?_, fun z => absurd (by omega) z⟩
        rw [show i = v4.toNat by omega] at e1
        exact l280 h1 F1 e1
      | succ m ih =>
        intro i h1 hi F1 e1
        refine bX12_odds_103 ⟨⟨by omega, by omega⟩, r4, fun z => absurd z (by omega), fun _ => ?_⟩
        refine odds_st (Kd := a 0) (h0 := h0) A0.1.1 d (fun h2 e2 F2 => ?_) h1 F1 e1
        rw [show (i : Int) + 1 = ((i + 1 : Nat) : Int) by omega]
        refine ih (i + 1) h2 (by omega) F2 ?_
        rw [pIt_s]
        exact e2
    have l64 : ∀ (m i : Nat) (h1 : zMm), i + m = 144 → qF h0 h1 → (∀ j : Int, 0 ≤ j → j < i → h1 102 j = p0 (4 * v1 + v2) j) → RR mX12_odds 0 0 64 [some (.ref 81), some (.int (zI v1)), some (.int (zI v2)), some (.int (zI v3)), some (.int (zI v4)), some (.int (zI v5)), some (.int (zI (i : Int))), none, none, none, none, none, none, none] [] zS0 h1 (zQl zS0 K) := by
      intro m
      induction m with
      | zero =>
        intro i h1 hi F1 e1
        exact bX12_odds_64 ⟨⟨by omega, by omega⟩, ⟨by omega, by omega⟩, fun _ => l103 v4.toNat 0 h1 (by omega) F1 (fun j j0 j1 => e1 j j0 (by omega)), fun z => absurd (by omega) z⟩
      | succ m ih =>
        intro i h1 hi F1 e1
        refine bX12_odds_64 ⟨⟨by omega, by omega⟩, ⟨by omega, by omega⟩, fun z => absurd z (by omega), fun _ => ⟨⟨by omega, by omega⟩, ?_⟩⟩
        rw [show (i : Int) + 1 = ((i + 1 : Nat) : Int) by omega]
        refine ih (i + 1) _ (by omega) (F1.up (Or.inl rfl)) (fun j j0 j1 => ?_)
        rw [zU_at]
        by_cases c : j = (i : Int)
        · rw [if_pos ⟨rfl, c⟩, c]
          rfl
        · rw [if_neg (fun z => c z.2)]
          exact e1 j j0 (by omega)
    exact l64 144 0 h0 (by decide) (fun _ _ _ => rfl) (fun j j0 j1 => absurd j1 (by omega))
  · rw [if_pos q] at hK
    exact hK h0 M0 L0
