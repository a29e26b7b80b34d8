/-! THE CORD, the model's; cord, trips -/
def kZ (x : Int) : Int := if x = 0 then -4 else x
def kM (q h : zMm) : Prop := h 81 27 = q 0 0 ∧ h 81 28 = q 0 1 ∧ h 81 29 = q 0 2 ∧ h 81 30 = kZ (q 0 3) ∧ h 81 31 = kZ (q 0 4) ∧ ∀ j : Int, 0 ≤ j → j < q 0 0 → h 97 j = q 1 j
def kG (h h' : zMm) : Prop := (∀ o : Nat, o ≠ 81 → o ≠ 97 → h' o = h o) ∧ ∀ i : Int, ¬ (27 ≤ i ∧ i ≤ 31) → h' 81 i = h 81 i
theorem kG.rf (h : zMm) : kG h h := ⟨fun _ _ _ => rfl, fun _ _ => rfl⟩
theorem kG.trans {h h1 h2 : zMm} (a : kG h h1) (b : kG h1 h2) : kG h h2 := ⟨fun o c1 c2 => (b.1 o c1 c2).trans (a.1 o c1 c2), fun i ci => (b.2 i ci).trans (a.2 i ci)⟩
theorem kG.f {h h1 : zMm} {k x : Int} (a : kG h h1) (hk : 27 ≤ k ∧ k ≤ 31) : kG h (zU h1 81 k x) := ⟨fun o c1 c2 => (zU_off o c1).trans (a.1 o c1 c2), fun i ci => by rw [zU_ne (by omega)]; exact a.2 i ci⟩
theorem kG.r {h h1 : zMm} {k x : Int} (a : kG h h1) : kG h (zU h1 97 k x) := ⟨fun o c1 c2 => (zU_off o c2).trans (a.1 o c1 c2), fun i ci => by rw [zU_off 81 (by decide)]; exact a.2 i ci⟩
theorem kG.MR {a h h' : zMm} (F : kG h h') (M : MR a h) : MR a h' := M.scr ⟨F.2 1 (by omega), F.2 2 (by omega), F.2 21 (by omega), F.2 50 (by omega)⟩ (fun o ho => F.1 o (by omega) (by omega))
theorem kG.lo {h h' : zMm} (F : kG h h') : zLo81 h h' := fun o ho => F.1 o (by omega) (by omega)
theorem kZ_R {t x : Int} (h : 0 ≤ x ∧ x ≤ t) : -4 ≤ kZ x ∧ kZ x ≤ t ∧ (kZ x = -4 ↔ x = 0) := by
  unfold kZ
  split <;> omega
theorem laycord_in {a h0 : zMm} {m t s2 c : Int} {q : zMm} {K : zMm → Prop} (ok : kOk t q) (ht : 0 ≤ t ∧ t < 120) (hm : 1 ≤ m ∧ m ≤ 99) (hs2 : zR s2) (hc : 0 ≤ c ∧ c < 36) (h : zMm) (M : kM q h) (F : kG h0 h) (e5 : h 88 5 = m) (hn : ¬ (2 ≤ q 0 0 ∧ q 1 (q 0 0 - 2) = c))
    (kk : ∀ h', kM (kOne m (t + 1) c q) h' → kG h0 h' → RR mX12_layCord 0 0 41 [some (.ref 81), some (.int (zI s2)), some (.int (zI (t + 1 + 1))), none, none, none] [] zS0 h' (zQv zS0 K)) : ∀ (n k : Nat), k + n = (q 0 0).toNat → RR mX12_layCord 0 0 95 [some (.ref 81), some (.int (zI s2)), some (.int (zI (t + 1))), some (.int (zI c)), some (.int (zI (bI (decide (0 < kCt q c k))))), some (.int (zI (k : Int)))] [] zS0 h (zQv zS0 K) := by
  obtain ⟨b1, b2, b3, b4, b5, b6⟩ := id ok
  obtain ⟨e1, e2, e3, e4, e45, e6⟩ := id M
  intro n
  induction n with
  | zero =>
    intro k hk
    have z3 := kZ_R b4
    have z4 := kZ_R b5
    refine bX12_layCord_95 ⟨⟨by omega, by omega⟩, by rw [e1]; exact ⟨by omega, by omega⟩, bI_R _, fun _ => ?_, fun d => absurd (by rw [e1]; omega) d⟩
    rw [e1, e2, e3, e4, e45, e5]
    refine ⟨⟨by omega, by omega⟩, ⟨by omega, by omega⟩, ⟨by omega, by omega⟩, ⟨by omega, by omega⟩, ⟨by omega, by omega⟩, ⟨by omega, by omega⟩, ?_⟩
    refine kk _ ?_ ((((((F.f (by decide)).f (by decide)).r).f (by decide)).f (by decide)).f (by decide))
    have hkq : (q 0 0).toNat = k := by omega
    unfold kOne
    rw [if_neg hn, hkq]
    -- what is crossed
    have key : ∀ q1 : zMm, q1 0 0 = q 0 0 → q1 1 = q 1 → q1 0 2 = q 0 2 → q1 0 4 = q 0 4 → (∀ x y : Int, x = q1 0 1 → y = kZ (q1 0 3) → kM (kFin m (t + 1) (kPu c q1)) (zU (zU (zU (zU (zU (zU h 81 28 x) 81 30 y) 97 (q 0 0) c) 81 27 (q 0 0 + 1)) 81 29 (if (q 0 0 + 1) - 1 ≤ q 0 2 then q 0 2 else (q 0 0 + 1) - 1)) 81 31 (if (q 0 0 + 1) - 1 ≤ m then kZ (q 0 4) else (if kZ (q 0 4) = -4 then t + 1 else kZ (q 0 4))))) := by
      intro q1 g1 g2 g3 g4 x y ex ey
      obtain ⟨f1, f2, f3, f4, f5, f6⟩ := kFin_at m (t + 1) (kPu c q1)
      obtain ⟨p1, p2, p3⟩ := kPu_at c q1
      rw [p1, g1] at f1 f4 f6
      rw [p2 1 (by decide)] at f3
      rw [p2 2 (by decide), g3] at f4
      rw [p2 3 (by decide)] at f5
      rw [p2 4 (by decide), g4] at f6
      refine ⟨?_, ?_, ?_, ?_, ?_, fun j j0 j1 => ?_⟩
      · rw [f1, zU_ne (by omega), zU_ne (by omega), zU_eq]
      · rw [f3, zU_ne (by omega), zU_ne (by omega), zU_ne (by omega), zU_off 81 (by decide), zU_ne (by omega), zU_eq, ex]
      · rw [f4, zU_ne (by omega), zU_eq]
        split <;> omega
      · rw [f5, zU_ne (by omega), zU_ne (by omega), zU_ne (by omega), zU_off 81 (by decide), zU_eq, ey]
      · rw [f6, zU_eq]
        by_cases c1 : q 0 0 + 1 - 1 ≤ m
        · rw [if_pos c1, if_neg (by omega)]
        · rw [if_neg c1]
          by_cases c2 : q 0 4 = 0
          · rw [if_pos (z4.2.2.2 c2), if_pos ⟨by omega, c2⟩]
            unfold kZ
            rw [if_neg (by omega)]
          · rw [if_neg (fun z => c2 (z4.2.2.1 z)), if_neg (fun z => c2 z.2)]
      · rw [f1] at j1
        rw [f2, p3, g1, g2, zU_off 97 (by decide), zU_off 97 (by decide), zU_off 97 (by decide), zU_at, zU_off 97 (by decide), zU_off 97 (by decide)]
        simp only [true_and]
        by_cases cj : j = q 0 0
        · rw [if_pos cj, if_pos cj]
        · rw [if_neg cj, if_neg cj]
          exact e6 j j0 (by omega)
    by_cases cr : 0 < kCt q c k
    · rw [decide_eq_true cr, if_pos cr]
      obtain ⟨r1, r2, r3, r4, r5, r6⟩ := kCr_at (t + 1) q
      refine key _ r1 r2 r4 r6 _ _ ?_ ?_
      · rw [r3]
        rfl
      · rw [if_neg (by decide), r5]
        by_cases c2 : q 0 3 = 0
        · rw [if_pos (z3.2.2.2 c2), if_pos c2]
          unfold kZ
          rw [if_neg (by omega)]
        · rw [if_neg (fun z => c2 (z3.2.2.1 z)), if_neg c2]
    · rw [decide_eq_false cr, if_neg cr]
      refine key _ rfl rfl rfl rfl _ _ ?_ ?_
      · exact Int.add_zero _
      · rw [if_pos (show bI false = 0 from rfl)]
  | succ n ih =>
    intro k hk
    have ek := e6 (k : Int) (by omega) (by omega)
    have b6k := b6 (k : Int) (by omega) (by omega)
    have hct := zN36_R (fun j => decide (q 1 j = c)) k
    have hct2 : 0 ≤ kCt q c k := hct.1
    have es : kCt q c (k + 1) = if decide (q 1 (k : Int) = c) = true then kCt q c k + 1 else kCt q c k := rfl
    refine bX12_layCord_95 ⟨⟨by omega, by omega⟩, by rw [e1]; exact ⟨by omega, by omega⟩, bI_R _, fun d => absurd d (by rw [e1]; omega), fun _ => ⟨fun d => ?_, fun d => ⟨⟨by omega, by omega⟩, ?_⟩⟩⟩
    · have d1 : 0 < kCt q c k := of_decide_eq_true (bI_n.1 d)
      have := ih (k + 1) (by omega)
      rw [decide_eq_true (by rw [es]; split <;> omega : 0 < kCt q c (k + 1)), show ((k + 1 : Nat) : Int) = (k : Int) + 1 by omega] at this
      exact this
    · have d1 : ¬ 0 < kCt q c k := of_decide_eq_false (bI_0.1 d)
      rw [ek]
      refine ⟨⟨by omega, by omega⟩, ⟨by omega, by omega⟩, ?_⟩
      have := ih (k + 1) (by omega)
      rw [show ((k + 1 : Nat) : Int) = (k : Int) + 1 by omega] at this
      have eb : decide (0 < kCt q c (k + 1)) = (if q 1 (k : Int) = c then true else false) := by
        rw [es]
        by_cases cx : q 1 (k : Int) = c
        · rw [if_pos (decide_eq_true cx), if_pos cx]
          exact decide_eq_true (by omega)
        · rw [if_neg (fun z => cx (of_decide_eq_true z)), if_neg cx]
          exact decide_eq_false d1
      rw [eb] at this
      exact this
theorem sX12_layCord {a h : zMm} {s2 b : Int} {K : zMm → Prop} (W : WF a) (M : MR a h) (hG : gMG h (gW a 0 b)) (hb : 0 ≤ b ∧ b ≤ 2160) (hs2 : 0 ≤ s2 ∧ s2 ≤ gW a 0 b 22 4) (hK : ∀ h', kM (kSt (a 4 5) (a 4 0) (gW a 0 b 96) s2.toNat) h' → kG h h' → K h') : zCv mX12_layCord [.ref 81, .int (zI s2)] zS0 h K := by
  have W0 := W.2.1.1
  have hR5 : 1 ≤ a 4 5 ∧ a 4 5 ≤ 99 := W.2.1.2.2.2.2.2.1
  have ok := W.ok (t := 0) (b := b) (by decide) hb
  have h4 := ok.2.2.2.1
  have pW := kPa_W (t := 0) (b := b) W
  have e0 : h 88 0 = a 4 0 := M.rule 0 (by decide) (by decide)
  have e5 : h 88 5 = a 4 5 := M.rule 5 (by decide) (by decide)
  have hp := hG.2.2.2.2.2.2.2.2.2.2
  refine wX12_layCord ?_
  rw [e0]
  have key : ∀ (n : Nat) (t : Int) (h1 : zMm), 0 ≤ t → t + n = s2 → kM (kSt (a 4 5) (a 4 0) (gW a 0 b 96) t.toNat) h1 → kG h h1 → RR mX12_layCord 0 0 41 [some (.ref 81), some (.int (zI s2)), some (.int (zI (t + 1))), none, none, none] [] zS0 h1 (zQv zS0 K) := by
    intro n
    induction n with
    | zero =>
      intro t h1 t0 tn M1 F1
      refine bX12_layCord_41 ⟨⟨by omega, by omega⟩, ⟨by omega, by omega⟩, fun _ => ?_, fun d => absurd (by omega) d⟩
      rw [show s2.toNat = t.toNat by omega] at hK
      exact hK h1 M1 F1
    | succ n ih =>
      intro t h1 t0 tn M1 F1
      have okq : kOk t (kSt (a 4 5) (a 4 0) (gW a 0 b 96) t.toNat) := by
        have := kSt_ok (m := a 4 5) (s := a 4 0) ⟨by omega, by omega⟩ (p := gW a 0 b 96) t.toNat (fun j j0 j1 => pW.1 j j0 (by omega))
        rw [show ((t.toNat : Nat) : Int) = t by omega] at this
        exact this
      have est : kSt (a 4 5) (a 4 0) (gW a 0 b 96) (t + 1).toNat = kOne (a 4 5) (t + 1) (gW a 0 b 96 (t + 1)) (kSt (a 4 5) (a 4 0) (gW a 0 b 96) t.toNat) := by
        rw [show (t + 1).toNat = t.toNat + 1 by omega]
        show kOne (a 4 5) (((t.toNat : Nat) : Int) + 1) (gW a 0 b 96 (((t.toNat : Nat) : Int) + 1)) _ = _
        rw [show ((t.toNat : Nat) : Int) = t by omega]
      have ih' := fun h2 z1 z2 => ih (t + 1) h2 (by omega) (by omega) z1 z2
      rw [est] at ih'
      have ec : h1 96 (t + 1) = gW a 0 b 96 (t + 1) := by
        rw [F1.1 96 (by decide) (by decide)]
        exact hp (t + 1) (by omega) (by omega)
      have hc := pW.1 (t + 1) (by omega) (by omega)
      have e51 : h1 88 5 = a 4 5 := by rw [F1.1 88 (by decide) (by decide)]; exact e5
      generalize hq : kSt (a 4 5) (a 4 0) (gW a 0 b 96) t.toNat = q at *
      obtain ⟨b1, b2, b3, b4, b5, b6⟩ := id okq
      obtain ⟨g1, g2, g3, g4, g45, g6⟩ := id M1
      have z4 := kZ_R b5
      have lay := fun hn => laycord_in (a := a) (h0 := h) (K := K) okq ⟨t0, by omega⟩ hR5 ⟨by omega, by omega⟩ hc h1 M1 F1 e51 hn ih' (q 0 0).toNat 0 (by omega)
      refine bX12_layCord_41 ⟨⟨by omega, by omega⟩, ⟨by omega, by omega⟩, fun d => absurd d (by omega), fun _ => ⟨⟨by omega, by omega⟩, ?_⟩⟩
      rw [g1, ec]
      refine ⟨⟨by omega, by omega⟩, fun c1 => lay (by omega), fun c1 => ⟨⟨by omega, by omega⟩, ?_⟩⟩
      have b62 := b6 (q 0 0 - 2) (by omega) (by omega)
      rw [g6 (q 0 0 - 2) (by omega) (by omega)]
      refine ⟨⟨by omega, by omega⟩, ⟨by omega, by omega⟩, fun c2 => lay (fun z => c2 z.2), fun c2 => ?_⟩
      rw [g3, g45, e51]
      refine ⟨⟨by omega, by omega⟩, ⟨by omega, by omega⟩, ⟨by omega, by omega⟩, ⟨by omega, by omega⟩, ?_⟩
      refine ih' _ ?_ (((F1.f (by decide)).f (by decide)).f (by decide))
      unfold kOne
      rw [if_pos ⟨by omega, c2⟩]
      obtain ⟨f1, f2, f3, f4, f5, f6⟩ := kFin_at (a 4 5) (t + 1) (zU q 0 0 (q 0 0 - 1))
      rw [zU_eq] at f1 f4 f6
      rw [zU_off 1 (by decide)] at f2
      rw [zU_ne (by omega)] at f3
      rw [zU_ne (by omega)] at f4
      rw [zU_ne (by omega)] at f5
      rw [zU_ne (by omega)] at f6
      refine ⟨?_, ?_, ?_, ?_, ?_, fun j j0 j1 => ?_⟩
      · rw [f1, zU_ne (by omega), zU_ne (by omega), zU_eq]
      · rw [f3, zU_ne (by omega), zU_ne (by omega), zU_ne (by omega)]; exact g2
      · rw [f4, zU_ne (by omega), zU_eq]
        split <;> omega
      · rw [f5, zU_ne (by omega), zU_ne (by omega), zU_ne (by omega)]; exact g4
      · rw [f6, zU_eq]
        by_cases c3 : q 0 0 - 1 - 1 ≤ a 4 5
        · rw [if_pos c3, if_neg (by omega)]
        · rw [if_neg c3]
          by_cases c4 : q 0 4 = 0
          · rw [if_pos (z4.2.2.2 c4), if_pos ⟨by omega, c4⟩]
            unfold kZ
            rw [if_neg (by omega)]
          · rw [if_neg (fun z => c4 (z4.2.2.1 z)), if_neg (fun z => c4 z.2)]
      · rw [f1] at j1
        rw [f2, zU_off 97 (by decide), zU_off 97 (by decide), zU_off 97 (by decide)]
        exact g6 j j0 (by omega)
  have m0 : kM (kSt (a 4 5) (a 4 0) (gW a 0 b 96) (0 : Int).toNat) (zU (zU (zU (zU (zU (zU h 97 0 (a 4 0)) 81 27 1) 81 28 0) 81 29 0) 81 30 (-4)) 81 31 (-4)) := by
    show kM (kPu (a 4 0) (fun _ _ => 0)) _
    obtain ⟨p1, p2, p3⟩ := kPu_at (a 4 0) (fun _ _ => 0)
    refine ⟨?_, ?_, ?_, ?_, ?_, fun j j0 j1 => ?_⟩
    · rw [p1, zU_ne (by omega), zU_ne (by omega), zU_ne (by omega), zU_ne (by omega), zU_eq]
      rfl
    · rw [p2 1 (by decide), zU_ne (by omega), zU_ne (by omega), zU_ne (by omega), zU_eq]
    · rw [p2 2 (by decide), zU_ne (by omega), zU_ne (by omega), zU_eq]
    · rw [p2 3 (by decide), zU_ne (by omega), zU_eq]
      rfl
    · rw [p2 4 (by decide), zU_eq]
      rfl
    · rw [p1] at j1
      have j1 : j < (0 : Int) + 1 := j1
      rw [p3, if_pos (show j = (0 : Int) by omega), zU_off 97 (by decide), zU_off 97 (by decide), zU_off 97 (by decide), zU_off 97 (by decide), zU_off 97 (by decide), zU_at, if_pos ⟨rfl, by omega⟩]
  exact key s2.toNat 0 _ (by decide) (by omega) m0 ((((((kG.rf h).r).f (by decide)).f (by decide)).f (by decide)).f (by decide) |>.f (by decide))
/-! bits of the cord -/
theorem nB_tb (P : Nat → Bool) (n k : Nat) : (nB P n).testBit k = (decide (k < n) && P k) := by
  by_cases c : k < n
  · have h1 := nB_bit P n k c
    rw [Nat.testBit_eq_decide_div_mod_eq, h1]
    by_cases p : P k = true
    · rw [if_pos p, p]
      simp [c]
    · have p' : P k = false := by simpa using p
      rw [if_neg p, p']
      simp
  · have h1 := nB_lt P n
    have h2 : 2 ^ n ≤ 2 ^ k := Nat.pow_le_pow_right (by decide) (by omega)
    rw [Nat.testBit_lt_two_pow (by omega)]
    simp [c]
theorem nB_or (P : Nat → Bool) (n c : Nat) (hc : c < n) : nB P n ||| 2 ^ c = nB (fun k => P k || decide (k = c)) n := by
  refine Nat.eq_of_testBit_eq (fun i => ?_)
  rw [Nat.testBit_or, nB_tb, nB_tb, Nat.testBit_two_pow]
  by_cases c1 : i < n
  · have : decide (c = i) = decide (i = c) := by
      rw [Bool.eq_iff_iff]
      simp
      omega
    simp [c1, this]
  · have : ¬ c = i := by omega
    simp [c1, this]
theorem zB_cg {P Q : Int → Bool} (n : Nat) (h : ∀ k : Int, 0 ≤ k → k < n → P k = Q k) : zB P n = zB Q n := by
  unfold zB
  have : ∀ m : Nat, m ≤ n → nB (fun k => P (k : Int)) m = nB (fun k => Q (k : Int)) m := by
    intro m
    induction m with
    | zero => intro _; rfl
    | succ m ih =>
      intro hm
      unfold nB
      rw [ih (by omega), h (m : Int) (by omega) (by omega)]
  rw [this n (Nat.le_refl _)]
theorem zB_or {P : Int → Bool} {c : Int} (hc : 0 ≤ c ∧ c < 36) : lO (zB P 36) (lSl 1 c) = zB (fun x => P x || decide (x = c)) 36 := by
  have h0 := zB_R (P := P) (n := 36) (by decide)
  have h9 := lSl_R hc
  rw [lO_is ⟨by omega, by omega⟩ ⟨by omega, by omega⟩, lSl_1 hc]
  have e1 : (zB P 36).toNat = nB (fun k => P (k : Int)) 36 := by unfold zB; omega
  rw [e1, Int.toNat_natCast, nB_or _ _ _ (by omega)]
  unfold zB
  have : (fun k : Nat => P (k : Int) || decide (k = c.toNat)) = (fun k : Nat => P (k : Int) || decide ((k : Int) = c)) := by
    funext k
    have : decide (k = c.toNat) = decide ((k : Int) = c) := by
      rw [Bool.eq_iff_iff]
      simp
      omega
    rw [this]
  rw [this]
def kBi (q : zMm) (n : Nat) : Int := zB (fun c => decide (0 < kCt q c n)) 36
theorem kBi_st (q : zMm) (n : Nat) (hc : 0 ≤ q 1 (n : Int) ∧ q 1 (n : Int) < 36) : lO (kBi q n) (lSl 1 (q 1 (n : Int))) = kBi q (n + 1) := by
  unfold kBi
  rw [zB_or hc]
  refine zB_cg 36 (fun c c0 c1 => ?_)
  have hct := zN36_R (fun j => decide (q 1 j = c)) n
  have h0 : 0 ≤ kCt q c n := hct.1
  have es : kCt q c (n + 1) = if decide (q 1 (n : Int) = c) = true then kCt q c n + 1 else kCt q c n := rfl
  rw [es]
  by_cases cx : q 1 (n : Int) = c
  · rw [if_pos (decide_eq_true cx)]
    rw [decide_eq_true (show c = q 1 (n : Int) from cx.symm), decide_eq_true (show 0 < kCt q c n + 1 by omega)]
    simp
  · rw [if_neg (fun z => cx (of_decide_eq_true z)), decide_eq_false (show ¬ c = q 1 (n : Int) from fun z => cx z.symm)]
    simp
theorem kBi_0 (q : zMm) : kBi q 0 = 0 := by
  unfold kBi
  have : ∀ n : Nat, nB (fun k => decide (0 < kCt q (k : Int) 0)) n = 0 := by
    intro n
    induction n with
    | zero => rfl
    | succ n ih =>
      unfold nB
      rw [ih, if_neg (fun z => absurd (of_decide_eq_true z) (by show ¬ (0 : Int) < 0; decide))]
  unfold zB
  rw [this 36]
  rfl
theorem sX1_bits {t : Int} {q h : zMm} {K : Int → zMm → Prop} (hC : kC t q h) (ok : kOk t q) (ht : t ≤ 120) (w : K (kBi q (q 0 0).toNat) h) : zCl mX1_bits [.ref 25] zS0 h K := by
  refine wX1_bits ?_
  have key : ∀ (n k : Nat), k + n = 36 → RR mX1_bits 0 0 4 [some (.ref 25), some (.long (zJ (zB (fun c => decide (0 < kCt q c (q 0 0).toNat)) k))), none, some (.int (zI (k : Int)))] [] zS0 h (zQl zS0 K) := by
    intro n
    induction n with
    | zero =>
      intro k hk
      refine bX1_bits_4 ⟨⟨by omega, by omega⟩, fun _ => ?_, fun c => absurd (by omega) c⟩
      rw [show k = 36 by omega]
      exact w
    | succ n ih =>
      intro k hk
      have e := hC.2.2.2.2.2.2.2 (k : Int) (by omega) (by omega)
      have hct := zN36_R (fun j => decide (q 1 j = (k : Int))) (q 0 0).toNat
      have h0 : 0 ≤ kCt q (k : Int) (q 0 0).toNat ∧ kCt q (k : Int) (q 0 0).toNat ≤ ((q 0 0).toNat : Nat) := hct
      have b1 := ok.1
      refine bX1_bits_4 ⟨⟨by omega, by omega⟩, fun c => absurd c (by omega), fun _ => ⟨⟨by omega, by omega⟩, ?_⟩⟩
      rw [e]
      refine ⟨⟨by omega, by omega⟩, ?_⟩
      have := ih (k + 1) (by omega)
      rw [show ((k + 1 : Nat) : Int) = (k : Int) + 1 by omega] at this
      by_cases c : kCt q (k : Int) (q 0 0).toNat ≤ 0
      · rw [if_pos c]
        rw [zB_off (P := fun c => decide (0 < kCt q c (q 0 0).toNat)) (decide_eq_false (by omega))] at this
        exact this
      · rw [if_neg c, zB_on (P := fun c => decide (0 < kCt q c (q 0 0).toNat)) (by omega) (decide_eq_true (by omega))]
        exact this
  exact key 36 0 (by decide)
def kQ (a : zMm) (s : Int) : zMm := kSt (a 4 5) (a 4 0) (gW a 0 (a 4 3) 96) s.toNat
def fCord (a : zMm) (s w : Int) : Int := if (0 ≤ s ∧ s ≤ gW a 0 (a 4 3) 22 4) ∧ 0 ≤ w ∧ w ≤ 3 then (if w = 0 then kQ a s 0 0 - 1 else if w = 1 then kBi (kQ a s) (kQ a s 0 0).toNat else if w = 2 then kQ a s 0 1 else kQ a s 0 2) else -1
def fTrips (a : zMm) (w : Int) : Int := if 0 ≤ w ∧ w ≤ 1 then (if w = 0 then kZ (kQ a (gW a 0 (a 4 3) 22 4) 0 3) else kZ (kQ a (gW a 0 (a 4 3) 22 4) 0 4)) else -1
theorem kQ_ok {a : zMm} {s : Int} (W : WF a) (hs : 0 ≤ s ∧ s ≤ gW a 0 (a 4 3) 22 4) : kOk s (kQ a s) := by
  have W0 := W.2.1.1
  have pW := kPa_W (t := 0) (b := a 4 3) W
  have := kSt_ok (m := a 4 5) (s := a 4 0) ⟨by omega, by omega⟩ (p := gW a 0 (a 4 3) 96) s.toNat (fun j j0 j1 => pW.1 j j0 (by omega))
  rw [show ((s.toNat : Nat) : Int) = s by omega] at this
  exact this
theorem kF.CR {a h h' : zMm} (F : kF h h') (C : CR a h) : CR a h' := C.scr (fun o ho => F o (by omega) (by omega) (by omega))
theorem cCord {a h : zMm} {v1 v2 : Int} {K : Int → zMm → Prop} (W : WF a) (C : CR a h) (r1 : zR v1) (r2 : zR v2) (hK : ∀ h', CR a h' → zHi81 h h' → K (fCord a v1 v2) h') : zCl mX11_cord [.ref 0, .int (zI v1), .int (zI v2)] zS0 h K := by
  unfold fCord at hK
  have hb := W.rb
  have ok := W.ok (t := 0) (b := a 4 3) (by decide) (by omega)
  have h4 := ok.2.2.2.1
  refine wX11_cord ⟨r1, fun c => ?_, fun c => sX11_isWithin r2 (by decide) (by decide) ?_⟩
  · rw [if_neg (fun z => by omega)] at hK
    exact hK h C (fun _ _ => rfl)
  simp only [decide_eq_true_eq, decide_eq_false_iff_not]
  refine ⟨fun d => sX1_draw (b := a 4 3) W C ⟨by omega, by omega⟩ (by omega) (fun t h' et C' F' => ?_), fun d => ?_⟩
  · have hi : zHi81 h h' := fun o ho => F' o (by omega) (by omega) (by omega)
    have CR' := F'.CR C
    rw [C'.2.1]
    refine ⟨⟨by omega, by omega⟩, fun f => ⟨r2, ?_⟩, fun f => ?_⟩
    · have ev : t = v1 := by omega
      subst ev
      have okq := kQ_ok (s := t) W ⟨by omega, by omega⟩
      rw [if_pos ⟨⟨by omega, by omega⟩, d⟩] at hK
      have key := hK h' CR' hi
      obtain ⟨e1, e2, e3, e4, e5, e6, e7, e8⟩ := C'
      obtain ⟨b1, b2, b3, b4, b5, b6⟩ := okq
      unfold kQ at b1 b2 b3 b4 b5 b6 key
      rw [e1, e3, e4]
      refine ⟨fun g => ?_, fun g => ?_, fun g => ?_, fun g => ?_⟩
      · rw [if_pos g] at key
        exact ⟨⟨by omega, by omega⟩, key⟩
      · rw [if_neg (by omega), if_pos g] at key
        exact sX1_bits ⟨e1, e2, e3, e4, e5, e6, e7, e8⟩ ⟨b1, b2, b3, b4, b5, b6⟩ (by omega) key
      · rw [if_neg (by omega), if_neg (by omega), if_pos g] at key
        exact ⟨⟨by omega, by omega⟩, key⟩
      · rw [if_neg (by omega), if_neg (by omega), if_neg (by omega)] at key
        exact ⟨⟨by omega, by omega⟩, key⟩
    · rw [if_neg (fun z => by omega)] at hK
      exact hK h' CR' hi
  · rw [if_neg (fun z => d z.2)] at hK
    exact hK h C (fun _ _ => rfl)
theorem mCord {a h : zMm} {v1 v2 : Int} {K : Int → zMm → Prop} (W : WF a) (M : MR a h) (r1 : zR v1) (r2 : zR v2) (hK : ∀ h', MR a h' → zLo81 h h' → K (fCord a v1 v2) h') : zCl mX12_cord [.ref 81, .int (zI v1), .int (zI v2)] zS0 h K := by
  unfold fCord at hK
  have hb := W.rb
  have ok := W.ok (t := 0) (b := a 4 3) (by decide) (by omega)
  have h4 := ok.2.2.2.1
  refine wX12_cord (sX12_awake M ?_)
  intro h1 M1 A1 L1
  rw [show h1 88 3 = a 4 3 from A1.1.2.1 3 (by decide) (by decide)]
  refine mWalk W M1 A1 (by decide) (by omega) (fun h2 g1 g2 g3 g4 g5 => ?_)
  have L2 := L1.trans g3.lo
  rw [show h2 93 2 = gW a 0 (a 4 3) 22 4 from g1.2.2.1]
  refine ⟨r1, ⟨by omega, by omega⟩, sX12_in r1 (by decide) ⟨by omega, by omega⟩ ?_⟩
  simp only [decide_eq_true_eq, decide_eq_false_iff_not]
  refine ⟨fun c => ?_, fun c => ⟨r2, sX12_in r2 (by decide) (by decide) ?_⟩⟩
  · rw [if_neg (fun z => c z.1)] at hK
    exact hK h2 g4 L2
  simp only [decide_eq_true_eq, decide_eq_false_iff_not]
  refine ⟨fun d => sX12_layCord (b := a 4 3) W g4 g1 (by omega) c (fun h3 M3 F3 => ?_), fun d => ?_⟩
  · rw [if_pos ⟨c, d⟩] at hK
    have okq := kQ_ok W c
    have key := hK h3 (F3.MR g4) (L2.trans F3.lo)
    obtain ⟨b1, b2, b3, b4, b5, b6⟩ := okq
    obtain ⟨e1, e2, e3, e4, e45, e6⟩ := M3
    unfold kQ at b1 b2 b3 b4 b5 b6 key
    generalize kSt (a 4 5) (a 4 0) (gW a 0 (a 4 3) 96) v1.toNat = q at *
    have loop : ∀ (n k : Nat), k + n = (q 0 0).toNat → RR mX12_cord 0 0 57 [some (.ref 81), none, some (.int (zI v2)), some (.long (zJ (kBi q k))), none, some (.int (zI (k : Int)))] [] zS0 h3 (zQl zS0 K) := by
      intro n
      induction n with
      | zero =>
        intro k hk
        refine bX12_cord_57 ⟨⟨by omega, by omega⟩, by rw [e1]; exact ⟨by omega, by omega⟩, fun _ => ⟨r2, fun f0 => ⟨fun f1 => ⟨fun f2 => ?_, fun f2 => ?_⟩, fun f1 => ?_⟩, fun f0 => ?_⟩, fun f => absurd (by rw [e1]; omega) f⟩
        · rw [if_neg f0, if_neg f1, if_neg f2] at key
          rw [e3]
          exact ⟨⟨by omega, by omega⟩, key⟩
        · rw [if_neg f0, if_neg f1, if_pos f2] at key
          rw [e2]
          exact ⟨⟨by omega, by omega⟩, key⟩
        · rw [if_neg f0, if_pos f1] at key
          rw [show k = (q 0 0).toNat by omega]
          exact key
        · rw [if_pos f0] at key
          rw [e1]
          exact ⟨⟨by omega, by omega⟩, key⟩
      | succ n ih =>
        intro k hk
        have b6k := b6 (k : Int) (by omega) (by omega)
        refine bX12_cord_57 ⟨⟨by omega, by omega⟩, by rw [e1]; exact ⟨by omega, by omega⟩, fun f => absurd f (by rw [e1]; omega), fun _ => ⟨⟨by omega, by omega⟩, ?_⟩⟩
        rw [e6 (k : Int) (by omega) (by omega), kBi_st q k b6k, show (k : Int) + 1 = ((k + 1 : Nat) : Int) by omega]
        exact ih (k + 1) (by omega)
    have := loop (q 0 0).toNat 0 (by omega)
    rw [kBi_0] at this
    exact this
  · rw [if_neg (fun z => d z.2)] at hK
    exact hK h2 g4 L2
theorem cTrips {a h : zMm} {v1 : Int} {K : Int → zMm → Prop} (W : WF a) (C : CR a h) (r1 : zR v1) (hK : ∀ h', CR a h' → zHi81 h h' → K (fTrips a v1) h') : zCi mX11_trips [.ref 0, .int (zI v1)] zS0 h K := by
  unfold fTrips at hK
  have hb := W.rb
  have ok := W.ok (t := 0) (b := a 4 3) (by decide) (by omega)
  have h4 := ok.2.2.2.1
  refine wX11_trips (sX11_isWithin r1 (by decide) (by decide) ?_)
  simp only [decide_eq_true_eq, decide_eq_false_iff_not]
  refine ⟨fun d => sX1_draw (b := a 4 3) W C (by decide) (by omega) (fun t h' et C' F' => ?_), fun d => ?_⟩
  · have hi : zHi81 h h' := fun o ho => F' o (by omega) (by omega) (by omega)
    rw [if_pos d] at hK
    have key := hK h' (F'.CR C) hi
    have ev : t = gW a 0 (a 4 3) 22 4 := by omega
    have okq := kQ_ok (s := gW a 0 (a 4 3) 22 4) W ⟨by omega, by omega⟩
    rw [ev] at C'
    obtain ⟨e1, e2, e3, e4, e5, e6, e7, e8⟩ := C'
    obtain ⟨b1, b2, b3, b4, b5, b6⟩ := okq
    unfold kQ at b4 b5 key
    rw [e5, e6]
    have fin : ∀ x : Int, 0 ≤ x → (if x ≤ 0 then (-4 : Int) else x) = kZ x := by
      intro x x0
      unfold kZ
      by_cases c : x = 0
      · rw [if_pos (by omega), if_pos c]
      · rw [if_neg (by omega), if_neg c]
    by_cases f : v1 = 0
    · rw [if_pos f] at key
      rw [if_pos f]
      refine ⟨r1, ⟨by omega, by omega⟩, ?_⟩
      rw [fin _ b4.1]
      exact key
    · rw [if_neg f] at key
      rw [if_neg f]
      refine ⟨r1, ⟨by omega, by omega⟩, ?_⟩
      rw [fin _ b5.1]
      exact key
  · rw [if_neg d] at hK
    exact hK h C (fun _ _ => rfl)
theorem mTrips {a h : zMm} {v1 : Int} {K : Int → zMm → Prop} (W : WF a) (M : MR a h) (r1 : zR v1) (hK : ∀ h', MR a h' → zLo81 h h' → K (fTrips a v1) h') : zCi mX12_trips [.ref 81, .int (zI v1)] zS0 h K := by
  unfold fTrips at hK
  have hb := W.rb
  have ok := W.ok (t := 0) (b := a 4 3) (by decide) (by omega)
  have h4 := ok.2.2.2.1
  refine wX12_trips (sX12_awake M ?_)
  intro h1 M1 A1 L1
  refine ⟨r1, sX12_in r1 (by decide) (by decide) ?_⟩
  simp only [decide_eq_true_eq, decide_eq_false_iff_not]
  rw [show h1 88 3 = a 4 3 from A1.1.2.1 3 (by decide) (by decide)]
  refine ⟨fun d => mWalk W M1 A1 (by decide) (by omega) (fun h2 g1 g2 g3 g4 g5 => ?_), fun d => ?_⟩
  · rw [show h2 93 2 = gW a 0 (a 4 3) 22 4 from g1.2.2.1]
    refine sX12_layCord (b := a 4 3) W g4 g1 (by omega) ⟨by omega, by omega⟩ (fun h3 M3 F3 => ?_)
    rw [if_pos d] at hK
    have key := hK h3 (F3.MR g4) ((L1.trans g3.lo).trans F3.lo)
    obtain ⟨e1, e2, e3, e4, e45, e6⟩ := M3
    rw [e4, e45]
    exact key
  · rw [if_neg d] at hK
    exact hK h1 M1 L1
