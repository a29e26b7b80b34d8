/-! LEAST: the model's minutes, set by set -/
def mPl (Kd R : Int → Int) (h : zMm) : Prop := zKd (h 92) Kd ∧ ∀ r : Int, 0 ≤ r → r ≤ 7 → h 88 r = R r
def mBt (Kd : Int → Int) (h : zMm) : Prop := ∀ c : Int, 0 ≤ c → c < 36 → h 98 c = lBt Kd c
def mRow (Kd R : Int → Int) (h : zMm) (k : Nat) : Prop := ∀ c l : Int, 0 ≤ c → c < 36 → ¬ Kd c = 2 → 0 ≤ l → l ≤ 3 → h 99 (144 * (k : Int) + (4 * c + l)) = lM Kd R (k : Int) c l
theorem sX12_stepCost {Kd R : Int → Int} {h : zMm} {K : Int → zMm → Prop} {c l w : Int} (P : mPl Kd R h) (hc : 0 ≤ c ∧ c < 36) (hw : 0 ≤ w ∧ w ≤ 3) (ho : 0 ≤ zNx Kd c w) (k : K (lCo Kd R c l w) h) : zCi mX12_stepCost [.ref 81, .int (zI c), .int (zI l), .int (zI w)] zS0 h K := by
  refine wX12_stepCost (sX12_quarters (sX12_nextOf P.1 hc hw ?_))
  rcases zNx_R (Kd := Kd) (way := w) hc with e | ⟨e1, e2, e3⟩
  · omega
  · refine sX12_minutesOf P.1 ⟨e1, e2⟩ hw ?_
    rw [P.2 1 (by decide) (by decide), P.2 2 (by decide) (by decide)]
    exact k
theorem sX12_behind {Kd R : Int → Int} {h : zMm} {K : Int → zMm → Prop} {k : Nat} {c w : Int} (hG : lRk Kd 36 ≤ 7) (P : mPl Kd R h) (B : mBt Kd h) (hk : k ≤ nA Kd) (hc : 0 ≤ c ∧ c < 36) (hw : 0 ≤ w ∧ w ≤ 3) (ho : 0 ≤ zNx Kd c w) (q : K (144 * ((k ||| nb Kd (zNx Kd c w) : Nat) : Int) + (4 * zNx Kd c w + w)) h) : zCi mX12_behind [.ref 81, .int (zI (k : Int)), .int (zI c), .int (zI w)] zS0 h K := by
  refine wX12_behind (sX12_nextOf P.1 hc hw ?_)
  rcases zNx_R (Kd := Kd) (way := w) hc with e | ⟨e1, e2, e3⟩
  · omega
  · refine ⟨⟨e1, e2⟩, ?_⟩
    rw [B _ e1 e2, nA_bt hG hk ⟨e1, e2⟩, Int.add_assoc]
    exact q
def sP (f : Int → Int) : Nat → Int
  | 0 => 0
  | n + 1 => sP f n + f (n : Int)
theorem sP_cg {f g : Int → Int} : ∀ n : Nat, (∀ y : Int, 0 ≤ y → y < n → g y = f y) → sP g n = sP f n := by
  intro n
  induction n with
  | zero => intro _; rfl
  | succ n ih =>
    intro h
    show sP g n + g (n : Int) = sP f n + f (n : Int)
    rw [ih (fun y y0 y1 => h y y0 (by omega)), h (n : Int) (by omega) (by omega)]
theorem sP_up {f g : Int → Int} {o : Int} : ∀ n : Nat, 0 ≤ o → o < n → (∀ y : Int, 0 ≤ y → y < n → y ≠ o → g y = f y) → sP g n = sP f n - f o + g o := by
  intro n
  induction n with
  | zero => intro h0 h1; exact absurd h1 (by omega)
  | succ n ih =>
    intro h0 h1 h
    show sP g n + g (n : Int) = sP f n + f (n : Int) - f o + g o
    by_cases e : o = (n : Int)
    · rw [e, sP_cg n (fun y y0 y1 => h y y0 (by omega) (by omega))]
      omega
    · rw [ih h0 (by omega) (fun y y0 y1 y2 => h y y0 (by omega) y2), h (n : Int) (by omega) (by omega) (by omega)]
      omega
theorem sP_0 {f : Int → Int} : ∀ n : Nat, (∀ y : Int, 0 ≤ y → y < n → 0 ≤ f y) → 0 ≤ sP f n := by
  intro n
  induction n with
  | zero => intro _; exact Int.le_refl _
  | succ n ih =>
    intro h
    have h1 := ih (fun y y0 y1 => h y y0 (by omega))
    have h2 := h (n : Int) (by omega) (by omega)
    show 0 ≤ sP f n + f (n : Int)
    omega
/-- one row's stand: minutes from above, all rows behind right -/
def mSt (Kd R : Int → Int) (h g : zMm) (k : Nat) : Prop := (∀ o : Nat, o ≠ 99 → g o = h o) ∧ (∀ i : Int, ¬ (144 * (k : Int) ≤ i ∧ i < 144 * (k : Int) + 144) → g 99 i = h 99 i) ∧ (∀ i : Int, 0 ≤ i → i < 144 → 0 ≤ g 99 (144 * (k : Int) + i) ∧ g 99 (144 * (k : Int) + i) ≤ 1000000) ∧ ∀ c l : Int, 0 ≤ c → c < 36 → ¬ Kd c = 2 → 0 ≤ l → l ≤ 3 → lM Kd R (k : Int) c l ≤ g 99 (144 * (k : Int) + (4 * c + l))
/-- nothing falls any more, up to a stand -/
def mFi (Kd R : Int → Int) (g : zMm) (k : Nat) (n : Int) : Prop := ∀ c l w : Int, 0 ≤ c → c < 36 → ¬ Kd c = 2 → 0 ≤ l → l ≤ 3 → 0 ≤ w → w ≤ 3 → 0 ≤ zNx Kd c w → 4 * c + l < n → g 99 (144 * (k : Int) + (4 * c + l)) ≤ lCo Kd R c l w + g 99 (144 * ((k ||| nb Kd (zNx Kd c w) : Nat) : Int) + (4 * zNx Kd c w + w))
theorem mSt_row {Kd R : Int → Int} {h g : zMm} {k : Nat} (hR : zRu R) (hG : lRk Kd 36 ≤ 7) (hk : k < nA Kd) (Re : ∀ k' : Nat, k < k' → k' ≤ nA Kd → mRow Kd R h k') (S : mSt Kd R h g k) (F : mFi Kd R g k 144) : mRow Kd R g k := by
  have hA := nA_le hG
  have hAll := lAll_n hG
  intro c l c0 c1 ck l0 l1
  refine Int.le_antisymm ?_ (S.2.2.2 c l c0 c1 ck l0 l1)
  have := lM_gt hR (Dm := lDm Kd) (f := fun m c l => if m = (k : Int) then g 99 (144 * (k : Int) + (4 * c + l)) else lM Kd R m c l) (fun m c l h => ?_) (fun m c l way h hm w0 w1 ho => ⟨(h.step hG ⟨w0, w1⟩ ho).m, ?_⟩) (m := (k : Int)) (c := c) (l := l) ⟨k, rfl, by omega, ⟨c0, c1, ck⟩, ⟨l0, l1⟩⟩
  · rw [if_pos rfl] at this
    exact this
  · show (if m = (k : Int) then g 99 (144 * (k : Int) + (4 * c + l)) else lM Kd R m c l) ≤ 1000000 ∧ (m = lAll Kd → (if m = (k : Int) then g 99 (144 * (k : Int) + (4 * c + l)) else lM Kd R m c l) ≤ 0)
    obtain ⟨q, eq, q2, q3, q4⟩ := h
    by_cases e : m = (k : Int)
    · rw [if_pos e]
      exact ⟨(S.2.2.1 (4 * c + l) (by omega) (by omega)).2, fun z => by omega⟩
    · rw [if_neg e]
      refine ⟨(lM_R hR _ _ _).2, fun z => ?_⟩
      rw [z, lM_all]
      exact Int.le_refl _
  · show (if m = (k : Int) then g 99 (144 * (k : Int) + (4 * c + l)) else lM Kd R m c l) ≤ lCo Kd R c l way + (if iO m (lBt Kd (zNx Kd c way)) = (k : Int) then g 99 (144 * (k : Int) + (4 * zNx Kd c way + way)) else lM Kd R (iO m (lBt Kd (zNx Kd c way))) (zNx Kd c way) way)
    obtain ⟨q, rfl, q2, q3, q4⟩ := h
    rcases zNx_R (Kd := Kd) (way := way) (show 0 ≤ c ∧ c < 36 from ⟨q3.1, q3.2.1⟩) with z | ⟨z1, z2, z3⟩
    · omega
    · rw [nA_bt hG q2 ⟨z1, z2⟩]
      have lo : lM Kd R ((q ||| nb Kd (zNx Kd c way) : Nat) : Int) (zNx Kd c way) way ≤ (if ((q ||| nb Kd (zNx Kd c way) : Nat) : Int) = (k : Int) then g 99 (144 * (k : Int) + (4 * zNx Kd c way + way)) else lM Kd R ((q ||| nb Kd (zNx Kd c way) : Nat) : Int) (zNx Kd c way) way) := by
        by_cases e : ((q ||| nb Kd (zNx Kd c way) : Nat) : Int) = (k : Int)
        · rw [if_pos e, e]
          exact S.2.2.2 _ _ z1 z2 z3 w0 w1
        · rw [if_neg e]; exact Int.le_refl _
      by_cases e : (q : Int) = (k : Int)
      · obtain rfl : q = k := by omega
        rw [if_pos rfl]
        have f := F c l way q3.1 q3.2.1 q3.2.2 q4.1 q4.2 w0 w1 ho (by omega)
        by_cases e2 : q ||| nb Kd (zNx Kd c way) = q
        · rw [e2] at f ⊢
          rw [if_pos rfl]
          exact f
        · rw [if_neg (by omega)]
          have gt := Nat.left_le_or (n := q) (m := nb Kd (zNx Kd c way))
          have le := nA_or q2 (nb_le (Kd := Kd) (c := zNx Kd c way) ⟨z1, z2⟩)
          have r := Re (q ||| nb Kd (zNx Kd c way)) (by omega) le (zNx Kd c way) way z1 z2 z3 w0 w1
          rw [S.2.1 (144 * ((q ||| nb Kd (zNx Kd c way) : Nat) : Int) + (4 * zNx Kd c way + way)) (by omega), r] at f
          exact f
      · rw [if_neg e]
        have := lM_le hR (l := l) hm ⟨w0, w1⟩ ho
        rw [nA_bt hG q2 ⟨z1, z2⟩] at this
        omega
theorem sX12_oneSet {Kd R : Int → Int} {h : zMm} {K : zMm → Prop} {k : Nat} (hR : zRu R) (hG : lRk Kd 36 ≤ 7) (P : mPl Kd R h) (B : mBt Kd h) (hk : k < nA Kd) (Re : ∀ k' : Nat, k < k' → k' ≤ nA Kd → mRow Kd R h k') (Lo : ∀ i : Int, 0 ≤ i → i < 144 → h 99 (144 * (k : Int) + i) = 1000000) (hK : ∀ h', (∀ o : Nat, o ≠ 99 → h' o = h o) → (∀ i : Int, ¬ (144 * (k : Int) ≤ i ∧ i < 144 * (k : Int) + 144) → h' 99 i = h 99 i) → mRow Kd R h' k → K h') : zCv mX12_oneSet [.ref 81, .int (zI (k : Int))] zS0 h K := by
  have hA := nA_le hG
  have hAll := lAll_n hG
  have hm : ¬ (k : Int) = lAll Kd := by omega
  have hd : ∀ (N : Nat) (g : zMm), (sP (fun i => g 99 (144 * (k : Int) + i)) 144).toNat ≤ N → mSt Kd R h g k → RR mX12_oneSet 0 0 2 [some (.ref 81), some (.int (zI (k : Int))), some (.int (zI 1)), none, none, none, none, none] [] zS0 g (zQv zS0 K) := by
    intro N
    induction N using Nat.strongRecOn with
    | ind N ih =>
      intro g hN S
      have P0 : ∀ g', mSt Kd R h g' k → mPl Kd R g' := fun g' S' => by
        unfold mPl at P ⊢
        rw [S'.1 92 (by decide), S'.1 88 (by decide)]
        exact P
      have B0 : ∀ g', mSt Kd R h g' k → mBt Kd g' := fun g' S' => by
        unfold mBt at B ⊢
        rw [S'.1 98 (by decide)]
        exact B
      -- a sweep: at stand x, b: whether something fell
      have sw : ∀ (n x : Nat) (b : Bool) (g' : zMm), x + n = 144 → mSt Kd R h g' k → (b = false → g' 99 = g 99 ∧ mFi Kd R g k (x : Int)) → (b = true → sP (fun i => g' 99 (144 * (k : Int) + i)) 144 < sP (fun i => g 99 (144 * (k : Int) + i)) 144) → RR mX12_oneSet 0 0 10 [some (.ref 81), some (.int (zI (k : Int))), some (.int (zI (bI b))), some (.int (zI (x : Int))), none, none, none, none] [] zS0 g' (zQv zS0 K) := by
        intro n
        induction n with
        | zero =>
          intro x b g' hx S' hf ht
          obtain rfl : x = 144 := by omega
          refine bX12_oneSet_10 ⟨by decide, fun _ => ?_, fun z => absurd (show (144 : Int) ≤ ((144 : Nat) : Int) by decide) z⟩
          cases b with
          | true =>
            have l := ht rfl
            have n0 : 0 ≤ sP (fun i => g' 99 (144 * (k : Int) + i)) 144 := sP_0 144 (fun y y0 y1 => (S'.2.2.1 y y0 (by omega)).1)
            exact ih (sP (fun i => g' 99 (144 * (k : Int) + i)) 144).toNat (by omega) g' (Nat.le_refl _) S'
          | false =>
            obtain ⟨e, F⟩ := hf rfl
            refine bX12_oneSet_2 ⟨by decide, fun _ => ?_, fun z => absurd rfl z⟩
            have F' : mFi Kd R g' k 144 := by
              unfold mFi at F ⊢
              rw [e]
              exact F
            exact hK g' S'.1 S'.2.1 (mSt_row hR hG hk Re S' F')
        | succ n im =>
          intro x b g' hx S' hf ht
          have x0 : (0 : Int) ≤ x ∧ (x : Int) < 144 := ⟨by omega, by omega⟩
          have P' := P0 g' S'
          have B' := B0 g' S'
          have fx := S'.2.2.1 (x : Int) x0.1 x0.2
          have kd := P'.1 ((x : Int) / 4) (by omega) (by omega)
          -- behind the ways: the least v is laid
          have en : ∀ v : Int, v ≤ g' 99 (144 * (k : Int) + (x : Int)) → 0 ≤ v → (¬ Kd ((x : Int) / 4) = 2 → lM Kd R (k : Int) ((x : Int) / 4) ((x : Int) % 4) ≤ v) → (v = g' 99 (144 * (k : Int) + (x : Int)) → ¬ Kd ((x : Int) / 4) = 2 → ∀ w : Int, 0 ≤ w → w ≤ 3 → 0 ≤ zNx Kd ((x : Int) / 4) w → v ≤ lCo Kd R ((x : Int) / 4) ((x : Int) % 4) w + g' 99 (144 * ((k ||| nb Kd (zNx Kd ((x : Int) / 4) w) : Nat) : Int) + (4 * zNx Kd ((x : Int) / 4) w + w))) → (zR (bI b) ∧ ((¬ bI b = 0 → ((0 ≤ ((144 * (k : Int)) + (x : Int)) ∧ ((144 * (k : Int)) + (x : Int)) < 18432) ∧ RR mX12_oneSet 0 0 10 [some (.ref 81), some (.int (zI (k : Int))), some (.int (zI 1)), some (.int (zI ((x : Int) + 1))), none, none, none, none] [] zS0 (zU g' 99 ((144 * (k : Int)) + (x : Int)) v) (zQv zS0 K))) ∧ (bI b = 0 → ((0 ≤ ((144 * (k : Int)) + (x : Int)) ∧ ((144 * (k : Int)) + (x : Int)) < 18432) ∧ (zR v ∧ (zR (g' 99 ((144 * (k : Int)) + (x : Int))) ∧ RR mX12_oneSet 0 0 10 [some (.ref 81), some (.int (zI (k : Int))), some (.int (zI (bI (if (g' 99 ((144 * (k : Int)) + (x : Int))) ≤ v then false else true)))), some (.int (zI ((x : Int) + 1))), none, none, none, none] [] zS0 (zU g' 99 ((144 * (k : Int)) + (x : Int)) v) (zQv zS0 K))))))) := by
            intro v v1 v0 vl vf
            rw [show (x : Int) + 1 = ((x + 1 : Nat) : Int) by omega]
            have S2 : mSt Kd R h (zU g' 99 ((144 * (k : Int)) + (x : Int)) v) k := by
              refine ⟨fun o ho => (zU_off o ho).trans (S'.1 o ho), fun i hi => (zU_ne (by omega)).trans (S'.2.1 i hi), fun i i0 i1 => ?_, fun c l c0 c1 ck l0 l1 => ?_⟩
              · rw [zU_at]
                split
                · omega
                · exact S'.2.2.1 i i0 i1
              · rw [zU_at]
                split
                · rename_i q
                  have := vl
                  rw [show (x : Int) / 4 = c by omega, show (x : Int) % 4 = l by omega] at this
                  exact this ck
                · exact S'.2.2.2 c l c0 c1 ck l0 l1
            have up : sP (fun i => zU g' 99 ((144 * (k : Int)) + (x : Int)) v 99 (144 * (k : Int) + i)) 144 = sP (fun i => g' 99 (144 * (k : Int) + i)) 144 - g' 99 (144 * (k : Int) + (x : Int)) + v := by
              have := sP_up (f := fun i => g' 99 (144 * (k : Int) + i)) (g := fun i => zU g' 99 ((144 * (k : Int)) + (x : Int)) v 99 (144 * (k : Int) + i)) (o := (x : Int)) 144 x0.1 x0.2 (fun y y0 y1 y2 => zU_ne (by omega))
              rw [this]
              show _ - _ + zU g' 99 ((144 * (k : Int)) + (x : Int)) v 99 (144 * (k : Int) + (x : Int)) = _
              rw [zU_eq]
            refine ⟨bI_R b, fun c => ⟨⟨by omega, by omega⟩, ?_⟩, fun c => ⟨⟨by omega, by omega⟩, ⟨by omega, by omega⟩, ⟨by omega, by omega⟩, ?_⟩⟩
            · have bt : b = true := bI_n.mp c
              have l := ht bt
              exact im (x + 1) true _ (by omega) S2 (fun z => absurd z (by decide)) (fun _ => by rw [up]; omega)
            · have bf : b = false := bI_0.mp c
              obtain ⟨e, F⟩ := hf bf
              by_cases q : g' 99 (144 * (k : Int) + (x : Int)) ≤ v
              · rw [if_pos q]
                have ev : v = g' 99 (144 * (k : Int) + (x : Int)) := by omega
                have e2 : zU g' 99 ((144 * (k : Int)) + (x : Int)) v 99 = g 99 := by
                  rw [← e]
                  funext i
                  rw [zU_at]
                  split
                  · rename_i z; rw [ev, z.2]
                  · rfl
                refine im (x + 1) false _ (by omega) S2 (fun _ => ⟨e2, fun c' l w c0 c1 ck l0 l1 w0 w1 ho hlt => ?_⟩) (fun z => absurd z (by decide))
                by_cases q2 : 4 * c' + l = (x : Int)
                · have := vf ev
                  rw [show (x : Int) / 4 = c' by omega, show (x : Int) % 4 = l by omega] at this
                  have := this ck w w0 w1 ho
                  rw [q2, ← e]
                  rw [ev] at this
                  exact this
                · exact F c' l w c0 c1 ck l0 l1 w0 w1 ho (by omega)
              · rw [if_neg q]
                refine im (x + 1) true _ (by omega) S2 (fun z => absurd z (by decide)) (fun _ => ?_)
                rw [up]
                have : sP (fun i => g' 99 (144 * (k : Int) + i)) 144 = sP (fun i => g 99 (144 * (k : Int) + i)) 144 := by rw [e]
                omega
          -- the ways
          have wy : ∀ (m w : Nat) (v : Int), w + m = 4 → v ≤ g' 99 (144 * (k : Int) + (x : Int)) → 0 ≤ v → (¬ Kd ((x : Int) / 4) = 2 → lM Kd R (k : Int) ((x : Int) / 4) ((x : Int) % 4) ≤ v) → (¬ Kd ((x : Int) / 4) = 2 → ∀ w' : Int, 0 ≤ w' → w' < (w : Int) → 0 ≤ zNx Kd ((x : Int) / 4) w' → v ≤ lCo Kd R ((x : Int) / 4) ((x : Int) % 4) w' + g' 99 (144 * ((k ||| nb Kd (zNx Kd ((x : Int) / 4) w') : Nat) : Int) + (4 * zNx Kd ((x : Int) / 4) w' + w'))) → RR mX12_oneSet 0 0 39 [some (.ref 81), some (.int (zI (k : Int))), some (.int (zI (bI b))), some (.int (zI (x : Int))), some (.int (zI ((x : Int) / 4))), some (.int (zI v)), some (.int (zI (w : Int))), none] [] zS0 g' (zQv zS0 K) := by
            intro m
            induction m with
            | zero =>
              intro w v hw v1 v0 vl vf
              obtain rfl : w = 4 := by omega
              refine bX12_oneSet_39 ⟨by decide, fun _ => en v v1 v0 vl (fun _ ck w w0 w1 ho => vf ck w w0 (by omega) ho), fun z => absurd (show (4 : Int) ≤ ((4 : Nat) : Int) by decide) z⟩
            | succ m iw =>
              intro w v hw v1 v0 vl vf
              have w0 : (0 : Int) ≤ w ∧ (w : Int) ≤ 3 := ⟨by omega, by omega⟩
              refine bX12_oneSet_39 ⟨⟨by omega, by omega⟩, fun z => absurd z (by omega), fun _ => ⟨⟨by omega, by omega⟩, ?_⟩⟩
              rw [kd.1]
              refine ⟨⟨by omega, by omega⟩, fun ck => en v v1 v0 vl (fun _ z => absurd ck z), fun ck => sX12_nextOf P'.1 ⟨by omega, by omega⟩ w0 ?_⟩
              rw [show (w : Int) + 1 = ((w + 1 : Nat) : Int) by omega]
              rcases zNx_R (Kd := Kd) (way := (w : Int)) (show 0 ≤ (x : Int) / 4 ∧ (x : Int) / 4 < 36 by omega) with z | ⟨z1, z2, z3⟩
              · refine ⟨⟨by omega, by omega⟩, fun _ => iw (w + 1) v (by omega) v1 v0 vl (fun ck w' w0 w1 ho => ?_), fun y => absurd z y⟩
                by_cases e : w' = (w : Int)
                · rw [e] at ho; omega
                · exact vf ck w' w0 (by omega) ho
              · refine ⟨⟨by omega, by omega⟩, fun y => absurd y (by omega), fun _ => ⟨⟨by omega, by omega⟩, ?_⟩⟩
                have hco := lCo_R (Kd := Kd) hR ((x : Int) / 4) ((x : Int) % 4) (w : Int)
                have hb := nb_le (Kd := Kd) (c := zNx Kd ((x : Int) / 4) (w : Int)) ⟨z1, z2⟩
                have le := nA_or (show k ≤ nA Kd by omega) hb
                have gt := Nat.left_le_or (n := k) (m := nb Kd (zNx Kd ((x : Int) / 4) (w : Int)))
                have vb : (0 ≤ g' 99 (144 * ((k ||| nb Kd (zNx Kd ((x : Int) / 4) (w : Int)) : Nat) : Int) + (4 * zNx Kd ((x : Int) / 4) (w : Int) + (w : Int))) ∧ g' 99 (144 * ((k ||| nb Kd (zNx Kd ((x : Int) / 4) (w : Int)) : Nat) : Int) + (4 * zNx Kd ((x : Int) / 4) (w : Int) + (w : Int))) ≤ 1000000) ∧ lM Kd R ((k ||| nb Kd (zNx Kd ((x : Int) / 4) (w : Int)) : Nat) : Int) (zNx Kd ((x : Int) / 4) (w : Int)) (w : Int) ≤ g' 99 (144 * ((k ||| nb Kd (zNx Kd ((x : Int) / 4) (w : Int)) : Nat) : Int) + (4 * zNx Kd ((x : Int) / 4) (w : Int) + (w : Int))) := by
                  by_cases e : k ||| nb Kd (zNx Kd ((x : Int) / 4) (w : Int)) = k
                  · rw [e]
                    exact ⟨S'.2.2.1 _ (by omega) (by omega), S'.2.2.2 _ _ z1 z2 z3 w0.1 w0.2⟩
                  · rw [S'.2.1 _ (by omega), Re _ (by omega) le _ _ z1 z2 z3 w0.1 w0.2]
                    exact ⟨lM_R hR _ _ _, Int.le_refl _⟩
                have lm := lM_le hR (c := (x : Int) / 4) (l := (x : Int) % 4) hm w0 z1
                rw [nA_bt hG (show k ≤ nA Kd by omega) ⟨z1, z2⟩] at lm
                refine sX12_stepCost P' ⟨by omega, by omega⟩ w0 z1 (sX12_behind hG P' B' (by omega) ⟨by omega, by omega⟩ w0 z1 ⟨⟨by omega, by omega⟩, ⟨by omega, by omega⟩, ⟨by omega, by omega⟩, ?_⟩)
                generalize hV : g' 99 (144 * ((k ||| nb Kd (zNx Kd ((x : Int) / 4) (w : Int)) : Nat) : Int) + (4 * zNx Kd ((x : Int) / 4) (w : Int) + (w : Int))) = V at vb ⊢
                refine iw (w + 1) _ (by omega) ?_ ?_ (fun ck => ?_) (fun ck w' w0 w1 ho => ?_)
                · split <;> omega
                · split <;> omega
                · have := vl ck
                  split <;> omega
                · by_cases e : w' = (w : Int)
                  · rw [e, hV]
                    split <;> omega
                  · have := vf ck w' w0 (by omega) ho
                    split <;> omega
          refine bX12_oneSet_10 ⟨⟨by omega, by omega⟩, fun z => absurd z (by omega), fun _ => ⟨⟨by omega, by omega⟩, ⟨by omega, by omega⟩, ?_⟩⟩
          refine wy 4 0 _ rfl (Int.le_refl _) fx.1 (fun ck => ?_) (fun ck w' w0 w1 => absurd w1 (by omega))
          have := S'.2.2.2 ((x : Int) / 4) ((x : Int) % 4) (by omega) (by omega) ck (by omega) (by omega)
          rw [show 4 * ((x : Int) / 4) + (x : Int) % 4 = (x : Int) by omega] at this
          exact this
      refine bX12_oneSet_2 ⟨by decide, fun z => absurd z (by decide), fun _ => ?_⟩
      exact sw 144 0 false g rfl S (fun _ => ⟨rfl, fun c l w c0 c1 ck l0 l1 w0 w1 ho hlt => absurd hlt (by omega)⟩) (fun z => absurd z (by decide))
  refine wX12_oneSet (hd _ h (Nat.le_refl _) ⟨fun _ _ => rfl, fun _ _ => rfl, fun i i0 i1 => ?_, fun c l c0 c1 ck l0 l1 => ?_⟩)
  · rw [Lo i i0 i1]; exact ⟨by decide, by decide⟩
  · rw [Lo _ (by omega) (by omega)]; exact (lM_R hR _ _ _).2
