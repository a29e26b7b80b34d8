/-! read: the two sides -/
theorem readc_x {a h : zMm} {v2 v3 v4 v8 x i : Int} {k : Nat} {K : Int → zMm → Prop} (hx : ¬ x = 0) (hR : zR x) (r4 : zR v4) (r8 : zR v8) (hk : k < 4) (C : CR (zRd a k v3 i) h) (hK : ∀ h', CR (zU (zRd a k v3 i) 7 3 x) h' → zHi81 h h' → K i h') : RR mX11_read 0 0 50 [some (.ref 0), none, some (.int (zI v2)), some (.int (zI v3)), some (.int (zI v4)), some (.ref (73 + 2 * k)), some (.int (zI (a 7 0))), some (.int (zI x)), some (.int (zI v8)), none, none, none] [] zS0 h (zQi zS0 K) := by
  have e : h 16 2 - a 7 0 = i := by
    rw [show h 16 2 = a 7 0 + i from (C.2.1.1).trans (zRd_at a k v3 i).1]
    omega
  have key : K (h 16 2 - a 7 0) (zU h 0 15 x) := by
    rw [e]
    exact hK _ C.torn (fun o ho => zU_off o (by omega))
  exact bX11_read_50 (zQ7 hk) ⟨r8, r4, fun _ => key, fun _ => ⟨hR, fun _ => key, fun d => absurd d hx⟩⟩
theorem readc_in {a h0 : zMm} {v2 v3 v4 : Int} {k : Nat} {K : Int → zMm → Prop} (W : WF a) (C0 : CR a h0) (hk : k < 4) (r2 : zR v2) (r3 : zR v3) (r4 : 0 ≤ v4 ∧ v4 ≤ 24) : ∀ (m : Nat) (i : Int) (h : zMm), 0 ≤ i → i + m = v4 → a 7 0 + i ≤ 24 → CR (zRd a k v3 i) h → (∀ o : Nat, o ≠ 16 → o ≠ 17 → o ≠ 18 → h o = h0 o) → ((rdR a k v2 v3 m i).1 = 0 → ∀ h', CR (zU (zRd a k v3 (rdR a k v2 v3 m i).2.2) 7 3 (rdR a k v2 v3 m i).2.1) h' → zHi81 h0 h' → K (rdR a k v2 v3 m i).2.2 h') → (¬ (rdR a k v2 v3 m i).1 = 0 → ∀ h', CR a h' → zHi81 h0 h' → K (rdR a k v2 v3 m i).1 h') → RR mX11_read 0 0 50 [some (.ref 0), none, some (.int (zI v2)), some (.int (zI v3)), some (.int (zI v4)), some (.ref (73 + 2 * k)), some (.int (zI (a 7 0))), some (.int (zI 0)), some (.int (zI i)), none, none, none] [] zS0 h (zQi zS0 K) := by
  intro m
  induction m with
  | zero =>
    intro i h i0 im hi C F k1 k2
    have k1 := k1 rfl
    refine bX11_read_50 (zQ7 hk) ⟨⟨by omega, by omega⟩, ⟨by omega, by omega⟩, fun _ => ?_, fun d => absurd (by omega) d⟩
    rw [show h 16 2 = a 7 0 + i from (C.2.1.1).trans (zRd_at a k v3 i).1, show a 7 0 + i - a 7 0 = i by omega]
    exact k1 _ C.torn (fun o ho => by rw [zU_off o (by omega)]; exact F o (by omega) (by omega) (by omega))
  | succ m ih =>
    intro i h i0 im hi C F k1 k2
    have w0 := W.2.2.2.1.1
    have S5 : cS a h := by
      refine C0.2.2.2.2.1.to (fun o _ _ => rfl) (fun o _ _ => F o (by omega) (by omega) (by omega))
    have f1 := fF_R a k v2 (v3 + 2 * i)
    have f2 := fF_R a k v2 (v3 + 2 * i + 1)
    have hiF : zHi81 h0 h := fun o ho => F o (by omega) (by omega) (by omega)
    unfold rdR at k1 k2
    have ref : ∀ h', (∀ o : Nat, o ≠ 16 → o ≠ 17 → o ≠ 18 → h' o = h0 o) → h' 17 = h 17 → h' 18 = h 18 → CR a (zU h' 16 2 (a 7 0)) ∧ zHi81 h0 (zU h' 16 2 (a 7 0)) := by
      intro h' F' e17 e18
      refine ⟨C0.moves (fun _ _ _ _ => rfl) (fun _ _ => rfl) (fun o c1 c2 c3 => by rw [zU_off o c1]; exact F' o c1 c2 c3) ⟨zU_eq _ _ _ _, fun j j0 j1 => ?_⟩, fun o ho => by rw [zU_off o (by omega)]; exact F' o (by omega) (by omega) (by omega)⟩
      obtain ⟨d1, d2, d3, d4, d5⟩ := zRd_at a k v3 i
      have := C.2.1.2 j j0 (by rw [d1]; omega)
      rw [d4, d5, if_neg (by omega), if_neg (by omega)] at this
      rw [zU_off 17 (by decide), zU_off 18 (by decide), e17, e18]
      exact this
    by_cases c1 : ¬ fF a k v2 (v3 + 2 * i) = 0
    · rw [if_pos c1] at k1 k2
      have k1 := k1 rfl
      refine bX11_read_50 (zQ7 hk) ⟨⟨by omega, by omega⟩, ⟨by omega, by omega⟩, fun d => absurd d (by omega), fun _ => ⟨by decide, fun d => absurd rfl d, fun _ => ⟨r3, sX7_faultOf W S5 hk r2 ⟨by omega, by omega⟩ ⟨⟨by omega, by omega⟩, fun _ => ⟨fun _ => ?_, fun d => absurd d c1⟩, fun d => absurd d c1⟩⟩⟩⟩
      exact readc_x c1 ⟨by omega, by omega⟩ ⟨by omega, by omega⟩ ⟨by omega, by omega⟩ hk C (fun h' z1 z2 => k1 h' z1 (hiF.trans z2))
    rw [if_neg c1] at k1 k2
    have c1 : fF a k v2 (v3 + 2 * i) = 0 := by omega
    refine bX11_read_50 (zQ7 hk) ⟨⟨by omega, by omega⟩, ⟨by omega, by omega⟩, fun d => absurd d (by omega), fun _ => ⟨by decide, fun d => absurd rfl d, fun _ => ⟨r3, sX7_faultOf W S5 hk r2 ⟨by omega, by omega⟩ ⟨⟨by omega, by omega⟩, fun d => absurd c1 d, fun _ => sX7_faultOf W S5 hk r2 ⟨by omega, by omega⟩ ⟨⟨by omega, by omega⟩, fun d => ?_, fun d => ?_⟩⟩⟩⟩⟩
    · rw [if_pos d] at k1 k2
      have k1 := k1 rfl
      exact readc_x d ⟨by omega, by omega⟩ ⟨by omega, by omega⟩ ⟨by omega, by omega⟩ hk C (fun h' z1 z2 => k1 h' z1 (hiF.trans z2))
    · rw [if_neg (fun z => z d)] at k1 k2
      have g1 : 0 ≤ v3 + 2 * i ∧ v3 + 2 * i < a 31 k := by
        unfold fF at c1
        by_cases z1 : a 30 (k : Int) = -1
        · rw [if_pos z1] at c1; cases c1
        · rw [if_neg z1] at c1
          by_cases z2 : ¬ v2 = a 30 (k : Int)
          · rw [if_pos z2] at c1; cases c1
          · rw [if_neg z2] at c1
            by_cases z3 : 0 ≤ v3 + 2 * i ∧ v3 + 2 * i < a 31 k
            · exact z3
            · rw [if_neg z3] at c1; cases c1
      have g2 : 0 ≤ v3 + 2 * i + 1 ∧ v3 + 2 * i + 1 < a 31 k := by
        unfold fF at d
        by_cases z1 : a 30 (k : Int) = -1
        · rw [if_pos z1] at d; cases d
        · rw [if_neg z1] at d
          by_cases z2 : ¬ v2 = a 30 (k : Int)
          · rw [if_pos z2] at d; cases d
          · rw [if_neg z2] at d
            by_cases z3 : 0 ≤ v3 + 2 * i + 1 ∧ v3 + 2 * i + 1 < a 31 k
            · exact z3
            · rw [if_neg z3] at d; cases d
      obtain ⟨y1, y2, y3⟩ := W.2.2.2.2.2.2.2 k hk
      refine wX11_moveFrom (zQ7 hk) (sX7_valueAt W S5 hk g1 (sX7_valueAt W S5 hk g2 (sX11_isMove (y3 _ (by omega) (by omega)) (y3 _ (by omega) (by omega)) ?_)))
      simp only [decide_eq_true_eq, decide_eq_false_iff_not]
      have em : h 16 2 = a 7 0 + i := (C.2.1.1).trans (zRd_at a k v3 i).1
      refine ⟨fun f => wX5_append m0_16 ?_, fun f => ?_⟩
      · rw [if_neg (fun z => z f)] at k1 k2
        rw [em]
        refine ⟨⟨by omega, by omega⟩, fun g => ⟨⟨by omega, by omega⟩, ?_⟩, fun g => ?_⟩
        · rw [if_neg (by omega)] at k1 k2
          rw [if_pos rfl]
          refine ⟨by decide, fun _ => ?_, fun z => absurd rfl z⟩
          rw [d]
          have C' := zMv_C (w := a (32 + k) (v3 + 2 * i)) (s := a (32 + k) (v3 + 2 * i + 1)) C
          rw [(zRd_at a k v3 i).1, zRd_st a k v3 i i0] at C'
          exact ih (i + 1) _ (by omega) (by omega) (by omega) C' (fun o z1 z2 z3 => by rw [zU_off o z1, zU_off o z3, zU_off o z2]; exact F o z1 z2 z3) k1 k2
        · rw [if_pos (by omega)] at k1 k2
          have k2 := k2 (show ¬ (-3 : Int) = 0 by decide)
          rw [if_neg (by decide)]
          refine ⟨by decide, fun z => absurd z (by decide), fun _ => ?_⟩
          obtain ⟨p1, p2⟩ := ref h F rfl rfl
          exact k2 _ p1 p2
      · rw [if_pos f] at k1 k2
        have k2 := k2 (show ¬ -20 - i = 0 by omega)
        refine ⟨⟨by omega, by omega⟩, fun z => absurd z (by omega), fun _ => ?_⟩
        obtain ⟨p1, p2⟩ := ref h F rfl rfl
        exact k2 _ p1 p2
theorem cRead {a h : zMm} {v1 v2 v3 v4 : Int} {K : Int → zMm → Prop} (W : WF a) (C : CR a h) (r1 : zR v1) (r2 : zR v2) (r3 : zR v3) (r4 : zR v4) (hK : ∀ h', CR (aRead a v1 v2 v3 v4) h' → zHi81 h h' → K (fRead a v1 v2 v3 v4) h') : zCi mX11_read [.ref 0, .int (zI v1), .int (zI v2), .int (zI v3), .int (zI v4)] zS0 h K := by
  unfold aRead fRead at hK
  have w0 := W.2.2.2.1.1
  have no : ¬ (0 ≤ v1 ∧ v1 ≤ 3 ∧ 0 ≤ v2 ∧ v2 ≤ 2 ∧ 0 ≤ v4 ∧ v4 ≤ 24) → K (-1) h := by
    intro c
    rw [if_neg (fun z => c z.1), if_neg c] at hK
    exact hK h C (fun _ _ => rfl)
  refine wX11_read (sX11_isSheet r1 ?_)
  simp only [decide_eq_true_eq, decide_eq_false_iff_not]
  refine ⟨fun c => no (by omega), fun c => sX11_isLane r2 ?_⟩
  simp only [decide_eq_true_eq, decide_eq_false_iff_not]
  refine ⟨fun d => no (by omega), fun d => sX11_isWithin r4 (by decide) (by decide) ?_⟩
  simp only [decide_eq_true_eq, decide_eq_false_iff_not]
  refine ⟨fun f => ⟨by omega, ?_⟩, fun f => no (by omega)⟩
  have g : 0 ≤ v1 ∧ v1 ≤ 3 ∧ 0 ≤ v2 ∧ v2 ≤ 2 ∧ 0 ≤ v4 ∧ v4 ≤ 24 := by omega
  rw [show h 16 2 = a 7 0 from C.2.1.1]
  refine readc_in (h0 := h) W C (by omega) r2 r3 f v4.toNat 0 h (by decide) (by omega) (by omega) (by rw [zRd_0]; exact C) (fun _ _ _ _ => rfl) (fun z h' z1 z2 => ?_) (fun z h' z1 z2 => ?_)
  · rw [if_pos ⟨g, z⟩, if_pos g, if_pos z] at hK
    exact hK h' z1 z2
  · rw [if_neg (fun y => z y.2), if_pos g, if_neg z] at hK
    exact hK h' z1 z2
theorem readm_x {a h : zMm} {v1 v2 v3 v4 v5 v6 v7 : Int} {K : Int → zMm → Prop} (hx : ¬ v5 = 0) (h5 : zR v5) (h7 : zR v7) (h4 : 0 ≤ v4 ∧ v4 ≤ 24) (hR : RR mX12_read 0 0 205 [some (.ref 81), some (.int (zI v1)), none, some (.int (zI v3)), none, some (.int (zI v5)), some (.int (zI v6)), some (.int (zI 0)), none] [] zS0 h (zQi zS0 K)) : RR mX12_read 0 0 48 [some (.ref 81), some (.int (zI v1)), some (.int (zI v2)), some (.int (zI v3)), some (.int (zI v4)), some (.int (zI v5)), some (.int (zI v6)), some (.int (zI v7)), none] [] zS0 h (zQi zS0 K) :=
  bX12_read_48 ⟨h7, ⟨by omega, by omega⟩, fun _ => hR, fun _ => ⟨h5, fun _ => hR, fun d => absurd d hx⟩⟩
theorem readm_2 {a h : zMm} {v1 v3 by5 came : Int} {K : Int → zMm → Prop} (W : WF a) (hv : 0 ≤ v1 ∧ v1 ≤ 3) (hc : 0 ≤ came ∧ came ≤ 24) (hp : ∀ j : Int, 0 ≤ j → j < came → (0 ≤ v3 + 2 * j ∧ v3 + 2 * j + 1 < 48) ∧ a 7 0 + j < 24) (hK : ∀ h', MR (zU (zRd a v1.toNat v3 came) 7 3 by5) h' → zLo81 h h' → K came h') : ∀ (n : Nat) (j : Int) (h1 : zMm), 0 ≤ j → j + n = came → MR (zRd a v1.toNat v3 j) h1 → (∀ o : Nat, o ≠ 92 → h1 o = h o) → RR mX12_read 0 0 205 [some (.ref 81), some (.int (zI v1)), none, some (.int (zI v3)), none, some (.int (zI by5)), some (.int (zI came)), some (.int (zI j)), none] [] zS0 h1 (zQi zS0 K) := by
  have ek : ((v1.toNat : Nat) : Int) = v1 := by omega
  intro n
  induction n with
  | zero =>
    intro j h1 j0 jn M F
    refine bX12_read_205 ⟨⟨by omega, by omega⟩, ⟨by omega, by omega⟩, fun _ => ?_, fun d => absurd (by omega) d⟩
    rw [show j = came by omega] at M
    exact hK _ M.torn (fun o ho => by rw [zU_off o (by omega)]; exact F o (by omega))
  | succ n ih =>
    intro j h1 j0 jn M F
    obtain ⟨p1, p2⟩ := hp j j0 (by omega)
    obtain ⟨d1, d2, d3, d4, d5⟩ := zRd_at a v1.toNat v3 j
    obtain ⟨s1, s2, s3⟩ := M.2.2.2.1 v1.toNat (by omega)
    have t1 := s3 (v3 + 2 * j) p1.1 (by omega)
    have t2 := s3 (v3 + 2 * j + 1) (by omega) (by omega)
    rw [ek, d3 (32 + v1.toNat) (by omega) (by omega) (by omega)] at t1 t2
    have w0 := W.2.2.2.1.1
    refine bX12_read_205 ⟨⟨by omega, by omega⟩, ⟨by omega, by omega⟩, fun d => absurd d (by omega), fun _ => ⟨⟨by omega, by omega⟩, ⟨by omega, by omega⟩, ?_⟩⟩
    rw [show 48 * v1 + v3 + 2 * j = 48 * v1 + (v3 + 2 * j) by omega, t1, show 48 * v1 + (v3 + 2 * j) + 1 = 48 * v1 + (v3 + 2 * j + 1) by omega, t2]
    refine sX12_addMove M (by rw [d1]; omega) (fun h2 M2 F2 => ?_)
    rw [zRd_st a v1.toNat v3 j j0] at M2
    exact ih (j + 1) h2 (by omega) (by omega) M2 (fun o ho => (F2 o ho).trans (F o ho))
/-- one place of the model's first walk -/
theorem readm_st {a h : zMm} {v1 v2 v3 v4 v6 v7 : Int} {K : Int → zMm → Prop} (W : WF a) (M : MR a h) (hv : 0 ≤ v1 ∧ v1 ≤ 3) (r2 : 0 ≤ v2 ∧ v2 ≤ 2) (r3 : zR v3) (r4 : 0 ≤ v4 ∧ v4 ≤ 24) (h7 : 0 ≤ v7 ∧ v7 < 2 * v4)
    (hX : ¬ fF a v1.toNat v2 (v3 + v7) = 0 → RR mX12_read 0 0 205 [some (.ref 81), some (.int (zI v1)), none, some (.int (zI v3)), none, some (.int (zI (fF a v1.toNat v2 (v3 + v7)))), some (.int (zI v6)), some (.int (zI 0)), none] [] zS0 h (zQi zS0 K))
    (hG : fF a v1.toNat v2 (v3 + v7) = 0 → (0 ≤ v3 + v7 ∧ v3 + v7 < a 31 v1) → ((¬ v7 % 2 = 1 → RR mX12_read 0 0 48 [some (.ref 81), some (.int (zI v1)), some (.int (zI v2)), some (.int (zI v3)), some (.int (zI v4)), some (.int (zI 0)), some (.int (zI v6)), some (.int (zI (v7 + 1))), none] [] zS0 h (zQi zS0 K)) ∧ (v7 % 2 = 1 → ((0 ≤ ((((48 * v1) + v3) + v7) - 1) ∧ ((((48 * v1) + v3) + v7) - 1) < 192) ∧ ((0 ≤ (((((48 * v1) + v3) + v7) - 1) + 1) ∧ (((((48 * v1) + v3) + v7) - 1) + 1) < 192) ∧ zCb mX12_isMove [.int (zI (h 107 ((((48 * v1) + v3) + v7) - 1))), .int (zI (h 107 (((((48 * v1) + v3) + v7) - 1) + 1)))] zS0 h (fun b20 h20 => ((b20 = true → (zR ((h20 92 192) + v6) ∧ ((¬ ((h20 92 192) + v6) = 24 → RR mX12_read 0 0 48 [some (.ref 81), some (.int (zI v1)), some (.int (zI v2)), some (.int (zI v3)), some (.int (zI v4)), some (.int (zI 0)), some (.int (zI (v6 + 1))), some (.int (zI (v7 + 1))), none] [] zS0 h20 (zQi zS0 K)) ∧ (((h20 92 192) + v6) = 24 → K (-3) h20)))) ∧ (b20 = false → K ((-20) - v6) h20)))))))) : RR mX12_read 0 0 48 [some (.ref 81), some (.int (zI v1)), some (.int (zI v2)), some (.int (zI v3)), some (.int (zI v4)), some (.int (zI 0)), some (.int (zI v6)), some (.int (zI v7)), none] [] zS0 h (zQi zS0 K) := by
  have hk : v1.toNat < 4 := by omega
  have ek : ((v1.toNat : Nat) : Int) = v1 := by omega
  obtain ⟨s1, s2, s3⟩ := M.2.2.2.1 v1.toNat hk
  obtain ⟨w1, w2, w3⟩ := W.2.2.2.2.2.2.2 v1.toNat hk
  rw [ek] at s1 s2 s3 w1 w2
  unfold fF at hX hG
  rw [ek] at hX hG
  refine bX12_read_48 ⟨⟨by omega, by omega⟩, ⟨by omega, by omega⟩, fun d => absurd d (by omega), fun _ => ⟨by decide, fun d => absurd rfl d, fun _ => ⟨⟨by omega, by omega⟩, ?_⟩⟩⟩
  rw [s1, s2]
  by_cases c1 : a 30 v1 = -1
  · rw [if_pos c1] at hX hG ⊢
    exact ⟨by decide, fun d => absurd rfl d, fun _ => readm_x (a := a) (by decide) (by decide) ⟨by omega, by omega⟩ r4 (hX (by decide))⟩
  rw [if_neg c1] at hX hG ⊢
  refine ⟨⟨by omega, by omega⟩, fun _ => ⟨⟨by omega, by omega⟩, fun d => ⟨r3, ⟨by omega, by omega⟩, sX12_in' ⟨by omega, by omega⟩ (by decide) ⟨by omega, by omega⟩ ?_⟩, fun d => ?_⟩, fun d => by omega⟩
  · rw [if_neg (fun z => z d.symm)] at hX hG
    by_cases c3 : 0 ≤ v3 + v7 ∧ v3 + v7 < a 31 v1
    · rw [if_pos c3] at hX hG
      obtain ⟨q1, q2⟩ := hG rfl c3
      rw [decide_eq_true (by omega : 0 ≤ v3 + v7 ∧ v3 + v7 ≤ a 31 v1 - 1), if_pos rfl]
      exact ⟨by decide, fun z => absurd rfl z, fun _ => ⟨⟨by omega, by omega⟩, q1, q2⟩⟩
    · rw [if_neg c3] at hX hG
      rw [decide_eq_false (by omega : ¬ (0 ≤ v3 + v7 ∧ v3 + v7 ≤ a 31 v1 - 1)), if_neg (by decide)]
      exact ⟨by decide, fun _ => readm_x (a := a) (by decide) (by decide) ⟨by omega, by omega⟩ r4 (hX (by decide)), fun z => absurd z (by decide)⟩
  · rw [if_pos (fun z => d z.symm)] at hX hG
    exact readm_x (a := a) (by decide) (by decide) ⟨by omega, by omega⟩ r4 (hX (by decide))
theorem readm_in {a h : zMm} {v1 v2 v3 v4 : Int} {K : Int → zMm → Prop} (W : WF a) (M : MR a h) (hv : 0 ≤ v1 ∧ v1 ≤ 3) (r2 : 0 ≤ v2 ∧ v2 ≤ 2) (r3 : zR v3) (r4 : 0 ≤ v4 ∧ v4 ≤ 24) : ∀ (m : Nat) (i : Int), 0 ≤ i → i + m = v4 → a 7 0 + i ≤ 24 → (∀ j : Int, 0 ≤ j → j < i → (0 ≤ v3 + 2 * j ∧ v3 + 2 * j + 1 < 48) ∧ a 7 0 + j < 24) → ((rdR a v1.toNat v2 v3 m i).1 = 0 → ∀ h', MR (zU (zRd a v1.toNat v3 (rdR a v1.toNat v2 v3 m i).2.2) 7 3 (rdR a v1.toNat v2 v3 m i).2.1) h' → zLo81 h h' → K (rdR a v1.toNat v2 v3 m i).2.2 h') → (¬ (rdR a v1.toNat v2 v3 m i).1 = 0 → K (rdR a v1.toNat v2 v3 m i).1 h) → RR mX12_read 0 0 48 [some (.ref 81), some (.int (zI v1)), some (.int (zI v2)), some (.int (zI v3)), some (.int (zI v4)), some (.int (zI 0)), some (.int (zI i)), some (.int (zI (2 * i))), none] [] zS0 h (zQi zS0 K) := by
  have hk : v1.toNat < 4 := by omega
  have ek : ((v1.toNat : Nat) : Int) = v1 := by omega
  intro m
  induction m with
  | zero =>
    intro i i0 im hi hp k1 k2
    have k1 := k1 rfl
    refine bX12_read_48 ⟨⟨by omega, by omega⟩, ⟨by omega, by omega⟩, fun _ => ?_, fun d => absurd (by omega) d⟩
    exact readm_2 W hv (by omega) hp k1 i.toNat 0 h (by decide) (by omega) (by rw [zRd_0]; exact M) (fun _ _ => rfl)
  | succ m ih =>
    intro i i0 im hi hp k1 k2
    obtain ⟨w1, w2, w3⟩ := W.2.2.2.2.2.2.2 v1.toNat hk
    obtain ⟨s1, s2, s3⟩ := M.2.2.2.1 v1.toNat hk
    rw [ek] at w1 w2 s1 s2 s3
    have w0 := W.2.2.2.1.1
    unfold rdR at k1 k2
    refine readm_st W M hv r2 r3 r4 ⟨by omega, by omega⟩ (fun c => ?_) (fun c g => ⟨fun _ => ?_, fun d => absurd d (by omega)⟩)
    · rw [if_pos c] at k1 k2
      have k1 := k1 rfl
      exact readm_2 W hv (by omega) hp k1 i.toNat 0 h (by decide) (by omega) (by rw [zRd_0]; exact M) (fun _ _ => rfl)
    rw [if_neg (fun z => z c)] at k1 k2
    refine readm_st W M hv r2 r3 r4 ⟨by omega, by omega⟩ (fun c2 => ?_) (fun c2 g2 => ⟨fun z => absurd (by omega) z, fun _ => ⟨⟨by omega, by omega⟩, ⟨by omega, by omega⟩, ?_⟩⟩)
    · rw [show v3 + (2 * i + 1) = v3 + 2 * i + 1 by omega] at c2 ⊢
      rw [if_pos c2] at k1 k2
      have k1 := k1 rfl
      exact readm_2 W hv (by omega) hp k1 i.toNat 0 h (by decide) (by omega) (by rw [zRd_0]; exact M) (fun _ _ => rfl)
    rw [show v3 + (2 * i + 1) = v3 + 2 * i + 1 by omega] at c2
    rw [if_neg (fun z => z c2)] at k1 k2
    have t1 := s3 (v3 + 2 * i) g.1 (by omega)
    have t2 := s3 (v3 + 2 * i + 1) (by omega) (by omega)
    rw [show 48 * v1 + v3 + (2 * i + 1) - 1 = 48 * v1 + (v3 + 2 * i) by omega, show 48 * v1 + (v3 + 2 * i) + 1 = 48 * v1 + (v3 + 2 * i + 1) by omega, t1, t2]
    refine sX12_isMove (w3 _ (by omega) (by omega)) (w3 _ (by omega) (by omega)) ?_
    simp only [decide_eq_true_eq, decide_eq_false_iff_not]
    rw [M.size]
    refine ⟨fun f => ⟨⟨by omega, by omega⟩, fun g3 => ?_, fun g3 => ?_⟩, fun f => ?_⟩
    · rw [if_neg (fun z => z f), if_neg g3] at k1 k2
      rw [show 2 * i + 1 + 1 = 2 * (i + 1) by omega]
      refine ih (i + 1) (by omega) (by omega) (by omega) (fun j j0 j1 => ?_) k1 k2
      by_cases ce : j = i
      · rw [ce]
        exact ⟨⟨g.1, by omega⟩, by omega⟩
      · exact hp j j0 (by omega)
    · rw [if_neg (fun z => z f), if_pos g3] at k1 k2
      exact k2 (show ¬ (-3 : Int) = 0 by decide)
    · rw [if_pos f] at k1 k2
      exact k2 (show ¬ -20 - i = 0 by omega)
theorem mRead {a h : zMm} {v1 v2 v3 v4 : Int} {K : Int → zMm → Prop} (W : WF a) (M : MR a h) (r1 : zR v1) (r2 : zR v2) (r3 : zR v3) (r4 : zR v4) (hK : ∀ h', MR (aRead a v1 v2 v3 v4) h' → zLo81 h h' → K (fRead a v1 v2 v3 v4) h') : zCi mX12_read [.ref 81, .int (zI v1), .int (zI v2), .int (zI v3), .int (zI v4)] zS0 h K := by
  unfold aRead fRead at hK
  have w0 := W.2.2.2.1.1
  have no : ¬ (0 ≤ v1 ∧ v1 ≤ 3 ∧ 0 ≤ v2 ∧ v2 ≤ 2 ∧ 0 ≤ v4 ∧ v4 ≤ 24) → K (-1) h := by
    intro c
    rw [if_neg (fun z => c z.1), if_neg c] at hK
    exact hK h M (fun _ _ => rfl)
  refine wX12_read ⟨r1, sX12_in r1 (by decide) (by decide) ?_⟩
  simp only [decide_eq_true_eq, decide_eq_false_iff_not]
  refine ⟨fun c => no (by omega), fun c => ⟨r2, sX12_in r2 (by decide) (by decide) ?_⟩⟩
  simp only [decide_eq_true_eq, decide_eq_false_iff_not]
  refine ⟨fun d => no (by omega), fun d => ⟨r4, sX12_in r4 (by decide) (by decide) ?_⟩⟩
  simp only [decide_eq_true_eq, decide_eq_false_iff_not]
  refine ⟨fun f => ?_, fun f => no (by omega)⟩
  have g : 0 ≤ v1 ∧ v1 ≤ 3 ∧ 0 ≤ v2 ∧ v2 ≤ 2 ∧ 0 ≤ v4 ∧ v4 ≤ 24 := by omega
  refine readm_in W M c d r3 f v4.toNat 0 (by decide) (by omega) (by omega) (fun j j0 j1 => absurd j1 (by omega)) (fun z h' z1 z2 => ?_) (fun z => ?_)
  · rw [if_pos ⟨g, z⟩, if_pos g, if_pos z] at hK
    exact hK h' z1 z2
  · rw [if_neg (fun y => z y.2), if_pos g, if_neg z] at hK
    exact hK h M (fun _ _ => rfl)
