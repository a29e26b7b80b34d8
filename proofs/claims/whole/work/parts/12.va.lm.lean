/-! LEAST: its minutes, by numbers -/
theorem lCo_R {Kd R : Int → Int} (hR : zRu R) (c look way : Int) : 1 ≤ lCo Kd R c look way ∧ lCo Kd R c look way ≤ 10 := by
  have h1 := zMn_R (Kd := Kd) hR way (zNx Kd c way)
  have h2 := zQ_R look way
  have h3 := hR.2.1
  unfold lCo
  rcases (show zQ look way = 0 ∨ zQ look way = 1 ∨ zQ look way = 2 by omega) with e | e | e <;> rw [e] <;> omega
theorem lV_0 (Kd R : Int → Int) (m c l : Int) : lV Kd R 0 m c l = if m = lAll Kd then 0 else 1000000 := rfl
theorem lV_s (Kd R : Int → Int) (n : Nat) (m c l : Int) : lV Kd R (n + 1) m c l = if m = lAll Kd then 0 else min 1000000 (min (lAt Kd R (lV Kd R n) m c l 0) (min (lAt Kd R (lV Kd R n) m c l 1) (min (lAt Kd R (lV Kd R n) m c l 2) (lAt Kd R (lV Kd R n) m c l 3)))) := rfl
theorem lV_all (Kd R : Int → Int) (n : Nat) (c l : Int) : lV Kd R n (lAll Kd) c l = 0 := by
  cases n with
  | zero => rw [lV_0, if_pos rfl]
  | succ n => rw [lV_s, if_pos rfl]
theorem lV_le {Kd R : Int → Int} {n : Nat} {m c l way : Int} (hm : ¬ m = lAll Kd) (hw : 0 ≤ way ∧ way ≤ 3) : lV Kd R (n + 1) m c l ≤ lAt Kd R (lV Kd R n) m c l way := by
  rw [lV_s, if_neg hm]
  generalize lV Kd R n = f
  rcases (show way = 0 ∨ way = 1 ∨ way = 2 ∨ way = 3 by omega) with rfl | rfl | rfl | rfl <;> omega
theorem lV_at {Kd R : Int → Int} {n : Nat} {m c l : Int} (hm : ¬ m = lAll Kd) : lV Kd R (n + 1) m c l = 1000000 ∨ ∃ way : Int, (0 ≤ way ∧ way ≤ 3) ∧ 0 ≤ zNx Kd c way ∧ lV Kd R (n + 1) m c l = lCo Kd R c l way + lV Kd R n (iO m (lBt Kd (zNx Kd c way))) (zNx Kd c way) way := by
  rw [lV_s, if_neg hm]
  generalize lV Kd R n = f
  have key : ∀ way : Int, (0 ≤ way ∧ way ≤ 3) → ∀ x : Int, x = lAt Kd R f m c l way → x = 1000000 ∨ ∃ way : Int, (0 ≤ way ∧ way ≤ 3) ∧ 0 ≤ zNx Kd c way ∧ x = lCo Kd R c l way + f (iO m (lBt Kd (zNx Kd c way))) (zNx Kd c way) way := by
    intro way hw x hx
    by_cases h : 0 ≤ zNx Kd c way
    · refine Or.inr ⟨way, hw, h, ?_⟩
      rw [hx]
      exact if_pos h
    · refine Or.inl ?_
      rw [hx]
      exact if_neg h
  have k0 := key 0 (by decide) _ rfl
  have k1 := key 1 (by decide) _ rfl
  have k2 := key 2 (by decide) _ rfl
  have k3 := key 3 (by decide) _ rfl
  generalize lAt Kd R f m c l 0 = x0 at k0 ⊢
  generalize lAt Kd R f m c l 1 = x1 at k1 ⊢
  generalize lAt Kd R f m c l 2 = x2 at k2 ⊢
  generalize lAt Kd R f m c l 3 = x3 at k3 ⊢
  rcases (show min 1000000 (min x0 (min x1 (min x2 x3))) = 1000000 ∨ min 1000000 (min x0 (min x1 (min x2 x3))) = x0 ∨ min 1000000 (min x0 (min x1 (min x2 x3))) = x1 ∨ min 1000000 (min x0 (min x1 (min x2 x3))) = x2 ∨ min 1000000 (min x0 (min x1 (min x2 x3))) = x3 by omega) with e | e | e | e | e
  · exact Or.inl e
  · rw [e]; exact k0
  · rw [e]; exact k1
  · rw [e]; exact k2
  · rw [e]; exact k3
theorem lV_R {Kd R : Int → Int} (hR : zRu R) : ∀ (n : Nat) (m c l : Int), 0 ≤ lV Kd R n m c l ∧ lV Kd R n m c l ≤ 1000000 := by
  intro n
  induction n with
  | zero =>
    intro m c l
    rw [lV_0]
    split <;> exact ⟨by decide, by decide⟩
  | succ n ih =>
    intro m c l
    by_cases hm : m = lAll Kd
    · rw [hm, lV_all]; exact ⟨by decide, by decide⟩
    · refine ⟨?_, ?_⟩
      · rcases lV_at (R := R) (n := n) (c := c) (l := l) hm with e | ⟨way, hw, ho, e⟩
        · omega
        · have h1 := lCo_R (Kd := Kd) hR c l way
          have h2 := ih (iO m (lBt Kd (zNx Kd c way))) (zNx Kd c way) way
          omega
      · rw [lV_s, if_neg hm]
        omega
theorem lAt_o {Kd R : Int → Int} {f : Int → Int → Int → Int} {m c l way : Int} (h : 0 ≤ zNx Kd c way) : lAt Kd R f m c l way = lCo Kd R c l way + f (iO m (lBt Kd (zNx Kd c way))) (zNx Kd c way) way := if_pos h
theorem lV_dec {Kd R : Int → Int} (hR : zRu R) : ∀ (n : Nat) (m c l : Int), lV Kd R (n + 1) m c l ≤ lV Kd R n m c l := by
  intro n
  induction n with
  | zero =>
    intro m c l
    by_cases hm : m = lAll Kd
    · rw [hm, lV_all, lV_all]; exact Int.le_refl _
    · have := lV_R (Kd := Kd) hR 1 m c l
      rw [lV_0 Kd R m c l, if_neg hm]
      exact this.2
  | succ n ih =>
    intro m c l
    by_cases hm : m = lAll Kd
    · rw [hm, lV_all, lV_all]; exact Int.le_refl _
    · rcases lV_at (R := R) (n := n) (c := c) (l := l) hm with e | ⟨way, hw, ho, e⟩
      · rw [e]; exact (lV_R hR _ m c l).2
      · rw [e]
        refine Int.le_trans (lV_le hm hw) ?_
        rw [lAt_o ho]
        have := ih (iO m (lBt Kd (zNx Kd c way))) (zNx Kd c way) way
        omega
theorem lV_mono {Kd R : Int → Int} (hR : zRu R) (n : Nat) : ∀ (k : Nat) (m c l : Int), lV Kd R (n + k) m c l ≤ lV Kd R n m c l := by
  intro k
  induction k with
  | zero => intro m c l; exact Int.le_refl _
  | succ k ih => intro m c l; exact Int.le_trans (lV_dec hR (n + k) m c l) (ih m c l)
theorem lV_conv {Kd R : Int → Int} (hR : zRu R) : ∀ (n N : Nat) (m c l : Int), lV Kd R n m c l < 1000000 → lV Kd R n m c l ≤ (N : Int) → lV Kd R N m c l ≤ lV Kd R n m c l := by
  intro n
  induction n with
  | zero =>
    intro N m c l h1 h2
    by_cases hm : m = lAll Kd
    · rw [hm, lV_all, lV_all]; exact Int.le_refl _
    · rw [lV_0, if_neg hm] at h1
      exact absurd h1 (by decide)
  | succ n ih =>
    intro N m c l h1 h2
    by_cases hm : m = lAll Kd
    · rw [hm, lV_all, lV_all]; exact Int.le_refl _
    · rcases lV_at (R := R) (n := n) (c := c) (l := l) hm with e | ⟨way, hw, ho, e⟩
      · omega
      · have hc := lCo_R (Kd := Kd) hR c l way
        have hv := lV_R (Kd := Kd) hR n (iO m (lBt Kd (zNx Kd c way))) (zNx Kd c way) way
        obtain ⟨N', rfl⟩ : ∃ N', N = N' + 1 := ⟨N - 1, by omega⟩
        have q := ih N' (iO m (lBt Kd (zNx Kd c way))) (zNx Kd c way) way (by omega) (by omega)
        refine Int.le_trans (lV_le hm hw) ?_
        rw [lAt_o ho]
        omega
theorem lM_n (Kd R : Int → Int) : ∃ N : Nat, (N : Int) = 1000000 ∧ ∀ m c l : Int, lM Kd R m c l = lV Kd R N m c l := ⟨1000000, rfl, fun _ _ _ => rfl⟩
theorem lM_R {Kd R : Int → Int} (hR : zRu R) (m c l : Int) : 0 ≤ lM Kd R m c l ∧ lM Kd R m c l ≤ 1000000 := by
  obtain ⟨N, -, e⟩ := lM_n Kd R
  rw [e]
  exact lV_R hR N m c l
theorem lM_all {Kd R : Int → Int} (c l : Int) : lM Kd R (lAll Kd) c l = 0 := by
  obtain ⟨N, -, e⟩ := lM_n Kd R
  rw [e, lV_all]
theorem lM_lV {Kd R : Int → Int} (hR : zRu R) (n : Nat) (m c l : Int) : lM Kd R m c l ≤ lV Kd R n m c l := by
  obtain ⟨N, hN, e⟩ := lM_n Kd R
  rw [e]
  have h1 := lV_R (Kd := Kd) hR n m c l
  have h2 := lV_R (Kd := Kd) hR N m c l
  by_cases h : lV Kd R n m c l < 1000000
  · exact lV_conv hR n N m c l h (by omega)
  · omega
theorem lM_le {Kd R : Int → Int} (hR : zRu R) {m c l way : Int} (hm : ¬ m = lAll Kd) (hw : 0 ≤ way ∧ way ≤ 3) (ho : 0 ≤ zNx Kd c way) : lM Kd R m c l ≤ lCo Kd R c l way + lM Kd R (iO m (lBt Kd (zNx Kd c way))) (zNx Kd c way) way := by
  obtain ⟨N, -, e⟩ := lM_n Kd R
  have h1 := lM_lV (Kd := Kd) hR (N + 1) m c l
  have h2 := lV_le (R := R) (n := N) (c := c) (l := l) hm hw
  rw [lAt_o ho] at h2
  rw [e (iO m (lBt Kd (zNx Kd c way)))]
  omega
theorem lM_at {Kd R : Int → Int} (hR : zRu R) {m c l : Int} (hm : ¬ m = lAll Kd) : lM Kd R m c l = 1000000 ∨ ∃ way : Int, (0 ≤ way ∧ way ≤ 3) ∧ 0 ≤ zNx Kd c way ∧ lM Kd R m c l = lCo Kd R c l way + lM Kd R (iO m (lBt Kd (zNx Kd c way))) (zNx Kd c way) way := by
  obtain ⟨N, hN, e⟩ := lM_n Kd R
  obtain ⟨N', rfl⟩ : ∃ N', N = N' + 1 := ⟨N - 1, by omega⟩
  rcases lV_at (R := R) (n := N') (c := c) (l := l) hm with q | ⟨way, hw, ho, q⟩
  · exact Or.inl ((e m c l).trans q)
  · refine Or.inr ⟨way, hw, ho, ?_⟩
    have h1 := lM_le hR (l := l) hm hw ho
    have h2 := lM_lV (Kd := Kd) hR N' (iO m (lBt Kd (zNx Kd c way))) (zNx Kd c way) way
    have h3 := e m c l
    omega
/-- what is nowhere above a step's worth is nowhere above the least -/
theorem lM_gt {Kd R : Int → Int} (hR : zRu R) {Dm : Int → Int → Int → Prop} {f : Int → Int → Int → Int} (h0 : ∀ m c l : Int, Dm m c l → f m c l ≤ 1000000 ∧ (m = lAll Kd → f m c l ≤ 0)) (h1 : ∀ m c l way : Int, Dm m c l → ¬ m = lAll Kd → 0 ≤ way → way ≤ 3 → 0 ≤ zNx Kd c way → Dm (iO m (lBt Kd (zNx Kd c way))) (zNx Kd c way) way ∧ f m c l ≤ lCo Kd R c l way + f (iO m (lBt Kd (zNx Kd c way))) (zNx Kd c way) way) {m c l : Int} (hd : Dm m c l) : f m c l ≤ lM Kd R m c l := by
  have key : ∀ (n : Nat) (m c l : Int), Dm m c l → f m c l ≤ lV Kd R n m c l := by
    intro n
    induction n with
    | zero =>
      intro m c l hd
      have := h0 m c l hd
      by_cases hm : m = lAll Kd
      · rw [hm] at this ⊢
        rw [lV_all]
        exact this.2 rfl
      · rw [lV_0, if_neg hm]
        exact this.1
    | succ n ih =>
      intro m c l hd
      have := h0 m c l hd
      by_cases hm : m = lAll Kd
      · rw [hm] at this ⊢
        rw [lV_all]
        exact this.2 rfl
      · rcases lV_at (R := R) (n := n) (c := c) (l := l) hm with e | ⟨way, hw, ho, e⟩
        · rw [e]; exact this.1
        · rw [e]
          obtain ⟨d', q⟩ := h1 m c l way hd hm hw.1 hw.2 ho
          have := ih _ _ _ d'
          omega
  obtain ⟨N, -, e⟩ := lM_n Kd R
  rw [e]
  exact key N m c l hd
theorem zQ_tri (a b c : Int) : zQ a c ≤ zQ a b + zQ b c := by
  unfold zQ
  repeat' split
  all_goals omega
theorem lM_turn {Kd R : Int → Int} (hR : zRu R) (m c l l2 : Int) : lM Kd R m c l ≤ zQ l l2 * R 1 + lM Kd R m c l2 := by
  have h3 := hR.2.1
  have h4 := zQ_R l l2
  have hp : 0 ≤ zQ l l2 * R 1 := Int.mul_nonneg h4.1 h3.1
  have h5 := lM_R (Kd := Kd) hR m c l
  have h6 := lM_R (Kd := Kd) hR m c l2
  by_cases hm : m = lAll Kd
  · subst hm
    rw [lM_all]
    omega
  · rcases lM_at hR (c := c) (l := l2) hm with e | ⟨way, hw, ho, e⟩
    · omega
    · have h7 := lM_le hR (l := l) hm hw ho
      have h8 := Int.mul_le_mul_of_nonneg_right (zQ_tri l l2 way) h3.1
      rw [Int.add_mul] at h8
      unfold lCo at e h7
      omega
