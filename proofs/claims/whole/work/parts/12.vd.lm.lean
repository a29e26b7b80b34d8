/-! LEAST: from target to target -/
def mnF (F : Nat → Int) : Nat → Int
  | 0 => 1000000
  | n + 1 => min (mnF F n) (F n)
theorem mnF_0 (F : Nat → Int) : ∀ n : Nat, mnF F n ≤ 1000000 := by
  intro n
  induction n with
  | zero => exact Int.le_refl _
  | succ n ih => show min (mnF F n) (F n) ≤ 1000000; omega
theorem mnF_le (F : Nat → Int) : ∀ n i : Nat, i < n → mnF F n ≤ F i := by
  intro n
  induction n with
  | zero => intro i h; exact absurd h (by omega)
  | succ n ih =>
    intro i h
    show min (mnF F n) (F n) ≤ F i
    by_cases e : i = n
    · rw [e]; omega
    · have := ih i (by omega)
      omega
theorem mnF_at (F : Nat → Int) : ∀ n : Nat, mnF F n = 1000000 ∨ ∃ i : Nat, i < n ∧ mnF F n = F i := by
  intro n
  induction n with
  | zero => exact Or.inl rfl
  | succ n ih =>
    have e : mnF F (n + 1) = min (mnF F n) (F n) := rfl
    rcases (show min (mnF F n) (F n) = mnF F n ∨ min (mnF F n) (F n) = F n by omega) with h | h
    · rw [e, h]
      rcases ih with q | ⟨i, q1, q2⟩
      · exact Or.inl q
      · exact Or.inr ⟨i, by omega, q2⟩
    · rw [e, h]
      exact Or.inr ⟨n, by omega, rfl⟩
theorem mnF_cg {F G : Nat → Int} : ∀ n : Nat, (∀ i : Nat, i < n → F i = G i) → mnF F n = mnF G n := by
  intro n
  induction n with
  | zero => intro _; rfl
  | succ n ih =>
    intro h
    show min (mnF F n) (F n) = min (mnF G n) (G n)
    rw [ih (fun i hi => h i (by omega)), h n (by omega)]
/-- the targets' cells -/
def lTg (Kd : Int → Int) (tg : Int → Int) : Prop := ∀ t : Int, 0 ≤ t → t < lRk Kd 36 → (0 ≤ tg t ∧ tg t < 36) ∧ Kd (tg t) ≤ 1 ∧ lRk Kd (tg t).toNat = t
/-- what is known of the minutes to a target, come to by one way -/
def lFr (Kd R : Int → Int) (tc look : Int) (f : Int → Int) : Prop :=
  (∀ x : Int, 0 ≤ x → x < 144 → 0 ≤ f x ∧ f x ≤ 1000000) ∧ f (tc * 4 + look) = 0 ∧
  (∀ c l w : Int, 0 ≤ c → c < 36 → ¬ Kd c = 2 → 0 ≤ l → l ≤ 3 → 0 ≤ w → w ≤ 3 → 0 ≤ zNx Kd c w → f (c * 4 + l) ≤ lCo Kd R c l w + f (zNx Kd c w * 4 + w)) ∧
  (∀ c l : Int, ∀ k : Nat, lDo Kd (k : Int) c l → lM Kd R (k : Int) c l ≤ f (c * 4 + l) + lM Kd R ((k ||| nb Kd tc : Nat) : Int) tc look)
def lF (Kd R : Int → Int) (tg : Int → Int) (fr : Int → Int → Int) (k : Nat) (c l : Int) (i : Nat) : Int :=
  if k ||| nb Kd (tg ((i / 4 : Nat) : Int)) = k then 1000000 else fr (i : Int) (c * 4 + l) + lM Kd R ((k ||| nb Kd (tg ((i / 4 : Nat) : Int)) : Nat) : Int) (tg ((i / 4 : Nat) : Int)) ((i % 4 : Nat) : Int)
theorem nb_g {Kd : Int → Int} {c : Int} (h : ¬ Kd c ≤ 1) : nb Kd c = 0 := if_neg h
theorem lF_is {Kd R : Int → Int} (hR : zRu R) (hG : lRk Kd 36 ≤ 7) {tg : Int → Int} (ht : lTg Kd tg) {fr : Int → Int → Int} (hf : ∀ i : Nat, (i : Int) < 4 * lRk Kd 36 → lFr Kd R (tg ((i / 4 : Nat) : Int)) ((i % 4 : Nat) : Int) (fr (i : Int))) {k : Nat} {c l : Int} (hm : ¬ (k : Int) = lAll Kd) (hd : lDo Kd (k : Int) c l) : mnF (lF Kd R tg fr k c l) (4 * lRk Kd 36).toNat = lM Kd R (k : Int) c l := by
  have hg0 := lRk_R Kd 36
  have lo : ∀ c l : Int, lDo Kd (k : Int) c l → lM Kd R (k : Int) c l ≤ mnF (lF Kd R tg fr k c l) (4 * lRk Kd 36).toNat := by
    intro c l h
    rcases mnF_at (lF Kd R tg fr k c l) (4 * lRk Kd 36).toNat with e | ⟨i, hi, e⟩
    · rw [e]; exact (lM_R hR _ _ _).2
    · rw [e]
      unfold lF
      by_cases q : k ||| nb Kd (tg ((i / 4 : Nat) : Int)) = k
      · rw [if_pos q]; exact (lM_R hR _ _ _).2
      · rw [if_neg q]
        exact (hf i (by omega)).2.2.2 c l k h
  refine Int.le_antisymm ?_ (lo c l hd)
  have := lM_gt hR (Dm := lDo Kd) (f := fun m c l => if m = (k : Int) then mnF (lF Kd R tg fr k c l) (4 * lRk Kd 36).toNat else lM Kd R m c l) (fun m c l h => ?_) (fun m c l way h hm' w0 w1 ho => ⟨h.m.step hG ⟨w0, w1⟩ ho, ?_⟩) hd
  · rw [if_pos rfl] at this
    exact this
  · show (if m = (k : Int) then mnF (lF Kd R tg fr k c l) (4 * lRk Kd 36).toNat else lM Kd R m c l) ≤ 1000000 ∧ (m = lAll Kd → (if m = (k : Int) then mnF (lF Kd R tg fr k c l) (4 * lRk Kd 36).toNat else lM Kd R m c l) ≤ 0)
    by_cases e : m = (k : Int)
    · rw [if_pos e]
      exact ⟨mnF_0 _ _, fun z => absurd (e.symm.trans z) hm⟩
    · rw [if_neg e]
      refine ⟨(lM_R hR _ _ _).2, fun z => ?_⟩
      rw [z, lM_all]
      exact Int.le_refl _
  · have hs := h.m.step hG ⟨w0, w1⟩ ho
    show (if m = (k : Int) then mnF (lF Kd R tg fr k c l) (4 * lRk Kd 36).toNat else lM Kd R m c l) ≤ lCo Kd R c l way + (if iO m (lBt Kd (zNx Kd c way)) = (k : Int) then mnF (lF Kd R tg fr k (zNx Kd c way) way) (4 * lRk Kd 36).toNat else lM Kd R (iO m (lBt Kd (zNx Kd c way))) (zNx Kd c way) way)
    have hc := lCo_R (Kd := Kd) hR c l way
    have lo' : lM Kd R (iO m (lBt Kd (zNx Kd c way))) (zNx Kd c way) way ≤ (if iO m (lBt Kd (zNx Kd c way)) = (k : Int) then mnF (lF Kd R tg fr k (zNx Kd c way) way) (4 * lRk Kd 36).toNat else lM Kd R (iO m (lBt Kd (zNx Kd c way))) (zNx Kd c way) way) := by
      by_cases e2 : iO m (lBt Kd (zNx Kd c way)) = (k : Int)
      · rw [if_pos e2, e2]
        rw [e2] at hs
        exact lo _ _ hs
      · rw [if_neg e2]; exact Int.le_refl _
    by_cases e : m = (k : Int)
    · subst e
      rw [if_pos rfl]
      obtain ⟨q, e3, d2, d3, d4, d5⟩ := h
      obtain rfl : k = q := by omega
      rcases zNx_R (Kd := Kd) (way := way) (show 0 ≤ c ∧ c < 36 from ⟨d3.1, d3.2.1⟩) with z | ⟨z1, z2, z3⟩
      · omega
      · rw [nA_bt hG d2 ⟨z1, z2⟩] at lo' hs ⊢
        by_cases e2 : k ||| nb Kd (zNx Kd c way) = k
        · rw [if_pos (by rw [e2])]
          rcases mnF_at (lF Kd R tg fr k (zNx Kd c way) way) (4 * lRk Kd 36).toNat with y | ⟨i, hi, y⟩
          · rw [y]
            have := mnF_0 (lF Kd R tg fr k c l) (4 * lRk Kd 36).toNat
            omega
          · rw [y]
            refine Int.le_trans (mnF_le _ _ i hi) ?_
            unfold lF
            by_cases q : k ||| nb Kd (tg ((i / 4 : Nat) : Int)) = k
            · rw [if_pos q, if_pos q]; omega
            · rw [if_neg q, if_neg q]
              have := (hf i (by omega)).2.2.1 c l way d3.1 d3.2.1 d3.2.2 d4.1 d4.2 w0 w1 ho
              omega
        · rw [if_neg (by omega)]
          have hk : Kd (zNx Kd c way) ≤ 1 := by
            refine Classical.byContradiction (fun y => e2 ?_)
            rw [nb_g y, Nat.or_zero]
          have r0 := lRk_R Kd (zNx Kd c way).toNat
          have r1 := lRk_lt (Kd := Kd) ⟨z1, z2⟩ hk (N := 36) z2
          generalize hi : (lRk Kd (zNx Kd c way).toNat * 4 + way).toNat = i
          have i1 : ((i / 4 : Nat) : Int) = lRk Kd (zNx Kd c way).toNat := by omega
          have i2 : ((i % 4 : Nat) : Int) = way := by omega
          have tt := ht ((i / 4 : Nat) : Int) (by omega) (by omega)
          have et : tg ((i / 4 : Nat) : Int) = zNx Kd c way := by
            have t3 := tt.2.2
            rw [i1] at t3
            rw [i1]
            rw [i1] at tt
            refine Classical.byContradiction (fun y => ?_)
            rcases (show (tg (lRk Kd (zNx Kd c way).toNat)) < zNx Kd c way ∨ zNx Kd c way < (tg (lRk Kd (zNx Kd c way).toNat)) by omega) with y | y
            · have := lRk_lt (Kd := Kd) tt.1 tt.2.1 (N := (zNx Kd c way).toNat) (by omega)
              omega
            · have := lRk_lt (Kd := Kd) ⟨z1, z2⟩ hk (N := (tg (lRk Kd (zNx Kd c way).toNat)).toNat) (by omega)
              omega
          have fi := hf i (by omega)
          rw [et, i2] at fi
          refine Int.le_trans (mnF_le _ _ i (by omega)) ?_
          unfold lF
          rw [et, i2, if_neg e2]
          have f1 := fi.2.1
          have f2 := fi.2.2.1 c l way d3.1 d3.2.1 d3.2.2 d4.1 d4.2 w0 w1 ho
          omega
    · rw [if_neg e]
      have := lM_le hR (l := l) hm' ⟨w0, w1⟩ ho
      omega
