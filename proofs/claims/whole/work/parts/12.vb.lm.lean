/-! LEAST: masks, a cell with one side open, how long it is -/
theorem lRk_R (Kd : Int → Int) : ∀ n : Nat, 0 ≤ lRk Kd n ∧ lRk Kd n ≤ (n : Int) := by
  intro n
  induction n with
  | zero => exact ⟨Int.le_refl 0, Int.le_refl 0⟩
  | succ n ih =>
    show 0 ≤ (if Kd (n : Int) ≤ 1 then lRk Kd n + 1 else lRk Kd n) ∧ (if Kd (n : Int) ≤ 1 then lRk Kd n + 1 else lRk Kd n) ≤ ((n + 1 : Nat) : Int)
    split <;> omega
theorem lRk_y {Kd : Int → Int} {n : Nat} (h : Kd (n : Int) ≤ 1) : lRk Kd (n + 1) = lRk Kd n + 1 := if_pos h
theorem lRk_o {Kd : Int → Int} {n : Nat} (h : ¬ Kd (n : Int) ≤ 1) : lRk Kd (n + 1) = lRk Kd n := if_neg h
theorem lRk_up (Kd : Int → Int) (n : Nat) : ∀ k : Nat, lRk Kd n ≤ lRk Kd (n + k) := by
  intro k
  induction k with
  | zero => exact Int.le_refl _
  | succ k ih =>
    by_cases h : Kd ((n + k : Nat) : Int) ≤ 1
    · have := lRk_y h
      rw [← Nat.add_assoc, this]; omega
    · have := lRk_o h
      rw [← Nat.add_assoc, this]; exact ih
theorem lRk_lt {Kd : Int → Int} {c : Int} (hc : 0 ≤ c ∧ c < 36) (h : Kd c ≤ 1) {N : Nat} (hN : c < (N : Int)) : lRk Kd c.toNat < lRk Kd N := by
  have e : ((c.toNat : Nat) : Int) = c := by omega
  have h1 := lRk_y (Kd := Kd) (n := c.toNat) (by rw [e]; exact h)
  have h2 := lRk_up Kd (c.toNat + 1) (N - (c.toNat + 1))
  rw [show c.toNat + 1 + (N - (c.toNat + 1)) = N by omega] at h2
  omega
def nA (Kd : Int → Int) : Nat := 2 ^ (lRk Kd 36).toNat - 1
def nb (Kd : Int → Int) (c : Int) : Nat := if Kd c ≤ 1 then 2 ^ (lRk Kd c.toNat).toNat else 0
theorem nP_pos (g : Nat) : 0 < 2 ^ g := Nat.pow_pos (by decide)
theorem lAll_n {Kd : Int → Int} (hG : lRk Kd 36 ≤ 7) : lAll Kd = (nA Kd : Int) := by
  have h0 := lRk_R Kd 36
  unfold lAll nA
  rw [iSl_1 ⟨h0.1, by omega⟩]
  have := nP_pos (lRk Kd 36).toNat
  generalize 2 ^ (lRk Kd 36).toNat = z at this ⊢
  omega
theorem lBt_n {Kd : Int → Int} {c : Int} (hc : 0 ≤ c ∧ c < 36) (hG : lRk Kd 36 ≤ 7) : lBt Kd c = (nb Kd c : Int) := by
  unfold lBt nb
  by_cases h : Kd c ≤ 1
  · have h0 := lRk_R Kd c.toNat
    have h1 := lRk_lt hc h (N := 36) hc.2
    rw [if_pos h, if_pos h, iSl_1 ⟨h0.1, by omega⟩]
  · rw [if_neg h, if_neg h]; rfl
theorem nb_le {Kd : Int → Int} {c : Int} (hc : 0 ≤ c ∧ c < 36) : nb Kd c ≤ nA Kd := by
  unfold nb nA
  by_cases h : Kd c ≤ 1
  · have h0 := lRk_R Kd c.toNat
    have h1 := lRk_lt hc h (N := 36) hc.2
    rw [if_pos h]
    have : 2 ^ (lRk Kd c.toNat).toNat < 2 ^ (lRk Kd 36).toNat := Nat.pow_lt_pow_right (by decide) (by omega)
    omega
  · rw [if_neg h]; exact Nat.zero_le _
theorem nA_le {Kd : Int → Int} (hG : lRk Kd 36 ≤ 7) : nA Kd ≤ 127 := by
  have h0 := lRk_R Kd 36
  unfold nA
  have : 2 ^ (lRk Kd 36).toNat ≤ 2 ^ 7 := Nat.pow_le_pow_right (by decide) (by omega)
  have e : (2 : Nat) ^ 7 = 128 := by decide
  omega
theorem nA_or {Kd : Int → Int} {x y : Nat} (hx : x ≤ nA Kd) (hy : y ≤ nA Kd) : x ||| y ≤ nA Kd := by
  unfold nA at hx hy ⊢
  have := nP_pos (lRk Kd 36).toNat
  have := Nat.or_lt_two_pow (n := (lRk Kd 36).toNat) (x := x) (y := y) (by omega) (by omega)
  omega
theorem nA_a {Kd : Int → Int} {y : Nat} (hy : y ≤ nA Kd) : nA Kd ||| y = nA Kd := Nat.le_antisymm (nA_or (Nat.le_refl _) hy) Nat.left_le_or
theorem iO_n {x y : Nat} (hx : x ≤ 127) (hy : y ≤ 127) : iO (x : Int) (y : Int) = ((x ||| y : Nat) : Int) := by
  rw [iO_is ⟨by omega, by omega⟩ ⟨by omega, by omega⟩, Int.toNat_natCast, Int.toNat_natCast]
/-- a stand, a mask: as they may be -/
def lDm (Kd : Int → Int) (m c l : Int) : Prop := ∃ k : Nat, m = (k : Int) ∧ k ≤ nA Kd ∧ (0 ≤ c ∧ c < 36 ∧ ¬ Kd c = 2) ∧ (0 ≤ l ∧ l ≤ 3)
def lDo (Kd : Int → Int) (m c l : Int) : Prop := ∃ k : Nat, m = (k : Int) ∧ k ≤ nA Kd ∧ (0 ≤ c ∧ c < 36 ∧ ¬ Kd c = 2) ∧ (0 ≤ l ∧ l ≤ 3) ∧ k ||| nb Kd c = k
theorem lDo.m {Kd : Int → Int} {m c l : Int} (h : lDo Kd m c l) : lDm Kd m c l := by
  obtain ⟨k, h1, h2, h3, h4, -⟩ := h
  exact ⟨k, h1, h2, h3, h4⟩
theorem nA_bt {Kd : Int → Int} (hG : lRk Kd 36 ≤ 7) {k : Nat} (hk : k ≤ nA Kd) {c : Int} (hc : 0 ≤ c ∧ c < 36) : iO (k : Int) (lBt Kd c) = ((k ||| nb Kd c : Nat) : Int) := by
  have h1 := nA_le hG
  have h2 := nb_le (Kd := Kd) hc
  rw [lBt_n hc hG, iO_n (by omega) (by omega)]
theorem lDm.step {Kd : Int → Int} (hG : lRk Kd 36 ≤ 7) {m c l way : Int} (h : lDm Kd m c l) (hw : 0 ≤ way ∧ way ≤ 3) (ho : 0 ≤ zNx Kd c way) : lDo Kd (iO m (lBt Kd (zNx Kd c way))) (zNx Kd c way) way := by
  obtain ⟨k, rfl, h2, h3, h4⟩ := h
  rcases zNx_R (Kd := Kd) (way := way) (show 0 ≤ c ∧ c < 36 from ⟨h3.1, h3.2.1⟩) with e | ⟨q1, q2, q3⟩
  · omega
  · refine ⟨k ||| nb Kd (zNx Kd c way), nA_bt hG h2 ⟨q1, q2⟩, nA_or h2 (nb_le ⟨q1, q2⟩), ⟨q1, q2, q3⟩, hw, ?_⟩
    rw [Nat.or_assoc, Nat.or_self]
/-- more cut: no more minutes -/
theorem lM_mask {Kd R : Int → Int} (hR : zRu R) (hG : lRk Kd 36 ≤ 7) {k e : Nat} {c l : Int} (hk : k ≤ nA Kd) (he : e ≤ nA Kd) (hc : 0 ≤ c ∧ c < 36 ∧ ¬ Kd c = 2) (hl : 0 ≤ l ∧ l ≤ 3) : lM Kd R ((k ||| e : Nat) : Int) c l ≤ lM Kd R (k : Int) c l := by
  have hA := nA_le hG
  have := lM_gt hR (Dm := lDm Kd) (f := fun m c l => lM Kd R (iO m (e : Int)) c l) (fun m c l h => ⟨(lM_R hR _ _ _).2, fun hm => ?_⟩) (fun m c l way h hm w0 w1 ho => ⟨(h.step hG ⟨w0, w1⟩ ho).m, ?_⟩) (m := (k : Int)) (c := c) (l := l) ⟨k, rfl, hk, hc, hl⟩
  · show lM Kd R (((k ||| e : Nat)) : Int) c l ≤ _
    rw [← iO_n (by omega) (by omega)]
    exact this
  · show lM Kd R (iO m (e : Int)) c l ≤ 0
    rw [hm, lAll_n hG, iO_n hA (by omega), nA_a he, ← lAll_n hG, lM_all]
    exact Int.le_refl _
  · show lM Kd R (iO m (e : Int)) c l ≤ lCo Kd R c l way + lM Kd R (iO (iO m (lBt Kd (zNx Kd c way))) (e : Int)) (zNx Kd c way) way
    obtain ⟨q, rfl, h2, h3, h4⟩ := h
    rcases zNx_R (Kd := Kd) (way := way) (show 0 ≤ c ∧ c < 36 from ⟨h3.1, h3.2.1⟩) with z | ⟨q1, q2, q3⟩
    · omega
    · have hb := nb_le (Kd := Kd) (c := zNx Kd c way) ⟨q1, q2⟩
      have hqb := nA_or h2 hb
      have hqe := nA_or h2 he
      rw [nA_bt hG h2 ⟨q1, q2⟩, iO_n (by omega) (by omega), iO_n (by omega) (by omega)]
      by_cases ha : ((q ||| e : Nat) : Int) = lAll Kd
      · rw [ha, lM_all]
        have := lCo_R (Kd := Kd) hR c l way
        have := lM_R (Kd := Kd) hR ((((q ||| nb Kd (zNx Kd c way)) ||| e : Nat)) : Int) (zNx Kd c way) way
        omega
      · have := lM_le hR (l := l) ha ⟨w0, w1⟩ ho
        rw [nA_bt hG hqe ⟨q1, q2⟩] at this
        rw [show (q ||| nb Kd (zNx Kd c way)) ||| e = (q ||| e) ||| nb Kd (zNx Kd c way) by rw [Nat.or_assoc, Nat.or_comm (nb Kd _), ← Nat.or_assoc]]
        exact this
theorem zNx_rev {Kd Kq : Int → Int} {c way d : Int} (hc : 0 ≤ c ∧ c < 36) (hk : ¬ Kd c = 2) (hw : 0 ≤ way ∧ way ≤ 3) (e : zNx Kq c way = d) (hd : 0 ≤ d) : zNx Kd d ((way + 2) % 4) = c := by
  rcases (show way = 0 ∨ way = 1 ∨ way = 2 ∨ way = 3 by omega) with rfl | rfl | rfl | rfl
  · unfold zNx at e
    rw [if_pos rfl] at e
    split at e
    · rename_i q
      subst e
      show (if (2 : Int) = 0 then _ else if (2 : Int) = 1 then _ else if (2 : Int) = 2 then (if c - 6 < 30 ∧ ¬ Kd (c - 6 + 6) = 2 then c - 6 + 6 else -4) else _) = c
      rw [if_neg (by decide), if_neg (by decide), if_pos rfl, show c - 6 + 6 = c by omega, if_pos ⟨by omega, hk⟩]
    · omega
  · unfold zNx at e
    rw [if_neg (by decide), if_pos rfl] at e
    split at e
    · rename_i q
      subst e
      show (if (3 : Int) = 0 then _ else if (3 : Int) = 1 then _ else if (3 : Int) = 2 then _ else (if 0 < (c + 1) % 6 ∧ ¬ Kd (c + 1 - 1) = 2 then c + 1 - 1 else -4)) = c
      rw [if_neg (by decide), if_neg (by decide), if_neg (by decide), show c + 1 - 1 = c by omega, if_pos ⟨by omega, hk⟩]
    · omega
  · unfold zNx at e
    rw [if_neg (by decide), if_neg (by decide), if_pos rfl] at e
    split at e
    · rename_i q
      subst e
      show (if (0 : Int) = 0 then (if 6 ≤ c + 6 ∧ ¬ Kd (c + 6 - 6) = 2 then c + 6 - 6 else -4) else _) = c
      rw [if_pos rfl, show c + 6 - 6 = c by omega, if_pos ⟨by omega, hk⟩]
    · omega
  · unfold zNx at e
    rw [if_neg (by decide), if_neg (by decide), if_neg (by decide)] at e
    split at e
    · rename_i q
      subst e
      show (if (1 : Int) = 0 then _ else if (1 : Int) = 1 then (if (c - 1) % 6 < 5 ∧ ¬ Kd (c - 1 + 1) = 2 then c - 1 + 1 else -4) else _) = c
      rw [if_neg (by decide), if_pos rfl, show c - 1 + 1 = c by omega, if_pos ⟨by omega, hk⟩]
    · omega
theorem lUp_d (Kd : Int → Int) (d : Int) : lUp Kd d d = 3 := if_pos rfl
theorem lUp_o {Kd : Int → Int} {d c : Int} (h : c ≠ d) : lUp Kd d c = Kd c := if_neg h
theorem lRk_lUp {Kd : Int → Int} {d : Int} (hd : Kd d = 2) : ∀ n : Nat, lRk (lUp Kd d) n = lRk Kd n := by
  intro n
  induction n with
  | zero => rfl
  | succ n ih =>
    show (if lUp Kd d (n : Int) ≤ 1 then lRk (lUp Kd d) n + 1 else lRk (lUp Kd d) n) = (if Kd (n : Int) ≤ 1 then lRk Kd n + 1 else lRk Kd n)
    rw [ih]
    by_cases e : (n : Int) = d
    · rw [e, lUp_d, hd, if_neg (by decide), if_neg (by decide)]
    · rw [lUp_o e]
theorem lBt_lUp {Kd : Int → Int} {d : Int} (hd : Kd d = 2) (c : Int) : lBt (lUp Kd d) c = lBt Kd c := by
  unfold lBt
  rw [lRk_lUp hd]
  by_cases e : c = d
  · rw [e, lUp_d, hd, if_neg (by decide), if_neg (by decide)]
  · rw [lUp_o e]
theorem lAll_lUp {Kd : Int → Int} {d : Int} (hd : Kd d = 2) : lAll (lUp Kd d) = lAll Kd := by
  unfold lAll
  rw [lRk_lUp hd]
theorem nb_lUp {Kd : Int → Int} {d : Int} (hd : Kd d = 2) (c : Int) : nb (lUp Kd d) c = nb Kd c := by
  unfold nb
  rw [lRk_lUp hd]
  by_cases e : c = d
  · rw [e, lUp_d, hd, if_neg (by decide), if_neg (by decide)]
  · rw [lUp_o e]
theorem nA_lUp {Kd : Int → Int} {d : Int} (hd : Kd d = 2) : nA (lUp Kd d) = nA Kd := by
  unfold nA
  rw [lRk_lUp hd]
theorem zNx_lUp {Kd : Int → Int} {d : Int} (hd : Kd d = 2) (c way : Int) : zNx (lUp Kd d) c way = zNx Kd c way ∨ (zNx (lUp Kd d) c way = d ∧ zNx Kd c way = -4) := by
  have key : ∀ (P : Prop) [Decidable P] (x : Int), (if P ∧ ¬ lUp Kd d x = 2 then x else -4) = (if P ∧ ¬ Kd x = 2 then x else -4) ∨ ((if P ∧ ¬ lUp Kd d x = 2 then x else -4) = d ∧ (if P ∧ ¬ Kd x = 2 then x else (-4 : Int)) = -4) := by
    intro P _ x
    by_cases e : x = d
    · subst e
      rw [lUp_d, hd]
      by_cases p : P
      · exact Or.inr ⟨if_pos ⟨p, by decide⟩, if_neg (fun z => z.2 rfl)⟩
      · exact Or.inl ((if_neg (fun z => p z.1)).trans (if_neg (fun z => p z.1)).symm)
    · rw [lUp_o e]
      exact Or.inl rfl
  unfold zNx
  by_cases w0 : way = 0
  · rw [if_pos w0, if_pos w0]; exact key (6 ≤ c) (c - 6)
  · rw [if_neg w0, if_neg w0]
    by_cases w1 : way = 1
    · rw [if_pos w1, if_pos w1]; exact key (c % 6 < 5) (c + 1)
    · rw [if_neg w1, if_neg w1]
      by_cases w2 : way = 2
      · rw [if_pos w2, if_pos w2]; exact key (c < 30) (c + 6)
      · rw [if_neg w2, if_neg w2]; exact key (0 < c % 6) (c - 1)
theorem lCo_lUp {Kd R : Int → Int} {d : Int} {c l way : Int} (e : zNx (lUp Kd d) c way = zNx Kd c way) (hn : zNx Kd c way ≠ d) : lCo (lUp Kd d) R c l way = lCo Kd R c l way := by
  unfold lCo
  rw [e]
  unfold zMn
  rw [lUp_o hn]
theorem lM_dead {Kd R : Int → Int} {d : Int} (hR : zRu R) (hG : lRk Kd 36 ≤ 7) (hd : Kd d = 2) (d0 : 0 ≤ d ∧ d < 36) (h0 : ¬ Kd (R 0) = 2) (h1 : ∀ w v : Int, 0 ≤ w → w ≤ 3 → 0 ≤ v → v ≤ 3 → 0 ≤ zNx Kd d w → 0 ≤ zNx Kd d v → w = v) : lMin (lUp Kd d) R = lMin Kd R := by
  have hG' : lRk (lUp Kd d) 36 ≤ 7 := by rw [lRk_lUp hd]; exact hG
  have hr0 : 0 ≤ R 0 ∧ R 0 < 36 := ⟨hR.1.1, by have := hR.1.2; omega⟩
  have hb := nb_le (Kd := Kd) hr0
  have hne : R 0 ≠ d := fun z => h0 (by rw [z]; exact hd)
  unfold lMin
  rw [lBt_lUp hd, lBt_n hr0 hG]
  refine Int.le_antisymm ?_ ?_
  · refine lM_gt hR (Dm := lDm Kd) (f := fun m c l => lM (lUp Kd d) R m c l) (fun m c l h => ⟨(lM_R hR _ _ _).2, fun hm => ?_⟩) (fun m c l way h hm w0 w1 ho => ⟨(h.step hG ⟨w0, w1⟩ ho).m, ?_⟩) ⟨_, rfl, hb, ⟨hr0.1, hr0.2, h0⟩, by decide⟩
    · show lM (lUp Kd d) R m c l ≤ 0
      rw [hm, ← lAll_lUp hd, lM_all]
      exact Int.le_refl _
    · show lM (lUp Kd d) R m c l ≤ lCo Kd R c l way + lM (lUp Kd d) R (iO m (lBt Kd (zNx Kd c way))) (zNx Kd c way) way
      obtain ⟨k, rfl, h2, h3, h4⟩ := h
      have e : zNx (lUp Kd d) c way = zNx Kd c way := by
        rcases zNx_lUp hd c way with e | e
        · exact e
        · omega
      have hn : zNx Kd c way ≠ d := by
        intro z
        rcases zNx_R (Kd := Kd) (way := way) (show 0 ≤ c ∧ c < 36 from ⟨h3.1, h3.2.1⟩) with y | ⟨q1, q2, q3⟩
        · omega
        · rw [z] at q3; exact q3 hd
      have := lM_le (Kd := lUp Kd d) hR (m := (k : Int)) (c := c) (l := l) (way := way) (by rw [lAll_lUp hd]; exact hm) ⟨w0, w1⟩ (by rw [e]; exact ho)
      rw [lCo_lUp e hn, e, lBt_lUp hd] at this
      exact this
  · refine lM_gt hR (Dm := lDo (lUp Kd d)) (f := fun m c l => lM Kd R m c l) (fun m c l h => ⟨(lM_R hR _ _ _).2, fun hm => ?_⟩) (fun m c l way h hm w0 w1 ho => ⟨h.m.step hG' ⟨w0, w1⟩ ho, ?_⟩) ⟨nb Kd (R 0), rfl, by rw [nA_lUp hd]; exact hb, ⟨hr0.1, hr0.2, by rw [lUp_o hne]; exact h0⟩, by decide, by rw [nb_lUp hd, Nat.or_self]⟩
    · show lM Kd R m c l ≤ 0
      rw [hm, lAll_lUp hd, lM_all]
      exact Int.le_refl _
    · show lM Kd R m c l ≤ lCo (lUp Kd d) R c l way + lM Kd R (iO m (lBt (lUp Kd d) (zNx (lUp Kd d) c way))) (zNx (lUp Kd d) c way) way
      obtain ⟨k, rfl, h2, h3, h4, h5⟩ := h
      rw [nA_lUp hd] at h2
      rw [nb_lUp hd] at h5
      rw [lAll_lUp hd] at hm
      rw [lBt_lUp hd]
      by_cases ed : zNx (lUp Kd d) c way = d
      · have hcd : c ≠ d := by
          intro z
          subst z
          have := zNx_R (Kd := lUp Kd c) (way := way) d0
          unfold zNx at ed
          repeat' split at ed
          all_goals omega
        have hkc : ¬ Kd c = 2 := by
          have := h3.2.2
          rw [lUp_o hcd] at this
          exact this
        have rv := zNx_rev (Kd := Kd) ⟨h3.1, h3.2.1⟩ hkc ⟨w0, w1⟩ ed d0.1
        have hco : zQ l way * R 1 + 1 ≤ lCo (lUp Kd d) R c l way := by
          have := zMn_R (Kd := lUp Kd d) hR way (zNx (lUp Kd d) c way)
          unfold lCo
          omega
        have hb0 : iO (k : Int) (lBt Kd d) = (k : Int) := by
          rw [nA_bt hG h2 d0]
          unfold nb
          rw [hd, if_neg (by decide), Nat.or_zero]
        rw [ed, hb0]
        have hq := zQ_R l way
        have hr1 := hR.2.1
        have hqm : 0 ≤ zQ l way * R 1 := Int.mul_nonneg hq.1 hr1.1
        rcases lM_at hR (c := d) (l := way) hm with e | ⟨v, hv, ho2, e⟩
        · have := lM_R (Kd := Kd) hR (k : Int) c l
          omega
        · have ev : v = (way + 2) % 4 := h1 v ((way + 2) % 4) hv.1 hv.2 (by omega) (by omega) ho2 (by rw [rv]; exact h3.1)
          have hbc : iO (k : Int) (lBt Kd c) = (k : Int) := by rw [nA_bt hG h2 ⟨h3.1, h3.2.1⟩, h5]
          rw [ev, rv, hbc] at e
          have t1 := lM_turn (Kd := Kd) hR (k : Int) c l ((way + 2) % 4)
          have t2 := Int.mul_le_mul_of_nonneg_right (zQ_tri l way ((way + 2) % 4)) hr1.1
          rw [Int.add_mul] at t2
          have t3 : zQ way ((way + 2) % 4) * R 1 ≤ lCo Kd R d way ((way + 2) % 4) := by
            have := zMn_R (Kd := Kd) hR ((way + 2) % 4) (zNx Kd d ((way + 2) % 4))
            unfold lCo
            omega
          omega
      · have e : zNx (lUp Kd d) c way = zNx Kd c way := by
          rcases zNx_lUp hd c way with e | e
          · exact e
          · exact absurd e.1 ed
        have hn : zNx Kd c way ≠ d := by rw [← e]; exact ed
        rw [lCo_lUp e hn, e]
        exact lM_le hR hm ⟨w0, w1⟩ (by rw [← e]; exact ho)
