/-! CARRYING THE RELATION OVER -/
theorem cG.to {a h a' h' : zMm} (H : cG a h) (ea : a' 0 = a 0 ∧ a' 1 = a 1 ∧ a' 2 = a 2 ∧ a' 3 = a 3 ∧ a' 4 = a 4) (eh : h' 11 = h 11 ∧ h' 12 = h 12 ∧ h' 13 = h 13 ∧ h' 14 = h 14 ∧ h' 15 = h 15) : cG a' h' := by
  obtain ⟨a0, a1, a2, a3, a4⟩ := ea
  obtain ⟨e1, e2, e3, e4, e5⟩ := eh
  unfold cG zGA zHA at *
  rw [a0, a1, a2, a3, a4, e1, e2, e3, e4, e5]
  exact H
theorem zMA.to {a h a' h' : zMm} (H : zMA a h) (ea : a' 7 0 = a 7 0 ∧ a' 5 = a 5 ∧ a' 6 = a 6) (eh : h' 16 2 = h 16 2 ∧ h' 17 = h 17 ∧ h' 18 = h 18) : zMA a' h' := by
  obtain ⟨a0, a1, a2⟩ := ea
  obtain ⟨e1, e2, e3⟩ := eh
  unfold zMA at *
  rw [a0, a1, a2, e1, e2, e3]
  exact H
theorem cT.to {a h a' h' : zMm} (H : cT a h) (ea : a' 7 1 = a 7 1 ∧ a' 8 = a 8) (eh : h' 1 1 = h 1 1 ∧ h' 2 = h 2) : cT a' h' := by
  obtain ⟨a0, a1⟩ := ea
  obtain ⟨e1, e2⟩ := eh
  unfold cT at *
  rw [a0, a1, e1, e2]
  exact H
theorem cI.to {a h a' h' : zMm} (H : cI a h) (ea : a' 7 4 = a 7 4 ∧ a' 7 5 = a 7 5 ∧ ∀ o : Nat, 10 ≤ o → o ≤ 25 → a' o = a o) (eh : ∀ o : Nat, 51 ≤ o → o ≤ 71 → h' o = h o) : cI a' h' := by
  obtain ⟨a0, a1, a2⟩ := ea
  unfold cI cI1 at *
  rw [a0, a1, a2 10 (by decide) (by decide), a2 (10 + 1) (by decide) (by decide), a2 (10 + 2) (by decide) (by decide), a2 (10 + 3) (by decide) (by decide), a2 (10 + 4) (by decide) (by decide), a2 (10 + 5) (by decide) (by decide), a2 20 (by decide) (by decide), a2 (20 + 1) (by decide) (by decide), a2 (20 + 2) (by decide) (by decide), a2 (20 + 3) (by decide) (by decide), a2 (20 + 4) (by decide) (by decide), a2 (20 + 5) (by decide) (by decide), eh 71 (by decide) (by decide), eh (52 + 1) (by decide) (by decide), eh (52 + 2) (by decide) (by decide), eh (52 + 4) (by decide) (by decide), eh 65 (by decide) (by decide), eh (65 + 1) (by decide) (by decide), eh (65 + 2) (by decide) (by decide), eh (58 + 1) (by decide) (by decide), eh (58 + 2) (by decide) (by decide), eh (58 + 4) (by decide) (by decide), eh 68 (by decide) (by decide), eh (68 + 1) (by decide) (by decide), eh (68 + 2) (by decide) (by decide)]
  exact H
theorem cS.to {a h a' h' : zMm} (H : cS a h) (ea : ∀ o : Nat, 30 ≤ o → o ≤ 35 → a' o = a o) (eh : ∀ o : Nat, 73 ≤ o → o ≤ 80 → h' o = h o) : cS a' h' := by
  intro k hk
  rw [ea 30 (by omega) (by omega), ea 31 (by omega) (by omega), ea (32 + k) (by omega) (by omega), eh (73 + 2 * k) (by omega) (by omega), eh (74 + 2 * k) (by omega) (by omega)]
  exact H k hk
theorem cO.to {a h a' h' : zMm} (H : cO a h) (ea : a' 7 2 = a 7 2 ∧ a' 7 3 = a 7 3) (eh : h' 3 1 = h 3 1 ∧ h' 0 15 = h 0 15) : cO a' h' := by
  unfold cO at *
  rw [ea.1, ea.2, eh.1, eh.2]
  exact H
theorem cL.to {a h a' h' : zMm} (H : cL a h) (ea : a' 0 = a 0 ∧ a' 4 = a 4) (eh : h' 45 = h 45 ∧ h' 31 = h 31 ∧ h' 46 = h 46) : cL a' h' := by
  obtain ⟨a0, a1⟩ := ea
  obtain ⟨e1, e2, e3⟩ := eh
  unfold cL at *
  rw [a0, a1, e1, e2, e3]
  exact H
/-- what is kept of LEAST is forgotten -/
theorem cL.forget {a h a' h' : zMm} (H : cL a h) (e1 : h' 45 = h 45) (e2 : h' 31 13 = 0) (e3 : h' 31 14 = 0) : cL a' h' :=
  ⟨by rw [e1]; exact H.1, Or.inl e2, Or.inl e3⟩
/-- the model's sides -/
theorem mA.to {a h a' h' : zMm} (H : mA a h) (ea : a' 0 = a 0 ∧ a' 1 = a 1 ∧ a' 2 = a 2 ∧ a' 3 = a 3 ∧ a' 4 = a 4 ∧ a' 5 = a 5 ∧ a' 6 = a 6 ∧ a' 7 0 = a 7 0) (e1 : h' 92 = h 92) (e2 : h' 88 = h 88) : mA a' h' := by
  obtain ⟨a0, a1, a2, a3, a4, a5, a6, a7⟩ := ea
  unfold mA zGm at *
  rw [a0, a1, a2, a3, a4, a5, a6, a7, e1, e2]
  exact H
theorem mZ.to {a h a' h' : zMm} (H : mZ a h) (ea : a' 0 = a 0 ∧ a' 1 = a 1 ∧ a' 2 = a 2 ∧ a' 3 = a 3 ∧ a' 4 = a 4 ∧ a' 5 = a 5 ∧ a' 6 = a 6 ∧ a' 7 0 = a 7 0) (e1 : h' 92 = h 92) (e2 : h' 88 = h 88) : mZ a' h' := by
  obtain ⟨a0, a1, a2, a3, a4, a5, a6, a7⟩ := ea
  unfold mZ at *
  rw [a0, a1, a2, a3, a4, a5, a6, a7, e1, e2]
  exact H
theorem mG.to {a h a' h' : zMm} (H : mG a h) (ea : a' 0 = a 0 ∧ a' 1 = a 1 ∧ a' 2 = a 2 ∧ a' 3 = a 3 ∧ a' 4 = a 4 ∧ a' 5 = a 5 ∧ a' 6 = a 6 ∧ a' 7 0 = a 7 0) (e4 : a' 7 4 = a 7 4) (e5 : a' 7 5 = a 7 5) (e1 : h' 92 = h 92) (e2 : h' 88 = h 88) (e3 : h' 81 21 = h 81 21) : mG a' h' := by
  rcases H with ⟨g1, g2⟩ | ⟨g1, g2, g3, g4⟩
  · exact Or.inl ⟨by rw [e3]; exact g1, g2.to ea e1 e2⟩
  · exact Or.inr ⟨by rw [e3]; exact g1, g2.to ea e1 e2, by rw [e4]; exact g3, by rw [e5]; exact g4⟩
theorem mT.to {a h a' h' : zMm} (H : mT a h) (e1 : a' 7 1 = a 7 1) (e2 : a' 8 = a 8) (e3 : h' 81 1 = h 81 1) (e4 : h' 82 = h 82) : mT a' h' := by
  unfold mT at *
  rw [e1, e2, e3, e4]
  exact H
theorem mI.to {a h a' h' : zMm} (H : mI a h) (a0 : a' 7 4 = a 7 4) (a1 : a' 7 5 = a 7 5) (a2 : ∀ o : Nat, 10 ≤ o → o ≤ 25 → a' o = a o) (e1 : ∀ i : Int, 200 ≤ i → h' 92 i = h 92 i) (e2 : h' 104 = h 104) : mI a' h' := by
  obtain ⟨i1, i2, i3, i4⟩ := H
  have key : ∀ (b : Nat) (p : Int), (b = 10 ∨ b = 20) → 200 ≤ p → mI1 a h b p → mI1 a' h' b p := by
    intro b p hb hp
    unfold mI1
    rintro ⟨k1, k2, k3⟩
    rw [a2 b (by omega) (by omega), a2 (b + 1) (by omega) (by omega), a2 (b + 2) (by omega) (by omega), a2 (b + 3) (by omega) (by omega), a2 (b + 4) (by omega) (by omega), a2 (b + 5) (by omega) (by omega)]
    refine ⟨fun i c0 c1 => ?_, ?_, fun i c0 c1 => ?_⟩
    · rw [e1 _ (by omega), e1 _ (by omega), e1 _ (by omega)]
      exact k1 i c0 c1
    · rw [e1 _ (by omega)]
      exact k2
    · rw [e1 _ (by omega), e1 _ (by omega)]
      exact k3 i c0 c1
  refine ⟨by rw [a0, e2]; exact i1, by rw [a1, e2]; exact i2, fun c => key 10 200 (Or.inl rfl) (by decide) (i3 (by rw [← a0]; exact c)), fun c => key 20 400 (Or.inr rfl) (by decide) (i4 (by rw [← a1]; exact c))⟩
theorem mS.to {a h a' h' : zMm} (H : mS a h) (ea : ∀ o : Nat, 30 ≤ o → o ≤ 35 → a' o = a o) (e1 : h' 105 = h 105) (e2 : h' 106 = h 106) (e3 : h' 107 = h 107) : mS a' h' := by
  intro k hk
  rw [ea 30 (by omega) (by omega), ea 31 (by omega) (by omega), ea (32 + k) (by omega) (by omega), e1, e2, e3]
  exact H k hk
theorem mO.to {a h a' h' : zMm} (H : mO a h) (e1 : a' 7 2 = a 7 2) (e2 : a' 7 3 = a 7 3) (e3 : h' 81 2 = h 81 2) (e4 : h' 81 50 = h 81 50) : mO a' h' := by
  unfold mO at *
  rw [e1, e2, e3, e4]
  exact H
theorem mC.to {h h' : zMm} (H : mC h) (e : ∀ o : Nat, 83 ≤ o → o ≤ 87 → h' o = h o) : mC h' := by
  unfold mC at *
  rw [e 83 (by omega) (by omega), e 84 (by omega) (by omega), e 85 (by omega) (by omega), e 86 (by omega) (by omega), e 87 (by omega) (by omega)]
  exact H
theorem zAll_rf (a : zMm) : a 0 = a 0 ∧ a 1 = a 1 ∧ a 2 = a 2 ∧ a 3 = a 3 ∧ a 4 = a 4 ∧ a 5 = a 5 ∧ a 6 = a 6 ∧ a 7 0 = a 7 0 := ⟨rfl, rfl, rfl, rfl, rfl, rfl, rfl, rfl⟩
theorem mZ.a {a h : zMm} (H : mZ a h) : mA a (fun o i => if o = 92 ∧ ((36 ≤ i ∧ i < 72) ∨ (108 ≤ i ∧ i < 144)) then 3 else h o i) := by
  obtain ⟨h1, h2, h3, h4, h5⟩ := H
  refine ⟨⟨?_, h2, ?_, ?_, ?_⟩, ?_⟩
  · intro i i0 i1
    have := h1 i i0 i1
    simp only [true_and]
    rw [if_neg (by omega)]
    exact this
  · simp only [true_and]
    rw [if_neg (by omega)]
    exact h3
  · intro i i0 i1
    have := h4 i i0 i1
    simp only [true_and]
    rw [if_neg (by omega), if_neg (by omega)]
    exact this
  · intro i i0 i1
    obtain ⟨b0, b1, b2, b3, b4, b5, b6⟩ := h5 i i0 i1
    simp only [true_and]
    rw [if_pos (by omega), if_neg (by omega), b1, b3, b5]
    exact ⟨rfl, rfl⟩
  · intro i i0 i1
    obtain ⟨b0, b1, b2, b3, b4, b5, b6⟩ := h5 i i0 i1
    simp only [true_and]
    rw [if_pos (by omega), b2]
/-- the model, awake -/
def zAw (h : zMm) (n : Int) : zMm := fun o i => if o = 92 ∧ ((36 ≤ i ∧ i < 36 + n) ∨ (108 ≤ i ∧ i < 108 + n)) then 3 else h o i
theorem zAw_step (h : zMm) (n : Int) (hn : 0 ≤ n ∧ n < 36) : zU (zU (zAw h n) 92 (36 + n) 3) 92 (108 + n) 3 = zAw h (n + 1) := by
  funext o i
  unfold zAw
  simp only [zU_at]
  by_cases co : o = 92
  · simp only [co, true_and]
    by_cases c1 : i = 108 + n
    · rw [if_pos c1, if_pos (by omega)]
    · rw [if_neg c1]
      by_cases c2 : i = 36 + n
      · rw [if_pos c2, if_pos (by omega)]
      · rw [if_neg c2]
        by_cases c3 : (36 ≤ i ∧ i < 36 + n) ∨ (108 ≤ i ∧ i < 108 + n)
        · rw [if_pos c3, if_pos (by omega)]
        · rw [if_neg c3, if_neg (by omega)]
  · simp [co]
theorem awake_in {h : zMm} {K : zMm → Prop} (h21 : h 81 21 = 0) (hK : K (zU (zAw h 36) 81 21 1)) : ∀ (n : Nat) (v1 : Int), 0 ≤ v1 → v1 + n = 36 → RR mX12_awake 0 0 2 [some (.ref 81), some (.int (zI v1))] [] zS0 (zAw h v1) (zQv zS0 K) := by
  intro n
  induction n with
  | zero =>
    intro v1 c0 c1
    have e1 : v1 = 36 := by omega
    have e21 : (zAw h v1) 81 21 = 0 := by simp [zAw, h21]
    refine bX12_awake_2 ⟨⟨by omega, by omega⟩, by rw [e21]; decide, fun _ => ?_, fun c => absurd (by omega) c⟩
    rw [e1]
    exact hK
  | succ n ih =>
    intro v1 c0 c1
    have e21 : (zAw h v1) 81 21 = 0 := by simp [zAw, h21]
    refine bX12_awake_2 ⟨⟨by omega, by omega⟩, by rw [e21]; decide, fun c => absurd c (by omega), fun _ => ⟨fun c => absurd e21 c, fun _ => ⟨⟨by omega, by omega⟩, ⟨by omega, by omega⟩, ?_⟩⟩⟩
    rw [zAw_step h v1 ⟨c0, by omega⟩]
    exact ih (v1 + 1) (by omega) (by omega)
theorem sX12_awake {a h : zMm} {K : zMm → Prop} (M : MR a h) (hK : ∀ h', MR a h' → mA a h' → zLo81 h h' → K h') : zCv mX12_awake [.ref 81] zS0 h K := by
  refine wX12_awake ?_
  obtain ⟨m1, m2, m3, m4, m5, m6⟩ := M
  rcases m1 with ⟨g1, g2⟩ | ⟨g1, g2, g3, g4⟩
  · have e : ∀ o : Nat, o ≠ 81 → (zU h 81 21 1) o = h o := fun o ho => zU_off o ho
    have hm : mA a (zU h 81 21 1) := g2.to (zAll_rf a) (e _ (by decide)) (e _ (by decide))
    have key : K (zU h 81 21 1) :=
      hK _ ⟨Or.inl ⟨by simp [zU], hm⟩, m2.to rfl rfl (by simp [zU]) (e _ (by decide)), m3.to rfl rfl (fun _ _ _ => rfl) (fun _ _ => by rw [e 92 (by decide)]) (e _ (by decide)), m4.to (fun _ _ _ => rfl) (e _ (by decide)) (e _ (by decide)) (e _ (by decide)), m5.to rfl rfl (by simp [zU]) (by simp [zU]), m6.to (fun o _ _ => e o (by omega))⟩ hm (fun o ho => e o (by omega))
    refine bX12_awake_2 ⟨by decide, by rw [g1]; decide, fun c => absurd c (by decide), fun _ => ⟨fun _ => key, fun c => ?_⟩⟩
    rw [g1] at c
    exact absurd c (by decide)
  · have e0 : zAw h 0 = h := by
      funext o i
      unfold zAw
      rw [if_neg (by omega)]
    have e : ∀ o : Nat, o ≠ 81 → o ≠ 92 → (zU (zAw h 36) 81 21 1) o = h o := by
      intro o h1 h2
      rw [zU_off o h1]
      funext i
      unfold zAw
      rw [if_neg (by omega)]
    have key := awake_in (K := K) g1 ?_ 36 0 (by omega) (by omega)
    · rw [e0] at key
      exact key
    have hm : mA a (zU (zAw h 36) 81 21 1) := g2.a.to (zAll_rf a) (zU_off 92 (by decide)) (e 88 (by decide) (by decide))
    refine hK _ ⟨Or.inl ⟨by simp [zU], hm⟩, m2.to rfl rfl (by simp [zU, zAw]) (e _ (by decide) (by decide)), m3.to rfl rfl (fun _ _ _ => rfl) (fun i ci => ?_) (e _ (by decide) (by decide)), m4.to (fun _ _ _ => rfl) (e _ (by decide) (by decide)) (e _ (by decide) (by decide)) (e _ (by decide) (by decide)), m5.to rfl rfl (by simp [zU, zAw]) (by simp [zU, zAw]), m6.to (fun o _ _ => e o (by omega) (by omega))⟩ hm (fun o ho => e o (by omega) (by omega))
    rw [zU_off 92 (by decide)]
    unfold zAw
    rw [if_neg (by omega)]
