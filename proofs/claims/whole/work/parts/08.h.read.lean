/-! lay -/
def aLay (a : zMm) (k i v : Int) : zMm := if (0 ≤ k ∧ k ≤ 3) ∧ ¬ a 30 k = -1 ∧ 0 ≤ i ∧ i < a 31 k then zU a (32 + k.toNat) i (zLn (a 30 k) v) else a
def fLay (a : zMm) (k i : Int) : Int := if 0 ≤ k ∧ k ≤ 3 then (if a 30 k = -1 then -11 else if 0 ≤ i ∧ i < a 31 k then 1 else -12) else -1
theorem wLay {a : zMm} {k i v : Int} (W : WF a) (hv : zR v) : WF (aLay a k i v) := by
  unfold aLay
  split
  · refine W.sheet (fun o ho => zU_off o (by omega)) (fun q hq => ?_)
    obtain ⟨w1, w2, w3⟩ := W.2.2.2.2.2.2.2 q hq
    rw [zU_off 30 (by omega), zU_off 31 (by omega)]
    refine ⟨w1, w2, fun j j0 j1 => ?_⟩
    rw [zU_at]
    split
    · exact zLn_R hv
    · exact w3 j j0 j1
  · exact W
theorem cLay {a h : zMm} {v1 v2 v3 : Int} {K : Int → zMm → Prop} (W : WF a) (C : CR a h) (r1 : zR v1) (r2 : zR v2) (r3 : zR v3) (hK : ∀ h', CR (aLay a v1 v2 v3) h' → zHi81 h h' → K (fLay a v1 v2) h') : zCi mX11_lay [.ref 0, .int (zI v1), .int (zI v2), .int (zI v3)] zS0 h K := by
  unfold aLay fLay at hK
  refine wX11_lay (sX11_isSheet r1 ?_)
  simp only [decide_eq_true_eq, decide_eq_false_iff_not]
  refine ⟨fun c => ⟨by omega, r2, ?_⟩, fun c => ?_⟩
  · have hk : v1.toNat < 4 := by omega
    have ek : ((v1.toNat : Nat) : Int) = v1 := by omega
    obtain ⟨s1, s2, s3⟩ := C.2.2.2.2.1 v1.toNat hk
    obtain ⟨w1, w2, w3⟩ := W.2.2.2.2.2.2.2 v1.toNat hk
    rw [s1]
    refine sX7_faultOf W C.2.2.2.2.1 hk ⟨by omega, by omega⟩ ⟨by omega, by omega⟩ ?_
    have hF := fF_R a v1.toNat (a 30 ((v1.toNat : Nat) : Int)) v2
    refine ⟨⟨by omega, by omega⟩, fun f => wX7_write (zQ7 hk) ?_, fun f => ?_⟩
    · unfold fF at f
      rw [ek] at f s1 s2 w1 w2
      by_cases c1 : a 30 v1 = -1
      · rw [if_pos c1] at f
        cases f
      · rw [if_neg c1, if_neg (fun z => z rfl)] at f
        by_cases c2 : 0 ≤ v2 ∧ v2 < a 31 v1
        · rw [if_pos ⟨c, c1, c2⟩, if_pos c, if_neg c1, if_pos c2] at hK
          rw [s2]
          refine sX11_isWithin r2 (by decide) ⟨by omega, by omega⟩ ?_
          simp only [decide_eq_true_eq, decide_eq_false_iff_not]
          rw [s1]
          refine ⟨⟨by omega, by omega⟩, fun d => absurd (by omega) d, fun d => ⟨⟨by omega, by omega⟩, ?_⟩⟩
          refine hK _ (C.sheet (fun o ho => zU_off o (by omega)) (fun o ho => zU_off o (by omega)) (fun q hq => ?_)) (fun o ho => zU_off o (by omega))
          obtain ⟨t1, t2, t3⟩ := C.2.2.2.2.1 q hq
          rw [zU_off 30 (by omega), zU_off 31 (by omega), zU_off (73 + 2 * q) (by omega)]
          refine ⟨t1, t2, fun j j0 j1 => ?_⟩
          have t4 := t3 j j0 j1
          by_cases cq : q = v1.toNat ∧ j = v2
          · refine Eq.trans (b := zLn (a 30 v1) v3) ?_ (Eq.symm ?_)
            · rw [zU_at, if_pos ⟨by omega, cq.2⟩]
              rfl
            · rw [zU_at, if_pos ⟨by omega, cq.2⟩]
          · rw [zU_ne (fun z => cq ⟨by omega, z.2⟩), zU_ne (fun z => cq ⟨by omega, z.2⟩)]
            exact t4
        · rw [if_neg c2] at f
          cases f
    · unfold fF at f ⊢
      rw [ek] at f ⊢
      rw [if_neg (fun z => ?_), if_pos c] at hK
      · by_cases c1 : a 30 v1 = -1
        · rw [if_pos c1] at hK ⊢
          exact hK h C (fun _ _ => rfl)
        · rw [if_neg c1, if_neg (fun z => z rfl)] at f ⊢
          by_cases c2 : 0 ≤ v2 ∧ v2 < a 31 v1
          · rw [if_pos c2] at f
            exact absurd rfl f
          · rw [if_neg c1, if_neg c2] at hK
            rw [if_neg c2]
            exact hK h C (fun _ _ => rfl)
      · rw [if_neg z.2.1, if_neg (fun z => z rfl), if_pos z.2.2] at f
        exact f rfl
  · rw [if_neg (fun z => c z.1), if_neg c] at hK
    exact hK h C (fun _ _ => rfl)
theorem mLay {a h : zMm} {v1 v2 v3 : Int} {K : Int → zMm → Prop} (W : WF a) (M : MR a h) (r1 : zR v1) (r2 : zR v2) (r3 : zR v3) (hK : ∀ h', MR (aLay a v1 v2 v3) h' → zLo81 h h' → K (fLay a v1 v2) h') : zCi mX12_lay [.ref 81, .int (zI v1), .int (zI v2), .int (zI v3)] zS0 h K := by
  unfold aLay fLay at hK
  refine wX12_lay ⟨r1, sX12_in r1 (by decide) (by decide) ?_⟩
  simp only [decide_eq_true_eq, decide_eq_false_iff_not]
  refine ⟨fun c => ⟨by omega, ?_⟩, fun c => ?_⟩
  · have hk : v1.toNat < 4 := by omega
    have ek : ((v1.toNat : Nat) : Int) = v1 := by omega
    obtain ⟨s1, s2, s3⟩ := M.2.2.2.1 v1.toNat hk
    obtain ⟨w1, w2, w3⟩ := W.2.2.2.2.2.2.2 v1.toNat hk
    rw [ek] at s1 s2 s3 w1 w2
    have fin : ∀ x, x = zLn (a 30 v1) v3 → ¬ a 30 v1 = -1 → 0 ≤ v2 → v2 < a 31 v1 → K 1 (zU h 107 (48 * v1 + v2) x) := by
      intro x ex c1 c2 c3
      rw [if_pos ⟨c, c1, c2, c3⟩, if_pos c, if_neg c1, if_pos ⟨c2, c3⟩] at hK
      refine hK _ (M.sheet (fun o ho => zU_off o (by omega)) (fun o ho => zU_off o (by omega)) (fun q hq => ?_)) (fun o ho => zU_off o (by omega))
      obtain ⟨t1, t2, t3⟩ := M.2.2.2.1 q hq
      rw [zU_off 30 (by omega), zU_off 31 (by omega), zU_off 105 (by decide), zU_off 106 (by decide)]
      refine ⟨t1, t2, fun j j0 j1 => ?_⟩
      have t4 := t3 j j0 j1
      rw [zU_at, zU_at]
      by_cases cq : q = v1.toNat ∧ j = v2
      · rw [if_pos ⟨rfl, by omega⟩, if_pos ⟨by omega, cq.2⟩]
        exact ex
      · rw [if_neg (fun z => cq (by omega)), if_neg (fun z => cq (by omega))]
        exact t4
    rw [s1]
    by_cases c1 : a 30 v1 = -1
    · rw [if_pos c1]
      refine ⟨by decide, fun d => absurd rfl d, fun _ => ?_⟩
      rw [if_neg (fun z => z.2.1 c1), if_pos c, if_pos c1] at hK
      exact hK h M (fun _ _ => rfl)
    · rw [if_neg c1, s2]
      refine ⟨⟨by omega, by omega⟩, fun _ => ⟨r2, ⟨by omega, by omega⟩, sX12_in r2 (by decide) ⟨by omega, by omega⟩ ?_⟩, fun d => by omega⟩
      simp only [decide_eq_true_eq, decide_eq_false_iff_not]
      rw [s1, if_neg c1]
      refine ⟨fun d => ⟨⟨by omega, by omega⟩, fun f => ⟨⟨by omega, by omega⟩, fin _ ?_ c1 (by omega) (by omega)⟩, fun f => ⟨⟨by omega, by omega⟩, fin _ ?_ c1 (by omega) (by omega)⟩⟩, fun d => ?_⟩
      · unfold zLn
        rw [if_neg f, iSr_16]
      · unfold zLn
        rw [if_pos f, iSr_8]
      · rw [if_neg (fun z => by omega), if_pos c, if_neg c1, if_neg (fun z => by omega)] at hK
        exact hK h M (fun _ _ => rfl)
  · rw [if_neg (fun z => c z.1), if_neg c] at hK
    exact hK h M (fun _ _ => rfl)
/-! read -/
/-- m MOVES more, from place f of sheet k on -/
def zRd (a : zMm) (k : Nat) (f m : Int) : zMm := fun o i => if o = 5 ∧ a 7 0 ≤ i ∧ i < a 7 0 + m then a (32 + k) (f + 2 * (i - a 7 0)) else if o = 6 ∧ a 7 0 ≤ i ∧ i < a 7 0 + m then a (32 + k) (f + 2 * (i - a 7 0) + 1) else if o = 7 ∧ i = 0 then a 7 0 + m else a o i
theorem zRd_at (a : zMm) (k : Nat) (f m : Int) : zRd a k f m 7 0 = a 7 0 + m ∧ (∀ i, i ≠ 0 → zRd a k f m 7 i = a 7 i) ∧ (∀ o : Nat, o ≠ 5 → o ≠ 6 → o ≠ 7 → zRd a k f m o = a o) ∧ (∀ i, zRd a k f m 5 i = if a 7 0 ≤ i ∧ i < a 7 0 + m then a (32 + k) (f + 2 * (i - a 7 0)) else a 5 i) ∧ (∀ i, zRd a k f m 6 i = if a 7 0 ≤ i ∧ i < a 7 0 + m then a (32 + k) (f + 2 * (i - a 7 0) + 1) else a 6 i) := by
  refine ⟨?_, fun i ci => ?_, fun o c1 c2 c3 => ?_, fun i => ?_, fun i => ?_⟩
  · unfold zRd
    rw [if_neg (by omega), if_neg (by omega), if_pos ⟨rfl, rfl⟩]
  · unfold zRd
    rw [if_neg (by omega), if_neg (by omega), if_neg (fun z => ci z.2)]
  · funext i
    unfold zRd
    rw [if_neg (fun z => c1 z.1), if_neg (fun z => c2 z.1), if_neg (fun z => c3 z.1)]
  · unfold zRd
    by_cases c : a 7 0 ≤ i ∧ i < a 7 0 + m
    · rw [if_pos ⟨rfl, c⟩, if_pos c]
    · rw [if_neg (fun z => c z.2), if_neg (by omega), if_neg (by omega), if_neg c]
  · unfold zRd
    rw [if_neg (by omega)]
    by_cases c : a 7 0 ≤ i ∧ i < a 7 0 + m
    · rw [if_pos ⟨rfl, c⟩, if_pos c]
    · rw [if_neg (fun z => c z.2), if_neg (by omega), if_neg c]
theorem zRd_0 (a : zMm) (k : Nat) (f : Int) : zRd a k f 0 = a := by
  funext o i
  unfold zRd
  rw [if_neg (by omega), if_neg (by omega)]
  split
  · rename_i c
    rw [c.1, c.2]
    omega
  · rfl
theorem zRd_st (a : zMm) (k : Nat) (f m : Int) (hm : 0 ≤ m) : zMv (zRd a k f m) (a (32 + k) (f + 2 * m)) (a (32 + k) (f + 2 * m + 1)) = zRd a k f (m + 1) := by
  obtain ⟨d1, d2, d3, d4, d5⟩ := zRd_at a k f m
  obtain ⟨b1, b2, b3, b4, b5⟩ := zRd_at a k f (m + 1)
  obtain ⟨e1, e2, e3, e4, e5⟩ := zMv_at (zRd a k f m) (a (32 + k) (f + 2 * m)) (a (32 + k) (f + 2 * m + 1))
  funext o i
  by_cases c5 : o = 5
  · subst c5
    rw [e4, b4, d1, d4]
    by_cases ci : i = a 7 0 + m
    · rw [if_pos ci, if_pos (by omega), show i - a 7 0 = m by omega]
    · rw [if_neg ci]
      by_cases cj : a 7 0 ≤ i ∧ i < a 7 0 + m
      · rw [if_pos cj, if_pos (by omega)]
      · rw [if_neg cj, if_neg (by omega)]
  · by_cases c6 : o = 6
    · subst c6
      rw [e5, b5, d1, d5]
      by_cases ci : i = a 7 0 + m
      · rw [if_pos ci, if_pos (by omega), show i - a 7 0 = m by omega]
      · rw [if_neg ci]
        by_cases cj : a 7 0 ≤ i ∧ i < a 7 0 + m
        · rw [if_pos cj, if_pos (by omega)]
        · rw [if_neg cj, if_neg (by omega)]
    · by_cases c7 : o = 7
      · subst c7
        by_cases ci : i = 0
        · rw [ci, e3, b1, d1]
          omega
        · rw [e2 i ci, b2 i ci, d2 i ci]
      · rw [e1 o c5 c6 c7, b3 o c5 c6 c7, d3 o c5 c6 c7]
def rdR (a : zMm) (k : Nat) (lane f : Int) : Nat → Int → Int × Int × Int
  | 0, i => (0, 0, i)
  | m + 1, i => if ¬ fF a k lane (f + 2 * i) = 0 then (0, fF a k lane (f + 2 * i), i) else if ¬ fF a k lane (f + 2 * i + 1) = 0 then (0, fF a k lane (f + 2 * i + 1), i) else if ¬ (0 ≤ a (32 + k) (f + 2 * i) ∧ a (32 + k) (f + 2 * i) ≤ 3 ∧ 1 ≤ a (32 + k) (f + 2 * i + 1) ∧ a (32 + k) (f + 2 * i + 1) ≤ 5) then (-20 - i, 0, i) else if a 7 0 + i = 24 then (-3, 0, i) else rdR a k lane f m (i + 1)
def zGd (a : zMm) (k : Nat) (lane f j : Int) : Prop := fF a k lane (f + 2 * j) = 0 ∧ fF a k lane (f + 2 * j + 1) = 0 ∧ (0 ≤ a (32 + k) (f + 2 * j) ∧ a (32 + k) (f + 2 * j) ≤ 3) ∧ (1 ≤ a (32 + k) (f + 2 * j + 1) ∧ a (32 + k) (f + 2 * j + 1) ≤ 5) ∧ a 7 0 + j < 24
theorem rdR_is {a : zMm} {k : Nat} {lane f : Int} : ∀ (m : Nat) (i : Int), a 7 0 + i ≤ 24 → i ≤ (rdR a k lane f m i).2.2 ∧ (rdR a k lane f m i).2.2 ≤ i + m ∧ (0 ≤ (rdR a k lane f m i).2.1 ∧ (rdR a k lane f m i).2.1 ≤ 3) ∧ ∀ j : Int, i ≤ j → j < (rdR a k lane f m i).2.2 → zGd a k lane f j := by
  intro m
  induction m with
  | zero =>
    intro i hi
    exact ⟨Int.le_refl _, by show i ≤ i + ((0 : Nat) : Int); omega, ⟨by show (0 : Int) ≤ 0; decide, by show (0 : Int) ≤ 3; decide⟩, fun j j0 j1 => absurd (show j < i from j1) (by omega)⟩
  | succ m ih =>
    intro i hi
    have f1 := fF_R a k lane (f + 2 * i)
    have f2 := fF_R a k lane (f + 2 * i + 1)
    unfold rdR
    by_cases c1 : ¬ fF a k lane (f + 2 * i) = 0
    · rw [if_pos c1]
      exact ⟨Int.le_refl _, by show i ≤ _; omega, f1, fun j j0 j1 => absurd (show j < i from j1) (by omega)⟩
    rw [if_neg c1]
    by_cases c2 : ¬ fF a k lane (f + 2 * i + 1) = 0
    · rw [if_pos c2]
      exact ⟨Int.le_refl _, by show i ≤ _; omega, f2, fun j j0 j1 => absurd (show j < i from j1) (by omega)⟩
    rw [if_neg c2]
    by_cases c3 : ¬ (0 ≤ a (32 + k) (f + 2 * i) ∧ a (32 + k) (f + 2 * i) ≤ 3 ∧ 1 ≤ a (32 + k) (f + 2 * i + 1) ∧ a (32 + k) (f + 2 * i + 1) ≤ 5)
    · rw [if_pos c3]
      exact ⟨Int.le_refl _, by show i ≤ _; omega, ⟨by show (0 : Int) ≤ 0; decide, by show (0 : Int) ≤ 3; decide⟩, fun j j0 j1 => absurd (show j < i from j1) (by omega)⟩
    rw [if_neg c3]
    by_cases c4 : a 7 0 + i = 24
    · rw [if_pos c4]
      exact ⟨Int.le_refl _, by show i ≤ _; omega, ⟨by show (0 : Int) ≤ 0; decide, by show (0 : Int) ≤ 3; decide⟩, fun j j0 j1 => absurd (show j < i from j1) (by omega)⟩
    rw [if_neg c4]
    obtain ⟨g1, g2, g3, g4⟩ := ih (i + 1) (by omega)
    refine ⟨by omega, by omega, g3, fun j j0 j1 => ?_⟩
    by_cases ce : j = i
    · rw [ce]
      exact ⟨by omega, by omega, by omega, by omega, by omega⟩
    · exact g4 j (by omega) j1
def aRead (a : zMm) (k lane f n : Int) : zMm := if (0 ≤ k ∧ k ≤ 3 ∧ 0 ≤ lane ∧ lane ≤ 2 ∧ 0 ≤ n ∧ n ≤ 24) ∧ (rdR a k.toNat lane f n.toNat 0).1 = 0 then zU (zRd a k.toNat f (rdR a k.toNat lane f n.toNat 0).2.2) 7 3 (rdR a k.toNat lane f n.toNat 0).2.1 else a
def fRead (a : zMm) (k lane f n : Int) : Int := if 0 ≤ k ∧ k ≤ 3 ∧ 0 ≤ lane ∧ lane ≤ 2 ∧ 0 ≤ n ∧ n ≤ 24 then (if (rdR a k.toNat lane f n.toNat 0).1 = 0 then (rdR a k.toNat lane f n.toNat 0).2.2 else (rdR a k.toNat lane f n.toNat 0).1) else -1
theorem WF.torn {a : zMm} {x : Int} (W : WF a) (hx : 0 ≤ x ∧ x ≤ 3) : WF (zU a 7 3 x) := by
  have e : ∀ o : Nat, o ≠ 7 → (zU a 7 3 x) o = a o := fun o ho => zU_off o ho
  have e7 : ∀ i : Int, i ≠ 3 → (zU a 7 3 x) 7 i = a 7 i := fun i ci => zU_ne (by omega)
  obtain ⟨w1, w2, w3, w4, w5, w6, w7, w8⟩ := W
  unfold WF zMW zWi at *
  rw [e 0 (by decide), e 1 (by decide), e 2 (by decide), e 3 (by decide), e 4 (by decide), e 5 (by decide), e 6 (by decide), e 8 (by decide), e 10 (by decide), e (10 + 1) (by decide), e (10 + 2) (by decide), e (10 + 3) (by decide), e (10 + 4) (by decide), e (10 + 5) (by decide), e 20 (by decide), e (20 + 1) (by decide), e (20 + 2) (by decide), e (20 + 3) (by decide), e (20 + 4) (by decide), e (20 + 5) (by decide), e 30 (by decide), e 31 (by decide), e7 0 (by decide), e7 1 (by decide), e7 2 (by decide), e7 4 (by decide), e7 5 (by decide), zU_eq]
  refine ⟨w1, w2, w3, w4, w5, ⟨w6.1, hx⟩, w7, fun k hk => ?_⟩
  rw [e (32 + k) (by omega)]
  exact w8 k hk
theorem CR.torn {a h : zMm} {x : Int} (C : CR a h) : CR (zU a 7 3 x) (zU h 0 15 x) := by
  have e : ∀ o : Nat, o ≠ 7 → (zU a 7 3 x) o = a o := fun o ho => zU_off o ho
  have e7 : ∀ i : Int, i ≠ 3 → (zU a 7 3 x) 7 i = a 7 i := fun i ci => zU_ne (by omega)
  have ez : ∀ o : Nat, o ≠ 0 → (zU h 0 15 x) o = h o := fun o ho => zU_off o ho
  obtain ⟨h1, h2, h3, h4, h5, h6, h7⟩ := C
  exact ⟨h1.to ⟨e _ (by decide), e _ (by decide), e _ (by decide), e _ (by decide), e _ (by decide)⟩ ⟨ez _ (by decide), ez _ (by decide), ez _ (by decide), ez _ (by decide), ez _ (by decide)⟩, h2.to ⟨e7 0 (by decide), e _ (by decide), e _ (by decide)⟩ ⟨congrFun (ez _ (by decide)) 2, ez _ (by decide), ez _ (by decide)⟩, h3.to ⟨e7 1 (by decide), e _ (by decide)⟩ ⟨congrFun (ez _ (by decide)) 1, ez _ (by decide)⟩, h4.to ⟨e7 4 (by decide), e7 5 (by decide), fun o _ _ => e o (by omega)⟩ (fun o _ _ => ez o (by omega)), h5.to (fun o _ _ => e o (by omega)) (fun o _ _ => ez o (by omega)), ⟨by rw [e7 2 (by decide), ez 3 (by decide)]; exact h6.1, by rw [zU_eq, zU_eq]⟩, h7.to ⟨e _ (by decide), e _ (by decide)⟩ ⟨ez _ (by decide), ez _ (by decide), ez _ (by decide)⟩⟩
theorem MR.torn {a h : zMm} {x : Int} (M : MR a h) : MR (zU a 7 3 x) (zU h 81 50 x) := by
  have e : ∀ o : Nat, o ≠ 7 → (zU a 7 3 x) o = a o := fun o ho => zU_off o ho
  have e7 : ∀ i : Int, i ≠ 3 → (zU a 7 3 x) 7 i = a 7 i := fun i ci => zU_ne (by omega)
  have ez : ∀ o : Nat, o ≠ 81 → (zU h 81 50 x) o = h o := fun o ho => zU_off o ho
  have e8 : ∀ i : Int, i ≠ 50 → (zU h 81 50 x) 81 i = h 81 i := fun i ci => zU_ne (by omega)
  obtain ⟨m1, m2, m3, m4, m5, m6⟩ := M
  exact ⟨m1.to ⟨e _ (by decide), e _ (by decide), e _ (by decide), e _ (by decide), e _ (by decide), e _ (by decide), e _ (by decide), e7 0 (by decide)⟩ (e7 4 (by decide)) (e7 5 (by decide)) (ez _ (by decide)) (ez _ (by decide)) (e8 _ (by decide)), m2.to (e7 1 (by decide)) (e _ (by decide)) (e8 _ (by decide)) (ez _ (by decide)), m3.to (e7 4 (by decide)) (e7 5 (by decide)) (fun o _ _ => e o (by omega)) (fun i _ => congrFun (ez _ (by decide)) i) (ez _ (by decide)), m4.to (fun o _ _ => e o (by omega)) (ez _ (by decide)) (ez _ (by decide)) (ez _ (by decide)), ⟨by rw [e7 2 (by decide), e8 2 (by decide)]; exact m5.1, by rw [zU_eq, zU_eq]⟩, m6.to (fun o _ _ => ez o (by omega))⟩
theorem wRead {a : zMm} {k lane f n : Int} (W : WF a) : WF (aRead a k lane f n) := by
  unfold aRead
  have w0 := W.2.2.2.1.1
  split
  · obtain ⟨g1, g2, g3, g4⟩ := rdR_is (a := a) (k := k.toNat) (lane := lane) (f := f) n.toNat 0 (by omega)
    obtain ⟨d1, d2, d3, d4, d5⟩ := zRd_at a k.toNat f (rdR a k.toNat lane f n.toNat 0).2.2
    refine WF.torn (W.moves d3 d2 ⟨?_, fun i i0 i1 => ?_⟩) g3
    · rw [d1]
      by_cases c : (rdR a k.toNat lane f n.toNat 0).2.2 = 0
      · omega
      · have := (g4 ((rdR a k.toNat lane f n.toNat 0).2.2 - 1) (by omega) (by omega)).2.2.2.2
        omega
    · rw [d1] at i1
      rw [d4, d5]
      by_cases c : a 7 0 ≤ i
      · rw [if_pos ⟨c, i1⟩, if_pos ⟨c, i1⟩]
        obtain ⟨-, -, p3, p4, -⟩ := g4 (i - a 7 0) (by omega) (by omega)
        exact ⟨p3, p4⟩
      · rw [if_neg (by omega), if_neg (by omega)]
        exact W.2.2.2.1.2 i i0 (by omega)
  · exact W
