/-! TEXT: the model takes a line: what stays, what stands -/
def mFr (h g : zMm) : Prop := (∀ o, o ≠ 81 → o ≠ 89 → o ≠ 90 → o ≠ 91 → g o = h o) ∧ ∀ i : Int, ¬ ((3 ≤ i ∧ i ≤ 8) ∨ i = 18 ∨ i = 19) → g 81 i = h 81 i
theorem mFr.rf (h : zMm) : mFr h h := ⟨fun _ _ _ _ _ => rfl, fun _ _ => rfl⟩
theorem mFr.trans {h g k : zMm} (F : mFr h g) (G : mFr g k) : mFr h k := ⟨fun o o1 o2 o3 o4 => (G.1 o o1 o2 o3 o4).trans (F.1 o o1 o2 o3 o4), fun i hi => (G.2 i hi).trans (F.2 i hi)⟩
theorem mFr.u81 {h g : zMm} (F : mFr h g) {k x : Int} (hk : (3 ≤ k ∧ k ≤ 8) ∨ k = 18 ∨ k = 19) : mFr h (zU g 81 k x) := ⟨fun o o1 o2 o3 o4 => (zU_off o o1).trans (F.1 o o1 o2 o3 o4), fun i hi => (zU_81 (fun z => hi (by rw [z]; exact hk))).trans (F.2 i hi)⟩
theorem mFr.u {h g : zMm} (F : mFr h g) {o : Nat} {k x : Int} (ho : o = 89 ∨ o = 90 ∨ o = 91) : mFr h (zU g o k x) := ⟨fun q q1 q2 q3 q4 => (zU_off q (by omega)).trans (F.1 q q1 q2 q3 q4), fun i hi => (by rw [zU_off 81 (by omega)]; exact F.2 i hi)⟩
theorem mFr.rd {a h g k : zMm} {s : Int} (F : mFr h g) (R : mRd a g s k) : mFr h k := ⟨fun o o1 o2 o3 o4 => (R.1 o o1).trans (F.1 o o1 o2 o3 o4), fun i hi => (R.2.1 i (fun z => hi (Or.inl z))).trans (F.2 i hi)⟩
theorem mFr.T {a h g : zMm} (F : mFr h g) (M : mT a h) : mT a g := ⟨(F.2 1 (by decide)).trans M.1, by rw [F.1 82 (by decide) (by decide) (by decide) (by decide)]; exact M.2⟩
theorem mFr.C {h g : zMm} (F : mFr h g) (M : mC h) : mC g := by
  unfold mC at M ⊢
  rw [F.1 83 (by decide) (by decide) (by decide) (by decide), F.1 84 (by decide) (by decide) (by decide) (by decide), F.1 85 (by decide) (by decide) (by decide) (by decide), F.1 86 (by decide) (by decide) (by decide) (by decide), F.1 87 (by decide) (by decide) (by decide) (by decide)]
  exact M
def mRg (g : zMm) : Prop := (-10 ≤ g 81 7 ∧ g 81 7 ≤ 10) ∧ (0 ≤ g 81 5 ∧ g 81 5 ≤ 400) ∧ (0 ≤ g 81 6 ∧ g 81 6 ≤ 400) ∧ (0 ≤ g 89 0 ∧ g 89 0 ≤ 35) ∧ ∀ i : Int, 0 ≤ i → i < 36 → -4 ≤ g 90 i ∧ g 90 i ≤ 4
def mSk (code place : Int) (g : zMm) : Prop := g 81 3 = code ∧ g 81 4 = place ∧ (0 < code ∧ code < 100) ∧ mRg g
theorem mSk.pos {c p : Int} {g : zMm} (k : mSk c p g) : 0 < g 81 3 ∧ g 81 3 < 100 := by rw [k.1]; exact k.2.2.1
theorem mSk.ne {c p : Int} {g : zMm} (k : mSk c p g) : ¬ g 81 3 = 0 := by have := k.pos; omega
theorem mSk.r3 {c p : Int} {g : zMm} (k : mSk c p g) : zR (g 81 3) := by have := k.pos; exact ⟨by omega, by omega⟩
theorem mSk.r7 {c p : Int} {g : zMm} (k : mSk c p g) : zR (g 81 7) := by have := k.2.2.2.1; exact ⟨by omega, by omega⟩
theorem mSk.r56 {c p : Int} {g : zMm} (k : mSk c p g) : zR (g 81 5 - g 81 6) := by
  obtain ⟨-, -, -, -, q1, q2, -⟩ := k
  exact ⟨by omega, by omega⟩
theorem mRg.u3 {g : zMm} (R : mRg g) {i x : Int} (hi : i = 3 ∨ i = 4 ∨ i = 19 ∨ i = 18) : mRg (zU g 81 i x) := by
  unfold mRg at R ⊢
  rw [zU_81 (by omega), zU_81 (by omega), zU_81 (by omega), zU_off 89 (by decide), zU_off 90 (by decide)]
  exact R
theorem mSk_of {g : zMm} {c p : Int} (R : mRg g) (g6 : g 81 6 = p) (hc : 0 < c ∧ c < 100) : mSk c p (zU (zU g 81 3 c) 81 4 (g 81 6)) := ⟨by rw [zU_81 (by decide), zU_eq], by rw [zU_eq]; exact g6, hc, (R.u3 (by decide)).u3 (by decide)⟩
theorem mSk.u18 {c p : Int} {g : zMm} (k : mSk c p g) {x : Int} : mSk c p (zU g 81 18 x) := ⟨by rw [zU_81 (by decide)]; exact k.1, by rw [zU_81 (by decide)]; exact k.2.1, k.2.2.1, k.2.2.2.u3 (by decide)⟩
theorem mSk.u19 {c p : Int} {g : zMm} (k : mSk c p g) {x : Int} : mSk c p (zU g 81 19 x) := ⟨by rw [zU_81 (by decide)]; exact k.1, by rw [zU_81 (by decide)]; exact k.2.1, k.2.2.1, k.2.2.2.u3 (by decide)⟩
theorem mSk.u89 {c p : Int} {g : zMm} (k : mSk c p g) {i : Int} : mSk c p (zU g 89 i 0) := by
  unfold mSk mRg at k ⊢
  have e : 0 ≤ zU g 89 i 0 89 0 ∧ zU g 89 i 0 89 0 ≤ 35 := by
    rw [zU_at]
    split
    · exact ⟨by decide, by decide⟩
    · exact k.2.2.2.2.2.2.1
  rw [zU_off 81 (by decide), zU_off 90 (by decide)]
  exact ⟨k.1, k.2.1, k.2.2.1, k.2.2.2.1, k.2.2.2.2.1, k.2.2.2.2.2.1, e, k.2.2.2.2.2.2.2⟩
def mTo (a : zMm) (s : Int) (g : zMm) : Prop := g 81 3 = 0 ∧ g 81 5 = gEn a s ∧ g 81 6 = gSb a s ∧ g 81 7 = (if gTk a s = 5 then 0 else gTk a s) ∧ (gTk a s = 2 → g 81 8 = gNu a s)
def yMr (d g : zMm) : Prop := (∀ r : Int, 0 ≤ r → r ≤ 7 → g 89 r = d 1 r) ∧ (∀ c : Int, 0 ≤ c → c < 36 → (d 4 c = 1 → g 91 c = -1 - d 2 c) ∧ (¬ d 4 c = 1 → g 91 c = 3 ∧ d 2 c = 3)) ∧ g 81 18 = d 5 0 ∧ ∃ P : Int → Bool, g 81 19 = zB P 10 ∧ ∀ m : Int, 0 ≤ m → m ≤ 7 → P m = decide (d 3 m = 1)
def yM (d g : zMm) : Prop := (∀ i : Int, 0 ≤ i → i < 36 → g 90 i = d 0 i) ∧ yMr d g
theorem yM.rd {a d g k : zMm} {s : Int} (D : yM d g) (R : mRd a g s k) : yM d k := by
  unfold yM yMr at D ⊢
  rw [R.1 90 (by decide), R.1 89 (by decide), R.1 91 (by decide), R.2.1 18 (by decide), R.2.1 19 (by decide)]
  exact D
theorem yM.u {d g : zMm} (D : yM d g) {i x : Int} (hi : i = 3 ∨ i = 4) : yM d (zU g 81 i x) := by
  unfold yM yMr at D ⊢
  rw [zU_off 90 (by decide), zU_off 89 (by decide), zU_off 91 (by decide), zU_81 (by omega), zU_81 (by omega)]
  exact D
theorem yM.R {a d g : zMm} {s : Int} (T : gTa a) (s0 : 0 ≤ s ∧ s ≤ a 7 1) (G : mTo a s g) (D : yM d g) (O : yOk d) : mRg g := by
  obtain ⟨e1, e2, -, -⟩ := gEn_in T s0.1 s0.2
  have e3 := gSb_in s0.2
  have e4 := gTk_R a s
  have hn := T.1
  obtain ⟨G1, G2, G3, G4, -⟩ := G
  obtain ⟨D0, D1, -, D3, -⟩ := D
  have o1 : (0 : Int) ≤ d 1 0 ∧ d 1 0 ≤ 35 := O.2.1 0 (by decide) (by decide)
  have o3 := O.2.2
  unfold mRg
  rw [G4, G2, G3, D1 0 (by decide) (by decide)]
  refine ⟨?_, ⟨by omega, by omega⟩, ⟨by omega, by omega⟩, o1, fun i i0 i1 => ?_⟩
  · split
    · exact ⟨by decide, by decide⟩
    · exact ⟨by omega, by omega⟩
  · have := (O.1 i i0 i1).1
    rw [D0 i i0 i1]
    exact ⟨by omega, by omega⟩
def mQ (a h : zMm) (K : zMm → Prop) (B : Int × Int × Int × zMm) : Prop := (B.1 = 0 → ¬ gTk a B.2.2.1 = 0 → ∀ g, mFr h g → mTo a B.2.2.1 g → yM B.2.2.2 g → K g) ∧ (B.1 = 0 → gTk a B.2.2.1 = 0 → ∀ g, mFr h g → mSk 1 (gSb a B.2.2.1) g → K g) ∧ (¬ B.1 = 0 → ∀ g, mFr h g → mSk B.1 B.2.1 g → K g)
theorem sX12_nx {a d h g : zMm} {K : zMm → Prop} {t x : Int} (T : gTa a) (M : mT a h) (F : mFr h g) (t0 : 0 ≤ t ∧ t ≤ a 7 1) (w : g 81 3 = 0) (g5 : g 81 5 = t) (D : yM d g) (O : yOk d) (Q : mQ a h K (0, x, t, d)) : zCv mX12_next [.ref 81] zS0 g K := by
  refine sX12_next T (F.T M) w g5 t0 (fun k R => ?_)
  have F' := F.rd R
  have D' := D.rd R
  obtain ⟨r1, r2, r6, r5, r0, r7, r8⟩ := R
  by_cases c : gTk a t = 0
  · obtain ⟨e1, e2, -, -⟩ := gEn_in T t0.1 t0.2
    have e3 := gSb_in t0.2
    have hn := T.1
    obtain ⟨q3, q4, q7⟩ := r0 c
    have o1 : (0 : Int) ≤ d 1 0 ∧ d 1 0 ≤ 35 := O.2.1 0 (by decide) (by decide)
    have o3 := O.2.2
    refine Q.2.1 rfl c k F' ⟨q3, q4, ⟨by decide, by decide⟩, ⟨by omega, by omega⟩, ⟨by omega, by omega⟩, ⟨by omega, by omega⟩, ?_, fun i i0 i1 => ?_⟩
    · rw [D'.2.1 0 (by decide) (by decide)]; exact o1
    · have := (O.1 i i0 i1).1
      rw [D'.1 i i0 i1]; exact ⟨by omega, by omega⟩
  · exact Q.1 rfl c k F' ⟨(r7 c).1, r5, r6, (r7 c).2, r8⟩ D'
/-- the end of a line -/
def mTl (K : zMm → Prop) (g : zMm) : Prop := (zR (g 81 3) ∧ (zR (g 81 7) ∧ ((¬ (g 81 3) = 0 → zCv mX12_next [.ref 81] zS0 g (fun h17 => K h17)) ∧ ((g 81 3) = 0 → (((g 81 7) = 3 → zCv mX12_next [.ref 81] zS0 g (fun h18 => K h18)) ∧ (¬ (g 81 7) = 3 → zCv mX12_fails [.ref 81, .int (zI 2)] zS0 g (fun h19 => zCv mX12_next [.ref 81] zS0 h19 (fun h20 => K h20))))))))
theorem mTl.sk {c p : Int} {K : zMm → Prop} {g : zMm} (k : mSk c p g) (w : K g) : mTl K g := ⟨k.r3, k.r7, fun _ => sX12_next1 k.pos w, fun z => absurd z k.ne⟩
theorem mTl_of {a d h : zMm} {K : zMm → Prop} {s : Int} (T : gTa a) (M : mT a h) (s0 : 0 ≤ s ∧ s ≤ a 7 1) (O : yOk d) (c1 : yDue a s 1 = 0) (cN : ¬ gNm a s = -4) (Q : mQ a h K (yLine a d s)) : mQ a h (mTl K) (yBody a d s) := by
  have eL : yLine a d s = if ¬ (yBody a d s).1 = 0 then yBody a d s else if ¬ yDue a (yBody a d s).2.2.1 3 = 0 then (yDue a (yBody a d s).2.2.1 3, gSb a (yBody a d s).2.2.1, s, d) else (0, 0, gEn a (yBody a d s).2.2.1, (yBody a d s).2.2.2) := by
    unfold yLine
    rw [if_neg (fun z => z c1), if_neg cN]
  have ok := yBody_ok (a := a) (d := d) T s0 O cN
  have u0 := gEn_up T s0
  generalize yBody a d s = B at eL ok ⊢
  refine ⟨fun b0 ct g F G D => ?_, fun b0 ct g F k => ?_, fun b0 g F k => ?_⟩
  · rw [if_neg (fun z => z b0)] at eL
    obtain ⟨O', t1, t2⟩ := ok b0
    have t0 : 0 ≤ B.2.2.1 ∧ B.2.2.1 ≤ a 7 1 := ⟨by omega, t2⟩
    have u1 := gEn_up T t0
    have R := D.R T t0 G O'
    obtain ⟨G1, G2, G3, G4, G5⟩ := G
    have e4 := gTk_R a B.2.2.1
    have z3 : zR (g 81 3) := by rw [G1]; exact ⟨by decide, by decide⟩
    have z7 : zR (g 81 7) := by have := R.1; exact ⟨by omega, by omega⟩
    by_cases c3 : gTk a B.2.2.1 = 3
    · have q : yDue a B.2.2.1 3 = 0 := by unfold yDue; rw [if_neg ct, if_pos c3]
      have q7 : g 81 7 = 3 := by rw [G4, c3]; rfl
      rw [if_neg (fun z => z q)] at eL
      rw [eL] at Q
      exact ⟨z3, z7, fun z => absurd G1 z, fun _ => ⟨fun _ => sX12_nx T M F ⟨by omega, u1.2.1⟩ G1 G2 D O' Q, fun z => absurd q7 z⟩⟩
    · have q : yDue a B.2.2.1 3 = 2 := by unfold yDue; rw [if_neg ct, if_neg c3]
      have q7 : ¬ g 81 7 = 3 := by
        rw [G4]
        split <;> omega
      rw [q, if_pos (by decide)] at eL
      rw [eL] at Q
      have k := mSk_of (c := 2) R G3 ⟨by decide, by decide⟩
      exact ⟨z3, z7, fun z => absurd G1 z, fun _ => ⟨fun z => absurd z q7, fun _ => sX12_fails z3 (fun _ => sX12_next1 k.pos (Q.2.2 (by show ¬ (2 : Int) = 0; decide) _ ((F.u81 (by decide)).u81 (by decide)) k)) (fun z => absurd G1 z)⟩⟩
  · rw [if_neg (fun z => z b0)] at eL
    have q : yDue a B.2.2.1 3 = 1 := by unfold yDue; rw [if_pos ct]
    rw [q, if_pos (by decide)] at eL
    rw [eL] at Q
    exact mTl.sk k (Q.2.2 (by show ¬ (1 : Int) = 0; decide) g F k)
  · rw [if_pos b0] at eL
    rw [eL] at Q
    exact mTl.sk k (Q.2.2 b0 g F k)
theorem yNum_1 {a : zMm} {t lo hi : Int} (c : gTk a t = 0) : yNum a t lo hi = 1 := by
  have e : yDue a t 2 = 1 := by unfold yDue; rw [if_pos c]
  unfold yNum
  rw [e, if_pos (by decide)]
theorem sX12_hereT {a g : zMm} {K : Int → zMm → Prop} {t lo hi : Int} (T : gTa a) (t0 : 0 ≤ t ∧ t ≤ a 7 1) (G : mTo a t g) (ct : ¬ gTk a t = 0) (R : mRg g) (rl : zR lo) (rh : zR hi) (w1 : yNum a t lo hi = 0 → K (gNu a t) g) (w0 : ¬ yNum a t lo hi = 0 → ∀ k, mFr g k → mSk (yNum a t lo hi) (gSb a t) k → K 0 k) : zCi mX12_here [.ref 81, .int (zI lo), .int (zI hi)] zS0 g K := by
  obtain ⟨G1, G2, G3, G4, G5⟩ := G
  have e4 := gTk_R a t
  have i2 : g 81 7 = 2 ↔ gTk a t = 2 := by
    rw [G4]
    split
    · omega
    · exact Iff.rfl
  have Fx : ∀ c : Int, mFr g (zU (zU g 81 3 c) 81 4 (g 81 6)) := fun c => ((mFr.rf g).u81 (by decide)).u81 (by decide)
  have z7 : zR (g 81 7) := by have := R.1; exact ⟨by omega, by omega⟩
  refine sX12_here0 G1 z7 rl rh (fun c => ?_) (fun c q => ?_) (fun c q => ?_) (fun c => ?_)
  · have n := gNu_R T t0 (i2.mp c)
    rw [G5 (i2.mp c)]
    exact ⟨by omega, by omega⟩
  · rw [G5 (i2.mp c)] at q ⊢
    refine w1 ?_
    unfold yNum yDue
    rw [if_neg ct, if_pos (i2.mp c), if_neg (fun z => z rfl), if_pos q]
  · rw [G5 (i2.mp c)] at q
    have e : yNum a t lo hi = 3 := by
      unfold yNum yDue
      rw [if_neg ct, if_pos (i2.mp c), if_neg (fun z => z rfl), if_neg q]
    rw [e] at w0
    exact w0 (by decide) _ (Fx 3) (mSk_of R G3 ⟨by decide, by decide⟩)
  · have e : yNum a t lo hi = 2 := by
      unfold yNum yDue
      rw [if_neg ct, if_neg (fun z => c (i2.mpr z)), if_pos (by decide)]
    rw [e] at w0
    exact w0 (by decide) _ (Fx 2) (mSk_of R G3 ⟨by decide, by decide⟩)
theorem sX12_hereS {c p : Int} {g : zMm} {K : Int → zMm → Prop} {lo hi : Int} (k : mSk c p g) (w : K 0 g) : zCi mX12_here [.ref 81, .int (zI lo), .int (zI hi)] zS0 g K := sX12_here1 k.pos k.r7 w
theorem sX12_failS {c p : Int} {g : zMm} {K : zMm → Prop} {x : Int} (k : mSk c p g) (w : K g) : zCv mX12_fails [.ref 81, .int (zI x)] zS0 g K := sX12_fails k.r3 (fun z => absurd z k.ne) (fun _ => w)
