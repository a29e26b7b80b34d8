/-! THE ROBOT -/
/-- numbers that are the same ints may stand for each other, in the robots' seeds -/
theorem zWl_nm {ρ : Nat → Nat} {ca : Nat → ClassId} {h h' : zMm} (e : ∀ (o : Nat) (i : Int), ¬ (o = 47 ∧ i = 2) → ¬ (o = 81 ∧ i = 41) → h' o i = h o i) (e1 : zI (h' 47 2) = zI (h 47 2)) (e2 : zI (h' 81 41) = zI (h 81 41)) : zWl ρ ca zS0 h = zWl ρ ca zS0 h' := by
  apply List.ext_getElem?
  intro o
  rw [zWl_at, zWl_at]
  cases hd : zS0[o]? with
  | none => rfl
  | some d =>
    have key : zEn ρ ca h o d = zEn ρ ca h' o d := by
      by_cases c1 : o = 47
      · subst c1
        rw [s0_47] at hd
        have hd := (Option.some.inj hd).symm
        subst hd
        have : zFv ρ h 47 (6, 5, [none, none, none, none, none]) = zFv ρ h' 47 (6, 5, [none, none, none, none, none]) := by
          funext i
          by_cases ci : i = 2
          · subst ci
            show Value.int (zI (h 47 ((2 : Nat) : Int))) = Value.int (zI (h' 47 ((2 : Nat) : Int)))
            rw [show ((2 : Nat) : Int) = 2 from rfl, e1]
          · have := e 47 (i : Int) (by omega) (by omega)
            unfold zFv
            rw [this]
        unfold zEn
        rw [this]
        rfl
      · by_cases c2 : o = 81
        · subst c2
          rw [s0_81] at hd
          have hd := (Option.some.inj hd).symm
          subst hd
          unfold zEn
          rw [if_pos (by decide), if_pos (by decide)]
          congr 1
          congr 1
          apply List.map_congr_left
          intro i _
          by_cases ci : i = 41
          · subst ci
            show Value.int (zI (h 81 ((41 : Nat) : Int))) = Value.int (zI (h' 81 ((41 : Nat) : Int)))
            rw [show ((41 : Nat) : Int) = 41 from rfl, e2]
          · have := e 81 (i : Int) (by omega) (by omega)
            unfold zFv
            rw [this]
        · have : h' o = h o := by
            funext i
            exact e o i (fun z => c1 z.1) (fun z => c2 z.1)
          unfold zEn zFv
          rw [this]
    show some (ρ o, zEn ρ ca h o d) = some (ρ o, zEn ρ ca h' o d)
    rw [key]
theorem RR.norm {μ : zMi} {k n pc : Nat} {L : List (Option Value)} {st : List Value} {h h' : zMm} {Q : Option Value → zSh → zMm → Prop} (e : ∀ (o : Nat) (i : Int), ¬ (o = 47 ∧ i = 2) → ¬ (o = 81 ∧ i = 41) → h' o i = h o i) (e1 : zI (h' 47 2) = zI (h 47 2)) (e2 : zI (h' 81 41) = zI (h 81 41)) (hR : RR μ k n pc L st zS0 h' Q) : RR μ k n pc L st zS0 h Q := by
  intro p l e0 s m args below meth c dC dI ca ρ B A Z H locs ls hC hG hN hH hl
  have ew := zWl_nm (ρ := ρ) (ca := ca) e e1 e2
  unfold zH at hH
  rw [ew] at hH
  exact hR p l e0 s m args below meth c dC dI ca ρ B A Z H locs ls hC hG hN hH hl
def iN (x : Int) : Int := (zI x).toInt
theorem iN_R (x : Int) : zR (iN x) := by
  unfold iN
  have h1 := (zI x).le_toInt
  have h2 := (zI x).toInt_lt
  exact ⟨by omega, by omega⟩
theorem zI_iN (x : Int) : zI (iN x) = zI x := zI_of _
/-- the robot: 0 cell, 1 way, 2 seed, 3 strikes, 4 been -/
def rSd (s : Int) : Int := iN (s * 1103515245 + 12345)
def rGo (Kd : Int → Int) (rule : Int) (r : Int → Int) : Int → Int := fun i =>
  if 0 ≤ zNx Kd (r 0) (r 1) then (if i = 0 then zNx Kd (r 0) (r 1) else if i = 4 then lO (r 4) (lSl 1 (zNx Kd (r 0) (r 1))) else r i)
  else if i = 3 then r 3 + 1
  else if rule = 3 then (if i = 2 then rSd (r 2) else if i = 1 then iSr (rSd (r 2)) 16 % 4 else r i)
  else (if i = 1 then (r 1 + (if rule = 0 then 1 else if rule = 1 then 3 else 2)) % 4 else r i)
def rOk (t : Int) (r : Int → Int) : Prop := (0 ≤ r 0 ∧ r 0 < 36) ∧ (0 ≤ r 1 ∧ r 1 ≤ 3) ∧ zR (r 2) ∧ (0 ≤ r 3 ∧ r 3 ≤ t) ∧ (0 ≤ r 4 ∧ r 4 < 68719476736)
theorem rGo_ok {Kd : Int → Int} {rule t : Int} {r : Int → Int} (h : rOk t r) : rOk (t + 1) (rGo Kd rule r) := by
  obtain ⟨h0, h1, h2, h3, h4⟩ := h
  have hx := zNx_R (Kd := Kd) (way := r 1) h0
  unfold rOk rGo
  by_cases c : 0 ≤ zNx Kd (r 0) (r 1)
  · simp only [if_pos c]
    have hx2 : 0 ≤ zNx Kd (r 0) (r 1) ∧ zNx Kd (r 0) (r 1) < 36 := by omega
    have := lO_R h4 (lSl_R hx2)
    exact ⟨hx2, h1, h2, ⟨by omega, by omega⟩, this⟩
  · simp only [if_neg c]
    by_cases d : rule = 3
    · simp only [if_pos d]
      refine ⟨h0, ?_, iN_R _, ⟨by show 0 ≤ r 3 + 1; omega, by show r 3 + 1 ≤ t + 1; omega⟩, h4⟩
      show 0 ≤ iSr (rSd (r 2)) 16 % 4 ∧ iSr (rSd (r 2)) 16 % 4 ≤ 3
      omega
    · simp only [if_neg d]
      refine ⟨h0, ?_, h2, ⟨by show 0 ≤ r 3 + 1; omega, by show r 3 + 1 ≤ t + 1; omega⟩, h4⟩
      show 0 ≤ (r 1 + (if rule = 0 then 1 else if rule = 1 then 3 else 2)) % 4 ∧ (r 1 + (if rule = 0 then 1 else if rule = 1 then 3 else 2)) % 4 ≤ 3
      omega
def rIt (Kd : Int → Int) (rule : Int) : Nat → (Int → Int) → Int → Int
  | 0, r => r
  | n + 1, r => rIt Kd rule n (rGo Kd rule r)
theorem rIt_s (Kd : Int → Int) (rule : Int) : ∀ (n : Nat) (r : Int → Int), rIt Kd rule (n + 1) r = rGo Kd rule (rIt Kd rule n r) := by
  intro n
  induction n with
  | zero => intro r; rfl
  | succ n ih =>
    intro r
    show rIt Kd rule (n + 1) (rGo Kd rule r) = rGo Kd rule (rIt Kd rule n (rGo Kd rule r))
    exact ih _
theorem rIt_ok {Kd : Int → Int} {rule : Int} : ∀ (n : Nat) (t : Int) (r : Int → Int), rOk t r → rOk (t + n) (rIt Kd rule n r) := by
  intro n
  induction n with
  | zero => intro t r h; rw [show t + ((0 : Nat) : Int) = t by omega]; exact h
  | succ n ih =>
    intro t r h
    have := ih (t + 1) _ (rGo_ok (Kd := Kd) (rule := rule) h)
    rw [show t + ((n + 1 : Nat) : Int) = t + 1 + n by omega]
    exact this
def r0 (c way seed : Int) : Int → Int := fun i => if i = 0 then c else if i = 1 then way else if i = 2 then seed else if i = 3 then 0 else lSl 1 c
theorem r0_ok {c way seed : Int} (hc : 0 ≤ c ∧ c < 36) (hw : 0 ≤ way ∧ way ≤ 3) (hs : zR seed) : rOk 0 (r0 c way seed) := ⟨hc, hw, hs, ⟨Int.le_refl _, Int.le_refl _⟩, lSl_R hc⟩
/-- the class's robot -/
def rC (r : Int → Int) (h : zMm) : Prop := h 47 0 = r 0 ∧ h 47 1 = r 1 ∧ h 47 2 = r 2 ∧ h 47 3 = r 3 ∧ h 47 4 = r 4
def rCw (r : Int → Int) (h : zMm) : Prop := h 47 0 = r 0 ∧ h 47 1 = r 1 ∧ zI (h 47 2) = zI (r 2) ∧ h 47 3 = r 3 ∧ h 47 4 = r 4
def rF (h h' : zMm) : Prop := ∀ o : Nat, o ≠ 47 → h' o = h o
theorem rF.trans {h h1 h2 : zMm} (a : rF h h1) (b : rF h1 h2) : rF h h2 := fun o c => (b o c).trans (a o c)
theorem rF.CR {a h h' : zMm} (F : rF h h') (C : CR a h) : CR a h' := C.scr (fun o ho => F o (by omega))
theorem rF.hi {h h' : zMm} (F : rF h h') : zHi81 h h' := fun o ho => F o (by omega)
theorem rCw.nm {μ : zMi} {k n pc : Nat} {L : List (Option Value)} {st : List Value} {r : Int → Int} {h h0 : zMm} {Q : Option Value → zSh → zMm → Prop} (R : rCw r h) (F : rF h0 h) (kk : ∀ h', rC r h' → rF h0 h' → RR μ k n pc L st zS0 h' Q) : RR μ k n pc L st zS0 h Q := by
  obtain ⟨h0, h1, h2, h3, h4⟩ := R
  refine RR.norm (h' := zU h 47 2 (r 2)) (fun o i c1 _ => zU_ne c1) (by rw [zU_eq]; exact h2.symm) (by rw [zU_ne (by omega)]) (kk _ ⟨?_, ?_, zU_eq _ _ _ _, ?_, ?_⟩ (fun o c => by rw [zU_off o c]; exact F o c))
  · rw [zU_ne (by omega)]; exact h0
  · rw [zU_ne (by omega)]; exact h1
  · rw [zU_ne (by omega)]; exact h3
  · rw [zU_ne (by omega)]; exact h4
theorem iSr_nm {x y : Int} (e : zI x = zI y) (s : Int) : iSr x s = iSr y s := by
  unfold iSr
  rw [e]
theorem sX6_goStep {Kd r : Int → Int} {rule t : Int} {h : zMm} {K : zMm → Prop} (hk : zKd (h 11) Kd) (R : rC r h) (ok : rOk t r) (hr : 0 ≤ rule ∧ rule ≤ 3) (ht : t ≤ 2000) (hK : ∀ h', rCw (rGo Kd rule r) h' → rF h h' → K h') : zCv mX6_goStep [.ref 47, .ref 10, .int (zI rule)] zS0 h K := by
  obtain ⟨e0, e1, e2, e3, e4⟩ := R
  obtain ⟨h0, h1, h2, h3, h4⟩ := ok
  have hx := zNx_R (Kd := Kd) (way := r 1) h0
  refine wX6_goStep ?_
  rw [e0, e1]
  refine sX3_ahead g0_10 hk h0 h1 ?_
  rw [e1, e2, e3, e4]
  refine ⟨⟨by omega, by omega⟩, fun c => ⟨⟨by omega, by omega⟩, fun d => wX6_quartersOf ⟨⟨by omega, by omega⟩, ?_⟩, fun d => ?_⟩, fun c => ?_⟩
  · refine ⟨⟨by split <;> (try split) <;> omega, by split <;> (try split) <;> omega⟩, ?_⟩
    refine hK _ ?_ (fun o co => by rw [zU_off o co, zU_off o co])
    unfold rCw rGo
    simp only [if_neg (show ¬ 0 ≤ zNx Kd (r 0) (r 1) by omega), if_neg d]
    refine ⟨?_, ?_, ?_, ?_, ?_⟩
    · rw [zU_ne (by omega), zU_ne (by omega)]; exact e0
    · rw [zU_eq]; rfl
    · rw [zU_ne (by omega), zU_ne (by omega), e2]; rfl
    · rw [zU_ne (by omega), zU_eq]; rfl
    · rw [zU_ne (by omega), zU_ne (by omega)]; exact e4
  · refine hK _ ?_ (fun o co => by rw [zU_off o co, zU_off o co, zU_off o co])
    unfold rCw rGo
    simp only [if_neg (show ¬ 0 ≤ zNx Kd (r 0) (r 1) by omega), if_pos d]
    refine ⟨?_, ?_, ?_, ?_, ?_⟩
    · rw [zU_ne (by omega), zU_ne (by omega), zU_ne (by omega)]; exact e0
    · rw [zU_eq]
      show _ = iSr (rSd (r 2)) 16 % 4
      rw [iSr_nm (show zI (rSd (r 2)) = zI (r 2 * 1103515245 + 12345) from zI_iN _)]
    · rw [zU_ne (by omega), zU_eq]
      exact (zI_iN _).symm
    · rw [zU_ne (by omega), zU_ne (by omega), zU_eq]; rfl
    · rw [zU_ne (by omega), zU_ne (by omega), zU_ne (by omega)]; exact e4
  · refine hK _ ?_ (fun o co => by rw [zU_off o co, zU_off o co])
    unfold rCw rGo
    simp only [if_pos (show 0 ≤ zNx Kd (r 0) (r 1) by omega)]
    refine ⟨?_, ?_, ?_, ?_, ?_⟩
    · rw [zU_ne (by omega), zU_eq]; rfl
    · rw [zU_ne (by omega), zU_ne (by omega)]; exact e1
    · rw [zU_ne (by omega), zU_ne (by omega), e2]; rfl
    · rw [zU_ne (by omega), zU_ne (by omega)]; exact e3
    · rw [zU_eq]; rfl
theorem sX6_goSteps {Kd : Int → Int} {rule n : Int} {r : Int → Int} {h : zMm} {K : zMm → Prop} (hk : zKd (h 11) Kd) (R : rC r h) (ok : rOk 0 r) (hr : 0 ≤ rule ∧ rule ≤ 3) (hn : 0 ≤ n ∧ n ≤ 999) (hK : ∀ h', rC (rIt Kd rule n.toNat r) h' → rF h h' → K h') : zCv mX6_goSteps [.ref 47, .ref 10, .int (zI rule), .int (zI n)] zS0 h K := by
  refine wX6_goSteps ?_
  have loop : ∀ (m : Nat) (j : Int) (h1 : zMm) (r1 : Int → Int), 0 ≤ j → j + m = n → rC r1 h1 → rOk j r1 → rF h h1 → rIt Kd rule m r1 = rIt Kd rule n.toNat r → RR mX6_goSteps 0 0 3 [some (.ref 47), some (.ref 10), some (.int (zI rule)), some (.int (zI n)), some (.int (zI j))] [] zS0 h1 (zQv zS0 K) := by
    intro m
    induction m with
    | zero =>
      intro j h1 r1 j0 jm R1 ok1 F1 e
      refine bX6_goSteps_3 ⟨⟨by omega, by omega⟩, ⟨by omega, by omega⟩, fun _ => ?_, fun d => absurd (by omega) d⟩
      rw [← e] at hK
      exact hK h1 R1 F1
    | succ m ih =>
      intro j h1 r1 j0 jm R1 ok1 F1 e
      refine bX6_goSteps_3 ⟨⟨by omega, by omega⟩, ⟨by omega, by omega⟩, fun d => absurd d (by omega), fun _ => sX6_goStep (by rw [F1 11 (by decide)]; exact hk) R1 ok1 hr (by omega) (fun h2 R2 F2 => ?_)⟩
      refine rCw.nm R2 (F1.trans F2) (fun h3 R3 F3 => ?_)
      exact ih (j + 1) h3 _ (by omega) (by omega) R3 (rGo_ok ok1) F3 e
  exact loop n.toNat 0 h r (by decide) (by omega) R ok (fun _ _ => rfl) rfl
theorem sX6_standAt {c way seed : Int} {h : zMm} {K : zMm → Prop} (hK : ∀ h', rC (r0 c way seed) h' → rF h h' → K h') : zCv mX6_standAt [.ref 47, .int (zI c), .int (zI way), .int (zI seed)] zS0 h K := by
  refine wX6_standAt (hK _ ⟨?_, ?_, ?_, ?_, ?_⟩ (fun o co => by rw [zU_off o co, zU_off o co, zU_off o co, zU_off o co, zU_off o co]))
  · rw [zU_ne (by omega), zU_ne (by omega), zU_ne (by omega), zU_ne (by omega), zU_eq]; rfl
  · rw [zU_ne (by omega), zU_ne (by omega), zU_ne (by omega), zU_eq]; rfl
  · rw [zU_ne (by omega), zU_ne (by omega), zU_eq]; rfl
  · rw [zU_ne (by omega), zU_eq]; rfl
  · rw [zU_eq]; rfl
/-- the model's robot -/
def rM (r : Int → Int) (h : zMm) : Prop := h 81 39 = r 0 ∧ h 81 40 = r 1 ∧ h 81 41 = r 2 ∧ h 81 42 = r 3 ∧ h 81 43 = r 4
def rMw (r : Int → Int) (h : zMm) : Prop := h 81 39 = r 0 ∧ h 81 40 = r 1 ∧ zI (h 81 41) = zI (r 2) ∧ h 81 42 = r 3 ∧ h 81 43 = r 4
def rG (h h' : zMm) : Prop := (∀ o : Nat, o ≠ 81 → h' o = h o) ∧ ∀ i : Int, ¬ (39 ≤ i ∧ i ≤ 43) → h' 81 i = h 81 i
theorem rG.rf (h : zMm) : rG h h := ⟨fun _ _ => rfl, fun _ _ => rfl⟩
theorem rG.trans {h h1 h2 : zMm} (a : rG h h1) (b : rG h1 h2) : rG h h2 := ⟨fun o c => (b.1 o c).trans (a.1 o c), fun i c => (b.2 i c).trans (a.2 i c)⟩
theorem rG.up {h h1 : zMm} {k x : Int} (a : rG h h1) (hk : 39 ≤ k ∧ k ≤ 43) : rG h (zU h1 81 k x) := ⟨fun o c => (zU_off o c).trans (a.1 o c), fun i c => by rw [zU_ne (by omega)]; exact a.2 i c⟩
theorem rG.MR {a h h' : zMm} (F : rG h h') (M : MR a h) : MR a h' := M.scr ⟨F.2 1 (by omega), F.2 2 (by omega), F.2 21 (by omega), F.2 50 (by omega)⟩ (fun o ho => F.1 o (by omega))
theorem rG.mA {a h h' : zMm} (F : rG h h') (A : mA a h) : mA a h' := A.to (zAll_rf a) (F.1 92 (by decide)) (F.1 88 (by decide))
theorem rG.lo {h h' : zMm} (F : rG h h') : zLo81 h h' := fun o ho => F.1 o (by omega)
theorem rMw.nm {μ : zMi} {k n pc : Nat} {L : List (Option Value)} {st : List Value} {r : Int → Int} {h h0 : zMm} {Q : Option Value → zSh → zMm → Prop} (R : rMw r h) (F : rG h0 h) (kk : ∀ h', rM r h' → rG h0 h' → RR μ k n pc L st zS0 h' Q) : RR μ k n pc L st zS0 h Q := by
  obtain ⟨h0, h1, h2, h3, h4⟩ := R
  refine RR.norm (h' := zU h 81 41 (r 2)) (fun o i _ c2 => zU_ne c2) (by rw [zU_ne (by omega)]) (by rw [zU_eq]; exact h2.symm) (kk _ ⟨?_, ?_, zU_eq _ _ _ _, ?_, ?_⟩ (F.up (by decide)))
  · rw [zU_ne (by omega)]; exact h0
  · rw [zU_ne (by omega)]; exact h1
  · rw [zU_ne (by omega)]; exact h3
  · rw [zU_ne (by omega)]; exact h4
theorem sX12_robotStep {Kd r : Int → Int} {rule t : Int} {h : zMm} {K : zMm → Prop} (hk : zKd (h 92) Kd) (R : rM r h) (ok : rOk t r) (hr : 0 ≤ rule ∧ rule ≤ 3) (hK : ∀ h', rMw (rGo Kd rule r) h' → rG h h' → K h') : zCv mX12_robotStep [.ref 81, .int (zI rule)] zS0 h K := by
  obtain ⟨e0, e1, e2, e3, e4⟩ := R
  obtain ⟨h0, h1, h2, h3, h4⟩ := ok
  have hx := zNx_R (Kd := Kd) (way := r 1) h0
  refine wX12_robotStep ?_
  rw [e0, e1]
  refine sX12_nextOf hk h0 h1 ?_
  rw [e1, e2, e3, e4]
  refine ⟨⟨by omega, by omega⟩, fun c => ⟨⟨by omega, by omega⟩, fun d => ?_, fun d => ?_⟩, fun c => ?_⟩
  · refine hK _ ?_ (((rG.rf h).up (by decide)).up (by decide))
    unfold rMw rGo
    simp only [if_neg (show ¬ 0 ≤ zNx Kd (r 0) (r 1) by omega), if_neg d]
    refine ⟨?_, ?_, ?_, ?_, ?_⟩
    · rw [zU_ne (by omega), zU_ne (by omega)]; exact e0
    · rw [zU_eq]; rfl
    · rw [zU_ne (by omega), zU_ne (by omega), e2]; rfl
    · rw [zU_ne (by omega), zU_eq]; rfl
    · rw [zU_ne (by omega), zU_ne (by omega)]; exact e4
  · refine hK _ ?_ ((((rG.rf h).up (by decide)).up (by decide)).up (by decide))
    unfold rMw rGo
    simp only [if_neg (show ¬ 0 ≤ zNx Kd (r 0) (r 1) by omega), if_pos d]
    refine ⟨?_, ?_, ?_, ?_, ?_⟩
    · rw [zU_ne (by omega), zU_ne (by omega), zU_ne (by omega)]; exact e0
    · rw [zU_eq]
      show _ = iSr (rSd (r 2)) 16 % 4
      rw [iSr_nm (show zI (rSd (r 2)) = zI (r 2 * 1103515245 + 12345) from zI_iN _)]
    · rw [zU_ne (by omega), zU_eq]
      exact (zI_iN _).symm
    · rw [zU_ne (by omega), zU_ne (by omega), zU_eq]; rfl
    · rw [zU_ne (by omega), zU_ne (by omega), zU_ne (by omega)]; exact e4
  · refine hK _ ?_ (((rG.rf h).up (by decide)).up (by decide))
    unfold rMw rGo
    simp only [if_pos (show 0 ≤ zNx Kd (r 0) (r 1) by omega)]
    refine ⟨?_, ?_, ?_, ?_, ?_⟩
    · rw [zU_ne (by omega), zU_eq]; rfl
    · rw [zU_ne (by omega), zU_ne (by omega)]; exact e1
    · rw [zU_ne (by omega), zU_ne (by omega), e2]; rfl
    · rw [zU_ne (by omega), zU_ne (by omega)]; exact e3
    · rw [zU_eq]; rfl
theorem sX12_begins {c way seed : Int} {h : zMm} {K : zMm → Prop} (hK : ∀ h', rM (r0 c way seed) h' → rG h h' → K h') : zCv mX12_begins [.ref 81, .int (zI c), .int (zI way), .int (zI seed)] zS0 h K := by
  refine wX12_begins (hK _ ⟨?_, ?_, ?_, ?_, ?_⟩ ((((((rG.rf h).up (by decide)).up (by decide)).up (by decide)).up (by decide)).up (by decide)))
  · rw [zU_ne (by omega), zU_ne (by omega), zU_ne (by omega), zU_ne (by omega), zU_eq]; rfl
  · rw [zU_ne (by omega), zU_ne (by omega), zU_ne (by omega), zU_eq]; rfl
  · rw [zU_ne (by omega), zU_ne (by omega), zU_eq]; rfl
  · rw [zU_ne (by omega), zU_eq]; rfl
  · rw [zU_eq]; rfl
