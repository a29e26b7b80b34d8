/-- what the tables say of a field access -/
def zFl (own : String) (idx ci f N t : Nat) (fin : Bool) (ty : FieldType) : Prop := ∃ (C : String) (T : u_T) (ref : String) (ty0 : Nat → FieldType), vwCl[ci]? = some (C, T, N) ∧ (∀ w ∈ u_ws C T N, w ∈ zTb) ∧ Cond.fieldLink own idx ref (T f).2.1 (T f).2.2.1 ∈ zTb ∧ (T f).1 = ref ∧ f < N ∧ zTy ci f = t ∧ (∀ k, k < N → parseFieldDescriptor (T k).2.2.1 = some (ty0 k)) ∧ (∀ a, a < N → ∀ b, b < N → a ≠ b → (T a).2.1 ≠ (T b).2.1) ∧ (T f).2.2.2 = fin ∧ parseFieldDescriptor (T f).2.2.1 = some ty
theorem zLt20 {ci : Nat} {q : vw_C} (hc : vwCl[ci]? = some q) : ci < 20 := Nat.lt_of_lt_of_le (List.getElem?_eq_some_iff.mp hc).1 (Nat.le_of_ble_eq_true rfl)
theorem zEn_ob {ρ : Nat → Nat} {ca : Nat → ClassId} {h : zMm} {o ci N : Nat} {rf : List (Option Nat)} (hc : ci < 20) : zEn ρ ca h o (ci, N, rf) = .inr (ci, (List.range N).map (zFv ρ h o (ci, N, rf))) := by
  unfold zEn
  rw [if_pos hc]
theorem zRg_at {α : Type} (F : Nat → α) {N f : Nat} (hf : f < N) : ((List.range N).map F)[f]? = some (F f) := by
  rw [List.getElem?_map, List.getElem?_range hf]
  rfl
theorem zRg_set {α : Type} {F F' : Nat → α} {N f : Nat} {v : α} (h1 : F' f = v) (h2 : ∀ j, j ≠ f → F' j = F j) : ((List.range N).map F).set f v = (List.range N).map F' := by
  apply List.ext_getElem?
  intro j
  by_cases hj : j = f
  · subst hj
    by_cases hl : j < N
    · rw [List.getElem?_set_self (by simpa using hl), zRg_at F' hl, h1]
    · rw [List.getElem?_eq_none (by simp; omega), List.getElem?_eq_none (by simp; omega)]
  · rw [List.getElem?_set_ne (Ne.symm hj)]
    by_cases hl : j < N
    · rw [zRg_at F hl, zRg_at F' hl, h2 j hj]
    · rw [List.getElem?_eq_none (by simp; omega), List.getElem?_eq_none (by simp; omega)]
theorem zFv_ne {ρ : Nat → Nat} {h : zMm} {o j f : Nat} {d : zDe} {x : Int} (hj : j ≠ f) : zFv ρ (zU h o (f : Int) x) o d j = zFv ρ h o d j := by
  unfold zFv
  rw [zU_ne (by omega)]
theorem zU_off {h : zMm} {o : Nat} {f x : Int} : ∀ a, a ≠ o → zU h o f x a = h a := by
  intro a ha
  funext b
  exact zU_ne (fun z => ha z.1)
theorem zS_trans {A : Nat → Prop} {H0 H H1 : Heap} {locs locs1 : List Loc} (h0 : va_S A H0 H locs) (h1 : va_S A H H1 locs1) : va_S A H0 H1 locs1 :=
  ⟨Nat.le_trans h0.1 h1.1, fun q z1 z2 => (h1.2.1 q (Nat.lt_of_lt_of_le z1 h0.1) z2).trans (h0.2.1 q z1 z2), h1.2.2⟩
theorem zS_self {A : Nat → Prop} {H0 H : Heap} {locs : List Loc} (h0 : va_S A H0 H locs) : va_S A H H locs := ⟨Nat.le_refl _, fun _ _ _ => rfl, h0.2.2⟩
theorem zH.put {dC : Nat → ClassId} {dI : Nat → Nat → Nat} {ca : Nat → ClassId} {ρ : Nat → Nat} {B : Nat} {A : Nat → Prop} {s : State} {S : zSh} {h h' : zMm} {H H1 : Heap} {locs locs1 : List Loc} {o : Nat} {d d' : zDe} {e : va_E} (hH : zH dC dI ca ρ B A s S h H locs) (hd : S[o]? = some d) (hh : ∀ a, a ≠ o → h' a = h a) (he : e = zEn ρ ca h' o d')
    (hP : va_P (dC, dI) vwCl ((zWl ρ ca S h).set o (ρ o, e)) H1) (hD : va_D A ((zWl ρ ca S h).set o (ρ o, e))) (hS : va_S A H H1 locs1) : zH dC dI ca ρ B A s (S.set o d') h' H1 locs1 := by
  rw [zWl_set hd hh he] at hP hD
  exact ⟨hP, hD, zS_trans hH.2.2.1 hS, by rw [List.length_set]; exact Nat.le_trans hH.2.2.2 hS.1⟩
/-- one cell is another now, the shape stays -/
theorem zH.put1 {dC : Nat → ClassId} {dI : Nat → Nat → Nat} {ca : Nat → ClassId} {ρ : Nat → Nat} {B : Nat} {A : Nat → Prop} {s : State} {S : zSh} {h h' : zMm} {H H1 : Heap} {locs locs1 : List Loc} {o : Nat} {d : zDe} {e : va_E} (hH : zH dC dI ca ρ B A s S h H locs) (hd : S[o]? = some d) (hh : ∀ a, a ≠ o → h' a = h a) (he : e = zEn ρ ca h' o d)
    (hP : va_P (dC, dI) vwCl ((zWl ρ ca S h).set o (ρ o, e)) H1) (hD : va_D A ((zWl ρ ca S h).set o (ρ o, e))) (hS : va_S A H H1 locs1) : zH dC dI ca ρ B A s S h' H1 locs1 := by
  have h1 := zH.put (d' := d) hH hd hh he hP hD hS
  rw [zSet_self hd] at h1
  exact h1

theorem zFv_I {ρ : Nat → Nat} {h : zMm} {o ci N f : Nat} {rf : List (Option Nat)} (ht : zTy ci f = 0) : zFv ρ h o (ci, N, rf) f = .int (zI (h o (f : Int))) := by
  unfold zFv
  split
  · rename_i e
    first | rfl | (rw [ht] at e; cases e)
  · rename_i e
    first | rfl | (rw [ht] at e; cases e)
  · rename_i e1 e2
    exact absurd ht (by first | exact e1 | exact e2)
theorem r_getI {μ : zMi} {k n pc : Nat} {L : List (Option Value)} {st : List Value} {S : zSh} {h : zMm} {Q : Option Value → zSh → zMm → Prop} {o idx ci f N : Nat} {fin : Bool} {ty : FieldType} {rf : List (Option Nat)} {fi x : Int} (hl : zFl μ.1.cls idx ci f N 0 fin ty) (hd : decode μ.2.1 pc = .ok (.getfield idx, 3)) (ho : S[o]? = some (ci, N, rf)) (hfi : (f : Int) = fi) (hx : h o fi = x) (kk : RR μ k n (pc + 3) L (.int (zI x) :: st) S h Q) : RR μ k n pc L (.ref o :: st) S h Q := by
  intro p l e s m args below meth c dC dI ca ρ B A Z H locs ls hC hG hN hH hL
  obtain ⟨C, T, ref, ty0, h1, h2, h3, h4, h5, h6, h7, h8, h9, h10⟩ := hl
  have he := zWl_get (ρ := ρ) (ca := ca) (h := h) ho
  rw [zEn_ob (zLt20 h1)] at he
  refine va_get (D := (dC, dI)) hC.1 hC.2.1 hC.2.2.2.2.2.1 h2 hC.2.2.2.2.1 hC.2.2.2.2.2.2.2.2.1 hH.1 o he h1 f h5 (hC.2.2.2.2.2.1 _ h3) (fun y hy => by rw [← h4]; exact hy) (zRg_at _ h5) hd ?_
  rw [zFv_I h6, hfi, hx]
  exact (kk p l e s m args below meth c dC dI ca ρ B A Z H locs ls hC hG hN hH hL)

theorem zFv_J {ρ : Nat → Nat} {h : zMm} {o ci N f : Nat} {rf : List (Option Nat)} (ht : zTy ci f = 1) : zFv ρ h o (ci, N, rf) f = .long (zJ (h o (f : Int))) := by
  unfold zFv
  split
  · rename_i e
    first | rfl | (rw [ht] at e; cases e)
  · rename_i e
    first | rfl | (rw [ht] at e; cases e)
  · rename_i e1 e2
    exact absurd ht (by first | exact e1 | exact e2)
theorem r_getJ {μ : zMi} {k n pc : Nat} {L : List (Option Value)} {st : List Value} {S : zSh} {h : zMm} {Q : Option Value → zSh → zMm → Prop} {o idx ci f N : Nat} {fin : Bool} {ty : FieldType} {rf : List (Option Nat)} {fi x : Int} (hl : zFl μ.1.cls idx ci f N 1 fin ty) (hd : decode μ.2.1 pc = .ok (.getfield idx, 3)) (ho : S[o]? = some (ci, N, rf)) (hfi : (f : Int) = fi) (hx : h o fi = x) (kk : RR μ k n (pc + 3) L (.long (zJ x) :: st) S h Q) : RR μ k n pc L (.ref o :: st) S h Q := by
  intro p l e s m args below meth c dC dI ca ρ B A Z H locs ls hC hG hN hH hL
  obtain ⟨C, T, ref, ty0, h1, h2, h3, h4, h5, h6, h7, h8, h9, h10⟩ := hl
  have he := zWl_get (ρ := ρ) (ca := ca) (h := h) ho
  rw [zEn_ob (zLt20 h1)] at he
  refine va_get (D := (dC, dI)) hC.1 hC.2.1 hC.2.2.2.2.2.1 h2 hC.2.2.2.2.1 hC.2.2.2.2.2.2.2.2.1 hH.1 o he h1 f h5 (hC.2.2.2.2.2.1 _ h3) (fun y hy => by rw [← h4]; exact hy) (zRg_at _ h5) hd ?_
  rw [zFv_J h6, hfi, hx]
  exact (kk p l e s m args below meth c dC dI ca ρ B A Z H locs ls hC hG hN hH hL)

theorem zFv_R {ρ : Nat → Nat} {h : zMm} {o ci N f : Nat} {rf : List (Option Nat)} (ht : zTy ci f = 2) : zFv ρ h o (ci, N, rf) f = va_rf ((rf.getD f none).map ρ) := by
  unfold zFv
  split
  · rename_i e
    rw [ht] at e; cases e
  · rename_i e
    rw [ht] at e; cases e
  · rfl
theorem r_getR {μ : zMi} {k n pc : Nat} {L : List (Option Value)} {st : List Value} {S : zSh} {h : zMm} {Q : Option Value → zSh → zMm → Prop} {o b idx ci f N : Nat} {fin : Bool} {ty : FieldType} {rf : List (Option Nat)} (hl : zFl μ.1.cls idx ci f N 2 fin ty) (hd : decode μ.2.1 pc = .ok (.getfield idx, 3)) (ho : S[o]? = some (ci, N, rf)) (hb : rf.getD f none = some b) (kk : RR μ k n (pc + 3) L (.ref b :: st) S h Q) : RR μ k n pc L (.ref o :: st) S h Q := by
  intro p l e s m args below meth c dC dI ca ρ B A Z H locs ls hC hG hN hH hL
  obtain ⟨C, T, ref, ty0, h1, h2, h3, h4, h5, h6, h7, h8, h9, h10⟩ := hl
  have he := zWl_get (ρ := ρ) (ca := ca) (h := h) ho
  rw [zEn_ob (zLt20 h1)] at he
  refine va_get (D := (dC, dI)) hC.1 hC.2.1 hC.2.2.2.2.2.1 h2 hC.2.2.2.2.1 hC.2.2.2.2.2.2.2.2.1 hH.1 o he h1 f h5 (hC.2.2.2.2.2.1 _ h3) (fun y hy => by rw [← h4]; exact hy) (zRg_at _ h5) hd ?_
  rw [zFv_R h6, hb]
  exact (kk p l e s m args below meth c dC dI ca ρ B A Z H locs ls hC hG hN hH hL)
theorem zEn_put {ρ : Nat → Nat} {ca : Nat → ClassId} {h : zMm} {o ci N f : Nat} {rf : List (Option Nat)} {fi x : Int} {v : Value} (hci : ci < 20) (hfi : (f : Int) = fi) (hv : zFv ρ (zU h o fi x) o (ci, N, rf) f = v) : Sum.inr (ci, ((List.range N).map (zFv ρ h o (ci, N, rf))).set f v) = zEn ρ ca (zU h o fi x) o (ci, N, rf) := by
  rw [zEn_ob hci]
  subst hfi
  rw [zRg_set hv (fun j hj => zFv_ne hj)]
theorem r_putI {μ : zMi} {k n pc : Nat} {L : List (Option Value)} {st : List Value} {S : zSh} {h : zMm} {Q : Option Value → zSh → zMm → Prop} {o idx ci f N : Nat} {rf : List (Option Nat)} {fi x : Int} (hl : zFl μ.1.cls idx ci f N 0 false .int) (hd : decode μ.2.1 pc = .ok (.putfield idx, 3)) (ho : S[o]? = some (ci, N, rf)) (hfi : (f : Int) = fi) (kk : RR μ k n (pc + 3) L st S (zU h o fi x) Q) : RR μ k n pc L (.int (zI x) :: .ref o :: st) S h Q := by
  intro p l e s m args below meth c dC dI ca ρ B A Z H locs ls hC hG hN hH hL
  obtain ⟨C, T, ref, ty0, h1, h2, h3, h4, h5, h6, h7, h8, h9, h10⟩ := hl
  have he := zWl_get (ρ := ρ) (ca := ca) (h := h) ho
  rw [zEn_ob (zLt20 h1)] at he
  refine va_put (D := (dC, dI)) hC.1 hC.2.1 hC.2.2.2.2.2.1 h2 ty0 h7 h8 hC.2.2.2.2.1 hC.2.2.2.2.2.2.2.2.1 hH.1 hH.2.1 (zS_self hH.2.2.1) o he h1 f h5 (hC.2.2.2.2.2.1 _ h3) (fun y hy => by rw [← h4]; exact hy) h9 h10 rfl rfl (by simpa using h5) hd (fun H1 locs1 hP hD hS => ?_)
  have hv : zFv ρ (zU h o fi x) o (ci, N, rf) f = .int (zI x) := by
    rw [zFv_I h6, hfi, zU_eq]
  exact (kk p l e s m args below meth c dC dI ca ρ B A Z H1 locs1 ls hC hG hN (hH.put1 ho zU_off (zEn_put (zLt20 h1) hfi hv) hP hD hS) hL)
theorem r_putZ {μ : zMi} {k n pc : Nat} {L : List (Option Value)} {st : List Value} {S : zSh} {h : zMm} {Q : Option Value → zSh → zMm → Prop} {o idx ci f N : Nat} {rf : List (Option Nat)} {fi x : Int} (hl : zFl μ.1.cls idx ci f N 0 false .boolean) (hd : decode μ.2.1 pc = .ok (.putfield idx, 3)) (ho : S[o]? = some (ci, N, rf)) (hfi : (f : Int) = fi) (h01 : x = 0 ∨ x = 1) (kk : RR μ k n (pc + 3) L st S (zU h o fi x) Q) : RR μ k n pc L (.int (zI x) :: .ref o :: st) S h Q := by
  intro p l e s m args below meth c dC dI ca ρ B A Z H locs ls hC hG hN hH hL
  obtain ⟨C, T, ref, ty0, h1, h2, h3, h4, h5, h6, h7, h8, h9, h10⟩ := hl
  have he := zWl_get (ρ := ρ) (ca := ca) (h := h) ho
  rw [zEn_ob (zLt20 h1)] at he
  refine va_put (D := (dC, dI)) hC.1 hC.2.1 hC.2.2.2.2.2.1 h2 ty0 h7 h8 hC.2.2.2.2.1 hC.2.2.2.2.2.2.2.2.1 hH.1 hH.2.1 (zS_self hH.2.2.1) o he h1 f h5 (hC.2.2.2.2.2.1 _ h3) (fun y hy => by rw [← h4]; exact hy) h9 h10 (by rcases h01 with rfl | rfl <;> rfl) (by rcases h01 with rfl | rfl <;> rfl) (by simpa using h5) hd (fun H1 locs1 hP hD hS => ?_)
  have hv : zFv ρ (zU h o fi x) o (ci, N, rf) f = .int (zI x) := by
    rw [zFv_I h6, hfi, zU_eq]
  exact (kk p l e s m args below meth c dC dI ca ρ B A Z H1 locs1 ls hC hG hN (hH.put1 ho zU_off (zEn_put (zLt20 h1) hfi hv) hP hD hS) hL)
theorem r_putJ {μ : zMi} {k n pc : Nat} {L : List (Option Value)} {st : List Value} {S : zSh} {h : zMm} {Q : Option Value → zSh → zMm → Prop} {o idx ci f N : Nat} {rf : List (Option Nat)} {fi x : Int} (hl : zFl μ.1.cls idx ci f N 1 false .long) (hd : decode μ.2.1 pc = .ok (.putfield idx, 3)) (ho : S[o]? = some (ci, N, rf)) (hfi : (f : Int) = fi) (kk : RR μ k n (pc + 3) L st S (zU h o fi x) Q) : RR μ k n pc L (.long (zJ x) :: .ref o :: st) S h Q := by
  intro p l e s m args below meth c dC dI ca ρ B A Z H locs ls hC hG hN hH hL
  obtain ⟨C, T, ref, ty0, h1, h2, h3, h4, h5, h6, h7, h8, h9, h10⟩ := hl
  have he := zWl_get (ρ := ρ) (ca := ca) (h := h) ho
  rw [zEn_ob (zLt20 h1)] at he
  refine va_put (D := (dC, dI)) hC.1 hC.2.1 hC.2.2.2.2.2.1 h2 ty0 h7 h8 hC.2.2.2.2.1 hC.2.2.2.2.2.2.2.2.1 hH.1 hH.2.1 (zS_self hH.2.2.1) o he h1 f h5 (hC.2.2.2.2.2.1 _ h3) (fun y hy => by rw [← h4]; exact hy) h9 h10 rfl rfl (by simpa using h5) hd (fun H1 locs1 hP hD hS => ?_)
  have hv : zFv ρ (zU h o fi x) o (ci, N, rf) f = .long (zJ x) := by
    rw [zFv_J h6, hfi, zU_eq]
  exact (kk p l e s m args below meth c dC dI ca ρ B A Z H1 locs1 ls hC hG hN (hH.put1 ho zU_off (zEn_put (zLt20 h1) hfi hv) hP hD hS) hL)
/-- a final field, in its constructor -/
theorem r_putR {μ : zMi} {k n pc : Nat} {L : List (Option Value)} {st : List Value} {S : zSh} {h : zMm} {Q : Option Value → zSh → zMm → Prop} {o b idx ci f N : Nat} {ty : FieldType} {rf : List (Option Nat)} (hl : zFl μ.1.cls idx ci f N 2 true ty) (hty : (∃ z, ty = .object z) ∨ ∃ z, ty = .array z) (hw : ∃ C T M, vwCl[ci]? = some (C, T, M) ∧ (T f).1 = μ.1.cls) (hy : μ.1.name = "<init>") (hd : decode μ.2.1 pc = .ok (.putfield idx, 3)) (ho : S[o]? = some (ci, N, rf)) (hf : f < rf.length) (kk : RR μ k n (pc + 3) L st (S.set o (ci, N, rf.set f (some b))) h Q) : RR μ k n pc L (.ref b :: .ref o :: st) S h Q := by
  intro p l e s m args below meth c dC dI ca ρ B A Z H locs ls hC hG hN hH hL
  obtain ⟨C, T, ref, ty0, h1, h2, h3, h4, h5, h6, h7, h8, h9, h10⟩ := hl
  obtain ⟨C', T', M', g1, g2⟩ := hw
  have g3 := h1.symm.trans g1
  simp only [Option.some.injEq, Prod.mk.injEq] at g3
  obtain ⟨-, rfl, -⟩ := g3
  have he := zWl_get (ρ := ρ) (ca := ca) (h := h) ho
  rw [zEn_ob (zLt20 h1)] at he
  have hnr : narrow ty (.ref (ρ b)) = .ref (ρ b) := by rcases hty with ⟨z, rfl⟩ | ⟨z, rfl⟩ <;> rfl
  have hft : fits ty (.ref (ρ b)) = true := by rcases hty with ⟨z, rfl⟩ | ⟨z, rfl⟩ <;> rfl
  refine va_putF (D := (dC, dI)) hC.1 hC.2.1 hC.2.2.2.2.2.1 h2 ty0 h7 h8 hC.2.2.2.2.1 hC.2.2.2.2.2.2.2.2.1 hH.1 hH.2.1 (zS_self hH.2.2.1) o he h1 f h5 (hC.2.2.2.2.2.1 _ h3) (fun y hy => by rw [← h4]; exact hy) h9 (hC.2.2.2.2.2.2.2.1 hy) g2 h10 hnr hft (by simpa using h5) hd (fun H1 locs1 hP hD hS => ?_)
  have hv : zFv ρ h o (ci, N, rf.set f (some b)) f = .ref (ρ b) := by
    rw [zFv_R h6, List.getD_eq_getElem?_getD, List.getElem?_set_self hf]
    rfl
  have he2 : Sum.inr (ci, ((List.range N).map (zFv ρ h o (ci, N, rf))).set f (.ref (ρ b))) = zEn ρ ca h o (ci, N, rf.set f (some b)) := by
    rw [zEn_ob (zLt20 h1), zRg_set hv]
    intro j hj
    unfold zFv
    rw [List.getD_eq_getElem?_getD, List.getElem?_set_ne (Ne.symm hj), ← List.getD_eq_getElem?_getD]
  exact (kk p l e s m args below meth c dC dI ca ρ B A Z H1 locs1 ls hC hG (by rw [List.length_set]; exact hN) (hH.put ho (fun _ _ => rfl) he2 hP hD hS) hL)

theorem zTo {i : Int} (h0 : 0 ≤ i) : ((i.toNat : Nat) : Int) = i := Int.toNat_of_nonneg h0
theorem zHi {i : Int} {N : Nat} (hi : 0 ≤ i ∧ i < (N : Int) ∧ N < 2147483648) : vp_in (zI i) N ∧ (zI i).toNatClampNeg = i.toNat := ⟨zI_in hi.2.2 hi.1 hi.2.1, zI_clamp ⟨by omega, by omega⟩⟩
theorem zEn_20 {ρ : Nat → Nat} {ca : Nat → ClassId} {h : zMm} {o N : Nat} {rf : List (Option Nat)} : zEn ρ ca h o (20, N, rf) = .inl (ca 20, N, .inl (fun i => zI (h o (i : Int)))) := rfl
theorem zEn_21 {ρ : Nat → Nat} {ca : Nat → ClassId} {h : zMm} {o N : Nat} {rf : List (Option Nat)} : zEn ρ ca h o (21, N, rf) = .inl (ca 21, N, .inr (.inl (fun i => zJ (h o (i : Int))))) := rfl
theorem zEn_22 {ρ : Nat → Nat} {ca : Nat → ClassId} {h : zMm} {o N : Nat} {rf : List (Option Nat)} : zEn ρ ca h o (22, N, rf) = .inl (ca 22, N, .inl (fun i => zI (h o (i : Int)))) := rfl
theorem zEn_23 {ρ : Nat → Nat} {ca : Nat → ClassId} {h : zMm} {o N : Nat} {rf : List (Option Nat)} : zEn ρ ca h o (23, N, rf) = .inl (ca 23, N, .inl (fun i => zI (h o (i : Int)))) := rfl
theorem zEn_rf {ρ : Nat → Nat} {ca : Nat → ClassId} {h : zMm} {o kd N : Nat} {rf : List (Option Nat)} (hk : 24 ≤ kd) : zEn ρ ca h o (kd, N, rf) = .inl (ca kd, N, .inr (.inr (.inr (.inr (fun i => (rf.getD i none).map ρ))))) := by
  unfold zEn
  rw [if_neg (by omega), if_neg (by omega), if_neg (by omega)]
theorem zUpd {h : zMm} {a : Nat} {i x : Int} (h0 : 0 ≤ i) : upd (fun (j : Nat) => zI (h a (j : Int))) i.toNat (zI x) = fun (j : Nat) => zI (zU h a i x a (j : Int)) := by
  funext j
  unfold upd
  by_cases hj : j = i.toNat
  · rw [if_pos hj, hj, zTo h0, zU_eq]
  · rw [if_neg hj, zU_ne (by omega)]
theorem zUpdL {h : zMm} {a : Nat} {i x : Int} (h0 : 0 ≤ i) : vp_updL (fun (j : Nat) => zJ (h a (j : Int))) i.toNat (zJ x) = fun (j : Nat) => zJ (zU h a i x a (j : Int)) := by
  funext j
  unfold vp_updL
  by_cases hj : j = i.toNat
  · rw [if_pos hj, hj, zTo h0, zU_eq]
  · rw [if_neg hj, zU_ne (by omega)]
theorem zNar_b (x : Int) : vp_nar .byte (zI x) = zI (iB x) := by
  rw [← zI_B]
  rfl

theorem r_iald {μ : zMi} {k n pc : Nat} {L : List (Option Value)} {st : List Value} {S : zSh} {h : zMm} {Q : Option Value → zSh → zMm → Prop} {a N : Nat} {rf : List (Option Nat)} {i x : Int} (hd : decode μ.2.1 pc = .ok (.iaload, 1)) (ho : S[a]? = some (20, N, rf)) (hi : 0 ≤ i ∧ i < (N : Int) ∧ N < 2147483648) (hx : h a i = x) (kk : RR μ k n (pc + 1) L (.int (zI x) :: st) S h Q) : RR μ k n pc L (.int (zI i) :: .ref a :: st) S h Q := by
  intro p l e s m args below meth c dC dI ca ρ B A Z H locs ls hC hG hN hH hL
  have he := zWl_get (ρ := ρ) (ca := ca) (h := h) ho
  rw [zEn_20] at he
  refine va_iald (D := (dC, dI)) hC.1 hC.2.1 hC.2.2.2.2.2.2.2.2.1 hH.1 a 0 he rfl (zHi hi).1 hd ?_
  rw [(zHi hi).2, zTo hi.1, hx]
  exact (kk p l e s m args below meth c dC dI ca ρ B A Z H locs ls hC hG hN hH hL)

theorem r_bald {μ : zMi} {k n pc : Nat} {L : List (Option Value)} {st : List Value} {S : zSh} {h : zMm} {Q : Option Value → zSh → zMm → Prop} {a N : Nat} {rf : List (Option Nat)} {i x : Int} (hd : decode μ.2.1 pc = .ok (.baload, 1)) (ho : S[a]? = some (22, N, rf)) (hi : 0 ≤ i ∧ i < (N : Int) ∧ N < 2147483648) (hx : h a i = x) (kk : RR μ k n (pc + 1) L (.int (zI x) :: st) S h Q) : RR μ k n pc L (.int (zI i) :: .ref a :: st) S h Q := by
  intro p l e s m args below meth c dC dI ca ρ B A Z H locs ls hC hG hN hH hL
  have he := zWl_get (ρ := ρ) (ca := ca) (h := h) ho
  rw [zEn_22] at he
  refine va_bald (D := (dC, dI)) hC.1 hC.2.1 hC.2.2.2.2.2.2.2.2.1 hH.1 a 2 he rfl (zHi hi).1 hd ?_
  rw [(zHi hi).2, zTo hi.1, hx]
  exact (kk p l e s m args below meth c dC dI ca ρ B A Z H locs ls hC hG hN hH hL)

theorem r_zald {μ : zMi} {k n pc : Nat} {L : List (Option Value)} {st : List Value} {S : zSh} {h : zMm} {Q : Option Value → zSh → zMm → Prop} {a N : Nat} {rf : List (Option Nat)} {i x : Int} (hd : decode μ.2.1 pc = .ok (.baload, 1)) (ho : S[a]? = some (23, N, rf)) (hi : 0 ≤ i ∧ i < (N : Int) ∧ N < 2147483648) (hx : h a i = x) (kk : RR μ k n (pc + 1) L (.int (zI x) :: st) S h Q) : RR μ k n pc L (.int (zI i) :: .ref a :: st) S h Q := by
  intro p l e s m args below meth c dC dI ca ρ B A Z H locs ls hC hG hN hH hL
  have he := zWl_get (ρ := ρ) (ca := ca) (h := h) ho
  rw [zEn_23] at he
  refine va_zald (D := (dC, dI)) hC.1 hC.2.1 hC.2.2.2.2.2.2.2.2.1 hH.1 a 3 he rfl (zHi hi).1 hd ?_
  rw [(zHi hi).2, zTo hi.1, hx]
  exact (kk p l e s m args below meth c dC dI ca ρ B A Z H locs ls hC hG hN hH hL)

theorem r_lald {μ : zMi} {k n pc : Nat} {L : List (Option Value)} {st : List Value} {S : zSh} {h : zMm} {Q : Option Value → zSh → zMm → Prop} {a N : Nat} {rf : List (Option Nat)} {i x : Int} (hd : decode μ.2.1 pc = .ok (.laload, 1)) (ho : S[a]? = some (21, N, rf)) (hi : 0 ≤ i ∧ i < (N : Int) ∧ N < 2147483648) (hx : h a i = x) (kk : RR μ k n (pc + 1) L (.long (zJ x) :: st) S h Q) : RR μ k n pc L (.int (zI i) :: .ref a :: st) S h Q := by
  intro p l e s m args below meth c dC dI ca ρ B A Z H locs ls hC hG hN hH hL
  have he := zWl_get (ρ := ρ) (ca := ca) (h := h) ho
  rw [zEn_21] at he
  refine va_lald (D := (dC, dI)) hC.1 hC.2.1 hC.2.2.2.2.2.2.2.2.1 hH.1 a 1 he rfl (zHi hi).1 hd ?_
  rw [(zHi hi).2, zTo hi.1, hx]
  exact (kk p l e s m args below meth c dC dI ca ρ B A Z H locs ls hC hG hN hH hL)

theorem r_iast {μ : zMi} {k n pc : Nat} {L : List (Option Value)} {st : List Value} {S : zSh} {h : zMm} {Q : Option Value → zSh → zMm → Prop} {a N : Nat} {rf : List (Option Nat)} {i x : Int} (hd : decode μ.2.1 pc = .ok (.iastore, 1)) (ho : S[a]? = some (20, N, rf)) (hi : 0 ≤ i ∧ i < (N : Int) ∧ N < 2147483648) (kk : RR μ k n (pc + 1) L st S (zU h a i x) Q) : RR μ k n pc L (.int (zI x) :: .int (zI i) :: .ref a :: st) S h Q := by
  intro p l e s m args below meth c dC dI ca ρ B A Z H locs ls hC hG hN hH hL
  have he := zWl_get (ρ := ρ) (ca := ca) (h := h) ho
  rw [zEn_20] at he
  refine va_iast (D := (dC, dI)) hC.1 hC.2.1 hC.2.2.2.2.2.2.2.2.1 hH.1 hH.2.1 (zS_self hH.2.2.1) a 0 he rfl (zHi hi).1 hd (fun H1 locs1 hP hD hS => ?_)
  rw [(zHi hi).2, zUpd hi.1] at hP hD
  exact (kk p l e s m args below meth c dC dI ca ρ B A Z H1 locs1 ls hC hG hN (hH.put1 ho zU_off zEn_20.symm hP hD hS) hL)

theorem r_last {μ : zMi} {k n pc : Nat} {L : List (Option Value)} {st : List Value} {S : zSh} {h : zMm} {Q : Option Value → zSh → zMm → Prop} {a N : Nat} {rf : List (Option Nat)} {i x : Int} (hd : decode μ.2.1 pc = .ok (.lastore, 1)) (ho : S[a]? = some (21, N, rf)) (hi : 0 ≤ i ∧ i < (N : Int) ∧ N < 2147483648) (kk : RR μ k n (pc + 1) L st S (zU h a i x) Q) : RR μ k n pc L (.long (zJ x) :: .int (zI i) :: .ref a :: st) S h Q := by
  intro p l e s m args below meth c dC dI ca ρ B A Z H locs ls hC hG hN hH hL
  have he := zWl_get (ρ := ρ) (ca := ca) (h := h) ho
  rw [zEn_21] at he
  refine va_last (D := (dC, dI)) hC.1 hC.2.1 hC.2.2.2.2.2.2.2.2.1 hH.1 hH.2.1 (zS_self hH.2.2.1) a 1 he rfl (zHi hi).1 hd (fun H1 locs1 hP hD hS => ?_)
  rw [(zHi hi).2, zUpdL hi.1] at hP hD
  exact (kk p l e s m args below meth c dC dI ca ρ B A Z H1 locs1 ls hC hG hN (hH.put1 ho zU_off zEn_21.symm hP hD hS) hL)

theorem r_bast {μ : zMi} {k n pc : Nat} {L : List (Option Value)} {st : List Value} {S : zSh} {h : zMm} {Q : Option Value → zSh → zMm → Prop} {a N : Nat} {rf : List (Option Nat)} {i x : Int} (hd : decode μ.2.1 pc = .ok (.bastore, 1)) (ho : S[a]? = some (22, N, rf)) (hi : 0 ≤ i ∧ i < (N : Int) ∧ N < 2147483648) (kk : RR μ k n (pc + 1) L st S (zU h a i (iB x)) Q) : RR μ k n pc L (.int (zI x) :: .int (zI i) :: .ref a :: st) S h Q := by
  intro p l e s m args below meth c dC dI ca ρ B A Z H locs ls hC hG hN hH hL
  have he := zWl_get (ρ := ρ) (ca := ca) (h := h) ho
  rw [zEn_22] at he
  refine va_bast (D := (dC, dI)) hC.1 hC.2.1 hC.2.2.2.2.2.2.2.2.1 hH.1 hH.2.1 (zS_self hH.2.2.1) a 2 he rfl (zHi hi).1 hd (fun H1 locs1 hP hD hS => ?_)
  rw [(zHi hi).2, zNar_b, zUpd hi.1] at hP hD
  exact (kk p l e s m args below meth c dC dI ca ρ B A Z H1 locs1 ls hC hG hN (hH.put1 ho zU_off zEn_22.symm hP hD hS) hL)
theorem r_zast {μ : zMi} {k n pc : Nat} {L : List (Option Value)} {st : List Value} {S : zSh} {h : zMm} {Q : Option Value → zSh → zMm → Prop} {a N : Nat} {rf : List (Option Nat)} {i x : Int} (hd : decode μ.2.1 pc = .ok (.bastore, 1)) (ho : S[a]? = some (23, N, rf)) (hi : 0 ≤ i ∧ i < (N : Int) ∧ N < 2147483648) (h01 : x = 0 ∨ x = 1) (kk : RR μ k n (pc + 1) L st S (zU h a i x) Q) : RR μ k n pc L (.int (zI x) :: .int (zI i) :: .ref a :: st) S h Q := by
  intro p l e s m args below meth c dC dI ca ρ B A Z H locs ls hC hG hN hH hL
  have he := zWl_get (ρ := ρ) (ca := ca) (h := h) ho
  rw [zEn_23] at he
  refine va_zast (D := (dC, dI)) hC.1 hC.2.1 hC.2.2.2.2.2.2.2.2.1 hH.1 hH.2.1 (zS_self hH.2.2.1) a 3 he rfl (zHi hi).1 hd (fun H1 locs1 hP hD hS => ?_)
  rw [(zHi hi).2, show vp_nar .boolean (zI x) = zI x by rcases h01 with rfl | rfl <;> rfl, zUpd hi.1] at hP hD
  exact (kk p l e s m args below meth c dC dI ca ρ B A Z H1 locs1 ls hC hG hN (hH.put1 ho zU_off zEn_23.symm hP hD hS) hL)
theorem r_alen {μ : zMi} {k n pc : Nat} {L : List (Option Value)} {st : List Value} {S : zSh} {h : zMm} {Q : Option Value → zSh → zMm → Prop} {a N kd t0 : Nat} {ty : FieldType} {rf : List (Option Nat)} {x : Int} (hd : decode μ.2.1 pc = .ok (.arraylength, 1)) (ho : S[a]? = some (kd, N, rf)) (hk : (kd, t0, ty) ∈ [(20, 0, FieldType.int), (21, 1, .long), (22, 2, .byte), (23, 3, .boolean)]) (hx : (N : Int) = x) (kk : RR μ k n (pc + 1) L (.int (zI x) :: st) S h Q) : RR μ k n pc L (.ref a :: st) S h Q := by
  intro p l e s m args below meth c dC dI ca ρ B A Z H locs ls hC hG hN hH hL
  have he := zWl_get (ρ := ρ) (ca := ca) (h := h) ho
  have hv : Int32.ofNat N = zI x := by rw [← hx]; rfl
  simp only [List.mem_cons, Prod.mk.injEq, List.not_mem_nil, or_false] at hk
  rcases hk with ⟨rfl, rfl, rfl⟩ | ⟨rfl, rfl, rfl⟩ | ⟨rfl, rfl, rfl⟩ | ⟨rfl, rfl, rfl⟩
  · exact va_alen (D := (dC, dI)) hC.1 hC.2.1 hC.2.2.2.2.2.2.2.2.1 hH.1 a 0 he rfl hv hd (kk p l e s m args below meth c dC dI ca ρ B A Z H locs ls hC hG hN hH hL)
  · exact va_alen (D := (dC, dI)) hC.1 hC.2.1 hC.2.2.2.2.2.2.2.2.1 hH.1 a 1 he rfl hv hd (kk p l e s m args below meth c dC dI ca ρ B A Z H locs ls hC hG hN hH hL)
  · exact va_alen (D := (dC, dI)) hC.1 hC.2.1 hC.2.2.2.2.2.2.2.2.1 hH.1 a 2 he rfl hv hd (kk p l e s m args below meth c dC dI ca ρ B A Z H locs ls hC hG hN hH hL)
  · exact va_alen (D := (dC, dI)) hC.1 hC.2.1 hC.2.2.2.2.2.2.2.2.1 hH.1 a 3 he rfl hv hd (kk p l e s m args below meth c dC dI ca ρ B A Z H locs ls hC hG hN hH hL)
theorem r_aald {μ : zMi} {k n pc : Nat} {L : List (Option Value)} {st : List Value} {S : zSh} {h : zMm} {Q : Option Value → zSh → zMm → Prop} {a b N kd t0 : Nat} {C : String} {rf : List (Option Nat)} {i : Int} (hd : decode μ.2.1 pc = .ok (.aaload, 1)) (ho : S[a]? = some (kd, N, rf)) (hk : (kd, t0, C) ∈ [(24, 4, "LawnTrees$Garden"), (25, 5, "LawnTrees$Moves"), (26, 6, "LawnTrees$Sheet")]) (hi : 0 ≤ i ∧ i < (N : Int) ∧ N < 2147483648) (hb : rf.getD i.toNat none = some b) (kk : RR μ k n (pc + 1) L (.ref b :: st) S h Q) : RR μ k n pc L (.int (zI i) :: .ref a :: st) S h Q := by
  intro p l e s m args below meth c dC dI ca ρ B A Z H locs ls hC hG hN hH hL
  have he := zWl_get (ρ := ρ) (ca := ca) (h := h) ho
  have ht : (zTys ca)[t0]? = some (ca kd, .object C) ∧ 24 ≤ kd := by
    simp only [List.mem_cons, Prod.mk.injEq, List.not_mem_nil, or_false] at hk
    rcases hk with ⟨rfl, rfl, rfl⟩ | ⟨rfl, rfl, rfl⟩ | ⟨rfl, rfl, rfl⟩ <;> exact ⟨rfl, by decide⟩
  rw [zEn_rf ht.2] at he
  refine va_aldq (D := (dC, dI)) hC.1 hC.2.1 hC.2.2.2.2.2.2.2.2.1 hH.1 a t0 he ht.1 (zHi hi).1 hd ?_
  rw [(zHi hi).2, hb]
  exact (kk p l e s m args below meth c dC dI ca ρ B A Z H locs ls hC hG hN hH hL)
theorem r_aast {μ : zMi} {k n pc : Nat} {L : List (Option Value)} {st : List Value} {S : zSh} {h : zMm} {Q : Option Value → zSh → zMm → Prop} {a b N kd t0 ci M : Nat} {C : String} {T : u_T} {rf rb : List (Option Nat)} {i : Int} (hd : decode μ.2.1 pc = .ok (.aastore, 1)) (ho : S[a]? = some (kd, N, rf)) (hk : (kd, t0, C) ∈ [(24, 4, "LawnTrees$Garden"), (25, 5, "LawnTrees$Moves"), (26, 6, "LawnTrees$Sheet")]) (hi : 0 ≤ i ∧ i < (N : Int) ∧ N < 2147483648) (hb : S[b]? = some (ci, M, rb)) (hc : vwCl[ci]? = some (C, T, M)) (hf : i.toNat < rf.length) (kk : RR μ k n (pc + 1) L st (S.set a (kd, N, rf.set i.toNat (some b))) h Q) : RR μ k n pc L (.ref b :: .int (zI i) :: .ref a :: st) S h Q := by
  intro p l e s m args below meth c dC dI ca ρ B A Z H locs ls hC hG hN hH hL
  have he := zWl_get (ρ := ρ) (ca := ca) (h := h) ho
  have hv := zWl_get (ρ := ρ) (ca := ca) (h := h) hb
  have ht : (zTys ca)[t0]? = some (ca kd, .object C) ∧ 24 ≤ kd := by
    simp only [List.mem_cons, Prod.mk.injEq, List.not_mem_nil, or_false] at hk
    rcases hk with ⟨rfl, rfl, rfl⟩ | ⟨rfl, rfl, rfl⟩ | ⟨rfl, rfl, rfl⟩ <;> exact ⟨rfl, by decide⟩
  rw [zEn_rf ht.2] at he
  rw [zEn_ob (zLt20 hc)] at hv
  refine va_astq (D := (dC, dI)) hC.1 hC.2.1 hC.2.2.2.2.2.2.2.2.1 hH.1 hH.2.1 (zS_self hH.2.2.1) a t0 b ci he ht.1 hv hc (zHi hi).1 hd (fun H1 locs1 hP hD hS => ?_)
  rw [(zHi hi).2] at hP hD
  have he2 : Sum.inl (ca kd, N, Sum.inr (Sum.inr (Sum.inr (Sum.inr (va_up (fun i => (rf.getD i none).map ρ) i.toNat (some (ρ b))))))) = zEn ρ ca h a (kd, N, rf.set i.toNat (some b)) := by
    rw [zEn_rf ht.2]
    congr 7
    funext j
    unfold va_up
    by_cases hj : j = i.toNat
    · rw [if_pos hj, hj, List.getD_eq_getElem?_getD, List.getElem?_set_self hf]; rfl
    · rw [if_neg hj]
      show Option.map ρ (rf.getD j none) = Option.map ρ ((rf.set i.toNat (some b)).getD j none)
      rw [List.getD_eq_getElem?_getD, List.getD_eq_getElem?_getD, List.getElem?_set_ne (Ne.symm hj)]
  exact (kk p l e s m args below meth c dC dI ca ρ B A Z H1 locs1 ls hC hG (by rw [List.length_set]; exact hN) (hH.put ho (fun _ _ => rfl) he2 hP hD hS) hL)
