/-! CONSTRUCTORS: the rows once more, with the shape and the place named; a new garden -/
def zDf (ty : FieldType) (t : Nat) : Bool := match t, ty with
  | 0, .int => true
  | 0, .boolean => true
  | 1, .long => true
  | 2, .object _ => true
  | 2, .array _ => true
  | _, _ => false
def zDv (t : Nat) : Value := match t with | 0 => .int 0 | 1 => .long 0 | _ => .null
theorem zDf_ok {ty : FieldType} {t : Nat} (h : zDf ty t = true) : defaultValue ty = zDv t := by
  unfold zDf at h
  split at h
  · rfl
  · rfl
  · rfl
  · rfl
  · rfl
  · cases h
theorem q_new {μ : zMi} {k n pc : Nat} {L : List (Option Value)} {st : List Value} {S S' : zSh} {a : Nat} {h : zMm} {Q : Option Value → zSh → zMm → Prop} {ci N idx : Nat} {C : String} {T : u_T} (hc : vwCl[ci]? = some (C, T, N)) (hin : ∀ w ∈ u_ws C T N, w ∈ zTb) (ty0 : Nat → FieldType) (hty : ∀ k, k < N → parseFieldDescriptor (T k).2.2.1 = some (ty0 k)) (hdf : ∀ j, j < N → defaultValue (ty0 j) = zDv (zTy ci j))
    (hcl : Cond.classLink μ.1.cls idx C ∈ zTb) (hins : Cond.instantiable C N ∈ zTb) (hini : Cond.initialized C ∈ zTb) (hd : decode μ.2.1 pc = .ok (.new idx, 3)) (hS : S ++ [(ci, N, List.replicate N none)] = S') (hl : S.length = a) (hlen : a < 1000) (hk : k + 1 ≤ μ.2.2.2.2.1.cells) (hn : n + N ≤ μ.2.2.2.2.1.slots) (kk : RR μ (k + 1) (n + N) (pc + 3) L (.ref a :: st) S' (zN h a) Q) : RR μ k n pc L st S h Q := by
  subst hS
  subst hl
  exact r_new hc hin ty0 hty hdf hcl hins hini hd hlen hk hn kk
theorem q_newa_int {μ : zMi} {k n pc : Nat} {L : List (Option Value)} {st : List Value} {S S' : zSh} {a : Nat} {h : zMm} {Q : Option Value → zSh → zMm → Prop} {x : Int} {N : Nat} (harr : Cond.arrayClass .int ∈ zTb) (hd : decode μ.2.1 pc = .ok (.newarray .int, 2)) (hx : (N : Int) = x) (hN0 : N < 100000) (hS : S ++ [(20, N, [])] = S') (hl : S.length = a) (hlen : a < 1000) (hk : k + 1 ≤ μ.2.2.2.2.1.cells) (hn : n + N ≤ μ.2.2.2.2.1.slots) (kk : RR μ (k + 1) (n + N) (pc + 2) L (.ref a :: st) S' (zN h a) Q) : RR μ k n pc L (.int (zI x) :: st) S h Q := by
  subst hS
  subst hl
  exact r_newa_int harr hd hx hN0 hlen hk hn kk
theorem q_newa_long {μ : zMi} {k n pc : Nat} {L : List (Option Value)} {st : List Value} {S S' : zSh} {a : Nat} {h : zMm} {Q : Option Value → zSh → zMm → Prop} {x : Int} {N : Nat} (harr : Cond.arrayClass .long ∈ zTb) (hd : decode μ.2.1 pc = .ok (.newarray .long, 2)) (hx : (N : Int) = x) (hN0 : N < 100000) (hS : S ++ [(21, N, [])] = S') (hl : S.length = a) (hlen : a < 1000) (hk : k + 1 ≤ μ.2.2.2.2.1.cells) (hn : n + N ≤ μ.2.2.2.2.1.slots) (kk : RR μ (k + 1) (n + N) (pc + 2) L (.ref a :: st) S' (zN h a) Q) : RR μ k n pc L (.int (zI x) :: st) S h Q := by
  subst hS
  subst hl
  exact r_newa_long harr hd hx hN0 hlen hk hn kk
theorem q_newa_byte {μ : zMi} {k n pc : Nat} {L : List (Option Value)} {st : List Value} {S S' : zSh} {a : Nat} {h : zMm} {Q : Option Value → zSh → zMm → Prop} {x : Int} {N : Nat} (harr : Cond.arrayClass .byte ∈ zTb) (hd : decode μ.2.1 pc = .ok (.newarray .byte, 2)) (hx : (N : Int) = x) (hN0 : N < 100000) (hS : S ++ [(22, N, [])] = S') (hl : S.length = a) (hlen : a < 1000) (hk : k + 1 ≤ μ.2.2.2.2.1.cells) (hn : n + N ≤ μ.2.2.2.2.1.slots) (kk : RR μ (k + 1) (n + N) (pc + 2) L (.ref a :: st) S' (zN h a) Q) : RR μ k n pc L (.int (zI x) :: st) S h Q := by
  subst hS
  subst hl
  exact r_newa_byte harr hd hx hN0 hlen hk hn kk
theorem q_newa_boolean {μ : zMi} {k n pc : Nat} {L : List (Option Value)} {st : List Value} {S S' : zSh} {a : Nat} {h : zMm} {Q : Option Value → zSh → zMm → Prop} {x : Int} {N : Nat} (harr : Cond.arrayClass .boolean ∈ zTb) (hd : decode μ.2.1 pc = .ok (.newarray .boolean, 2)) (hx : (N : Int) = x) (hN0 : N < 100000) (hS : S ++ [(23, N, [])] = S') (hl : S.length = a) (hlen : a < 1000) (hk : k + 1 ≤ μ.2.2.2.2.1.cells) (hn : n + N ≤ μ.2.2.2.2.1.slots) (kk : RR μ (k + 1) (n + N) (pc + 2) L (.ref a :: st) S' (zN h a) Q) : RR μ k n pc L (.int (zI x) :: st) S h Q := by
  subst hS
  subst hl
  exact r_newa_boolean harr hd hx hN0 hlen hk hn kk
theorem q_anewa {μ : zMi} {k n pc : Nat} {L : List (Option Value)} {st : List Value} {S S' : zSh} {a : Nat} {h : zMm} {Q : Option Value → zSh → zMm → Prop} {x : Int} {N idx kd t0 : Nat} {C : String} (hcl : Cond.classLink μ.1.cls idx C ∈ zTb) (hk0 : (kd, t0, C) ∈ [(24, 4, "LawnTrees$Garden"), (25, 5, "LawnTrees$Moves"), (26, 6, "LawnTrees$Sheet")]) (hao : C ∈ zAo) (hd : decode μ.2.1 pc = .ok (.anewarray idx, 3)) (hx : (N : Int) = x) (hN0 : N < 100000) (hS : S ++ [(kd, N, List.replicate N none)] = S') (hl : S.length = a) (hlen : a < 1000) (hk : k + 1 ≤ μ.2.2.2.2.1.cells) (hn : n + N ≤ μ.2.2.2.2.1.slots) (kk : RR μ (k + 1) (n + N) (pc + 3) L (.ref a :: st) S' (zN h a) Q) : RR μ k n pc L (.int (zI x) :: st) S h Q := by
  subst hS
  subst hl
  exact r_anewa hcl hk0 hao hd hx hN0 hlen hk hn kk
theorem q_putR {μ : zMi} {k n pc : Nat} {L : List (Option Value)} {st : List Value} {S S' : zSh} {h : zMm} {Q : Option Value → zSh → zMm → Prop} {o b idx ci f N : Nat} {ty : FieldType} {rf : List (Option Nat)} (hl : zFl μ.1.cls idx ci f N 2 true ty) (hty : (∃ z, ty = .object z) ∨ ∃ z, ty = .array z) (hw : ∃ C T M, vwCl[ci]? = some (C, T, M) ∧ (T f).1 = μ.1.cls) (hy : μ.1.name = "<init>") (hd : decode μ.2.1 pc = .ok (.putfield idx, 3)) (ho : S[o]? = some (ci, N, rf)) (hf : f < rf.length) (hS : S.set o (ci, N, rf.set f (some b)) = S') (kk : RR μ k n (pc + 3) L st S' h Q) : RR μ k n pc L (.ref b :: .ref o :: st) S h Q := by
  subst hS
  exact r_putR hl hty hw hy hd ho hf kk
theorem q_aast {μ : zMi} {k n pc : Nat} {L : List (Option Value)} {st : List Value} {S S' : zSh} {h : zMm} {Q : Option Value → zSh → zMm → Prop} {a b N kd t0 ci M : Nat} {C : String} {T : u_T} {rf rb : List (Option Nat)} {i : Int} (hd : decode μ.2.1 pc = .ok (.aastore, 1)) (ho : S[a]? = some (kd, N, rf)) (hk : (kd, t0, C) ∈ [(24, 4, "LawnTrees$Garden"), (25, 5, "LawnTrees$Moves"), (26, 6, "LawnTrees$Sheet")]) (hi : 0 ≤ i ∧ i < (N : Int) ∧ N < 2147483648) (hb : S[b]? = some (ci, M, rb)) (hc : vwCl[ci]? = some (C, T, M)) (hf : i.toNat < rf.length) (hS : S.set a (kd, N, rf.set i.toNat (some b)) = S') (kk : RR μ k n (pc + 1) L st S' h Q) : RR μ k n pc L (.ref b :: .int (zI i) :: .ref a :: st) S h Q := by
  subst hS
  exact r_aast hd ho hk hi hb hc hf kk
theorem obj_i : Cond.instanceMethod Lib.objectInit ∈ zTb := zmem 89 (by decide +kernel) rfl
theorem obj_c : Cond.code Lib.objectInit ⟨#[0xb1]⟩ 1 none ∈ zTb := zmem 90 (by decide +kernel) rfl
/-- grass grows to what is told -/
theorem sX3_growToTold {S : zSh} {h : zMm} {K : zMm → Prop} {o0 : Nat} {Kd : Int → Int} (hg0 : zG3 S o0) (hKd : zKd (h (o0 + 1)) Kd) (hK : ∀ h', (∀ a, a ≠ o0 + 2 → h' a = h a) → (∀ i : Int, 0 ≤ i → i < 36 → h' (o0 + 2) i = if Kd i ≤ 1 then h (o0 + 5) 7 else 0) → K h') : zCv mX3_growToTold [.ref o0] S h K := by
  have lp : ∀ (n k : Nat), k + n = 36 → ∀ g : zMm, (∀ a, a ≠ o0 + 2 → g a = h a) → (∀ i : Int, 0 ≤ i → i < k → g (o0 + 2) i = if Kd i ≤ 1 then h (o0 + 5) 7 else 0) → RR mX3_growToTold 0 0 2 [some (.ref o0), some (.int (zI (k : Int)))] [] S g (zQv S K) := by
    intro n
    induction n with
    | zero =>
      intro k hk g f1 f2
      refine bX3_growToTold_2 hg0 ⟨⟨by omega, by omega⟩, fun _ => hK g f1 (fun i i0 i1 => f2 i i0 (by omega)), fun c => absurd (show (36 : Int) ≤ k by omega) c⟩
    | succ n ih =>
      intro k hk g f1 f2
      refine bX3_growToTold_2 hg0 ⟨⟨by omega, by omega⟩, fun c => absurd c (by omega), fun _ => ?_⟩
      have e1 : g (o0 + 1) = h (o0 + 1) := f1 _ (by omega)
      have e5 : g (o0 + 5) = h (o0 + 5) := f1 _ (by omega)
      refine sX3_isGrass' (Kd := Kd) hg0 (by rw [e1]; exact hKd) ⟨by omega, by omega⟩ ?_
      rw [e5]
      simp only [decide_eq_true_eq, decide_eq_false_iff_not]
      have go : ∀ x : Int, x = (if Kd k ≤ 1 then h (o0 + 5) 7 else 0) → RR mX3_growToTold 0 0 2 [some (.ref o0), some (.int (zI ((k : Int) + 1)))] [] S (zU g (o0 + 2) k x) (zQv S K) := by
        intro x hx
        refine ih (k + 1) (by omega) _ (fun a ha => (zU_off a ha).trans (f1 a ha)) (fun i i0 i1 => ?_)
        by_cases hi : i = k
        · subst hi; rw [zU_eq]; exact hx
        · rw [zU_ne (by omega)]; exact f2 i i0 (by omega)
      refine ⟨fun c => ⟨⟨by omega, by omega⟩, go 0 (if_neg c).symm⟩, fun c => ⟨⟨by omega, by omega⟩, go _ (if_pos c).symm⟩⟩
  refine wX3_growToTold hg0 ?_
  exact lp 36 0 rfl h (fun _ _ => rfl) (fun i i0 i1 => by omega)
def zNewG (o : Nat) (h h' : zMm) : Prop := (∀ a, (a < o ∨ o + 6 ≤ a) → h' a = h a) ∧ (∀ i : Int, 0 ≤ i → i < 36 → h' (o + 1) i = 0 ∧ h' (o + 2) i = 3 ∧ h' (o + 3) i = 3 ∧ h' (o + 4) i = -4) ∧ ∀ r : Int, 0 ≤ r → r ≤ 7 → h' (o + 5) r = ([0, 1, 2, 30, 2, 20, 0, 3] : List Int).getD r.toNat 0
theorem sX3_startAnew0 {S : zSh} {h : zMm} {K : zMm → Prop} {o0 : Nat} (hg0 : zG3 S o0) (hK : ∀ h', zNewG o0 h h' → K h') : zCv mX3_startAnew [.ref o0] S h K := by
  refine wX3_startAnew hg0 ?_
  refine sJ7_fill_i hg0.2.1 (by decide) ?_
  refine sJ7_fill_i hg0.2.2.2.1 (by decide) ?_
  refine sJ7_fill_i hg0.2.2.2.2.1 (by decide) ?_
  refine sX3_growToTold (Kd := fun _ => 0) hg0 (fun i i0 i1 => ⟨by rw [zCs_off (o0 + 1) (by omega), zFi_off (by omega), zFi_off (by omega)]; exact zFi_in i0 i1, Int.le_refl 0, (by decide : (0 : Int) ≤ 4)⟩) (fun h' f1 f2 => hK h' ⟨fun a ha => ?_, fun i i0 i1 => ?_, fun r r0 r7 => ?_⟩)
  · rw [f1 a (by omega), zCs_off a (by omega), zFi_of (by omega), zFi_of (by omega), zFi_of (by omega)]
  · have f3 := f2 i i0 i1
    rw [f1 (o0 + 1) (by omega), f1 (o0 + 3) (by omega), f1 (o0 + 4) (by omega), f3]
    rw [zCs_off (o0 + 1) (by omega), zCs_off (o0 + 3) (by omega), zCs_off (o0 + 4) (by omega)]
    have e1 : zFi (zFi (zFi h (o0 + 1) ((36 : Nat) : Int) 0) (o0 + 3) ((36 : Nat) : Int) 3) (o0 + 4) ((36 : Nat) : Int) (-4) (o0 + 1) i = 0 := by
      rw [zFi_off (by omega), zFi_off (by omega)]
      exact zFi_in i0 i1
    have e3 : zFi (zFi (zFi h (o0 + 1) ((36 : Nat) : Int) 0) (o0 + 3) ((36 : Nat) : Int) 3) (o0 + 4) ((36 : Nat) : Int) (-4) (o0 + 3) i = 3 := by
      rw [zFi_off (by omega)]
      exact zFi_in i0 i1
    have e4 : zFi (zFi (zFi h (o0 + 1) ((36 : Nat) : Int) 0) (o0 + 3) ((36 : Nat) : Int) 3) (o0 + 4) ((36 : Nat) : Int) (-4) (o0 + 4) i = -4 := zFi_in i0 i1
    refine ⟨e1, ?_, e3, e4⟩
    rw [if_pos (by decide)]
    unfold zCs
    rw [if_pos ⟨rfl, by decide, by decide⟩]
    rfl
  · rw [f1 (o0 + 5) (by omega)]
    unfold zCs
    rw [if_pos ⟨rfl, r0, by omega⟩]
