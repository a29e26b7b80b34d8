/-! THE START: what the Statement gives, in the forms that the walk wants -/
abbrev zGv : Cond := Jvm.Cond.and given_1 narrow_1
def zTm (i : Nat) : Term := .string "LawnTrees$TextReader" (([104, 106, 108, 110, 112, 114, 116, 118, 120, 122, 127] : List Nat).getD i 0)
theorem st_lit {s : State} {args : Array Value} {A : Nat → Prop} (hgv : zGv.before args s = true) (hA : ∀ a : Nat, a < s.heap.size → ¬ A a) : ∃ adK adV : Nat → Nat, vk_S 11 zLen zByt adK adV A s s.heap ∧ ∀ i : Nat, i < 11 → (zTm i).eval args s none [] s = some (.ref (adK i)) := by
  have hs := flat_of_before _ hgv
  refine vk_Sof (tm := zTm) (by decide) (fun i hi => hs _ ?_) (fun i hi => hs _ ?_) (fun i hi => hs _ ?_) (fun i hi => hs _ ?_) (fun i hi j hj => hs _ ?_) (fun i j hi hj hn => ?_) hA
  · exact (show ∀ i, i < 11 → Cond.exactly (zTm i) "java/lang/String" ∈ flatC zGv by decide +kernel) i hi
  · exact (show ∀ i, i < 11 → Cond.eq (.field (zTm i) "java/lang/String" "coder" "B") (.int 0) ∈ flatC zGv by decide +kernel) i hi
  · exact (show ∀ i, i < 11 → Cond.arrayOf (.field (zTm i) "java/lang/String" "value" "[B") .byte ∈ flatC zGv by decide +kernel) i hi
  · exact (show ∀ i, i < 11 → Cond.eq (.length (.field (zTm i) "java/lang/String" "value" "[B")) (.int (Int32.ofNat (zLen.getD i 0))) ∈ flatC zGv by decide +kernel) i hi
  · exact (show ∀ i, i < 11 → ∀ j, j < zLen.getD i 0 → Cond.eq (.elem (.field (zTm i) "java/lang/String" "value" "[B") (.int (Int32.ofNat j))) (.int ((zByt.getD i []).getD j 0)) ∈ flatC zGv by decide +kernel) i hi j hj
  · rcases (show ∀ i, i < 11 → ∀ j, j < 11 → i ≠ j → Cond.not (.eq (zTm i) (zTm j)) ∈ flatC zGv ∨ Cond.not (.eq (zTm j) (zTm i)) ∈ flatC zGv by decide +kernel) i hi j hj hn with q | q
    · exact Or.inl (hs _ q)
    · exact Or.inr (hs _ q)
theorem st_row {s : State} {args : Array Value} {A : Nat → Prop} (q : String × Nat × List Int) (hgv : zGv.before args s = true) (hA : ∀ a : Nat, a < s.heap.size → ¬ A a)
    (h1 : Cond.arrayOf (.static "LawnTrees" q.1 "[I") .int ∈ flatC zGv) (h2 : Cond.eq (.length (.static "LawnTrees" q.1 "[I")) (.int 8) ∈ flatC zGv) (h3 : ∀ j, j < 8 → Cond.eq (.elem (.static "LawnTrees" q.1 "[I") (.int (Int32.ofNat j))) (.int (zI (q.2.2.getD j 0))) ∈ flatC zGv)
    (h4 : (Cond.laysStatic "LawnTrees" q.1 "[I").before args s = true) (h5 : (Cond.initialized "LawnTrees").before args s = true) : ∃ t : Nat, va_Z "LawnTrees" q.1 "[I" (.ref t) A s s.heap ∧ va_T .int t 8 (fun j => .int (zI (q.2.2.getD j 0))) A s s.heap := by
  have hs := flat_of_before _ hgv
  obtain ⟨t, ht, hT⟩ := va_Tof (tm := .static "LawnTrees" q.1 "[I") (ty := .int) (N := 8) (f := fun j => .int (zI (q.2.2.getD j 0))) (A := A) (by decide) (hs _ h1) (va_eqt (hs _ h2)) (fun j hj => va_eqt (hs _ (h3 j hj))) hA
  exact ⟨t, va_Zof h4 h5 ht hA, hT⟩
theorem st_cls {s : State} {args : Array Value} (hts : ∀ w ∈ zTb, w.before args s = true) : ∃ (dC : Nat → ClassId) (dI : Nat → Nat → Nat), ∀ (c : Nat) (q : vw_C), vwCl[c]? = some q → u_Kn s q.1 q.2.1 q.2.2 (dC c) (dI c) := by
  have h : ∀ c : Nat, ∃ z : ClassId × (Nat → Nat), ∀ q : vw_C, vwCl[c]? = some q → u_Kn s q.1 q.2.1 q.2.2 z.1 z.2 := by
    intro c
    match c with
    | 0 => obtain ⟨x, y, z⟩ := u_known hts zCl0_in (hts _ in_X0); exact ⟨(x, y), fun q hq => by cases hq; exact z⟩
    | 1 => obtain ⟨x, y, z⟩ := u_known hts zCl1_in (hts _ in_X1); exact ⟨(x, y), fun q hq => by cases hq; exact z⟩
    | 2 => obtain ⟨x, y, z⟩ := u_known hts zCl2_in (hts _ in_X2); exact ⟨(x, y), fun q hq => by cases hq; exact z⟩
    | 3 => obtain ⟨x, y, z⟩ := u_known hts zCl3_in (hts _ in_X3); exact ⟨(x, y), fun q hq => by cases hq; exact z⟩
    | 4 => obtain ⟨x, y, z⟩ := u_known hts zCl4_in (hts _ in_X4); exact ⟨(x, y), fun q hq => by cases hq; exact z⟩
    | 5 => obtain ⟨x, y, z⟩ := u_known hts zCl5_in (hts _ in_X5); exact ⟨(x, y), fun q hq => by cases hq; exact z⟩
    | 6 => obtain ⟨x, y, z⟩ := u_known hts zCl6_in (hts _ in_X6); exact ⟨(x, y), fun q hq => by cases hq; exact z⟩
    | 7 => obtain ⟨x, y, z⟩ := u_known hts zCl7_in (hts _ in_X7); exact ⟨(x, y), fun q hq => by cases hq; exact z⟩
    | 8 => obtain ⟨x, y, z⟩ := u_known hts zCl8_in (hts _ in_X8); exact ⟨(x, y), fun q hq => by cases hq; exact z⟩
    | 9 => obtain ⟨x, y, z⟩ := u_known hts zCl9_in (hts _ in_X9); exact ⟨(x, y), fun q hq => by cases hq; exact z⟩
    | 10 => obtain ⟨x, y, z⟩ := u_known hts zCl10_in (hts _ in_X10); exact ⟨(x, y), fun q hq => by cases hq; exact z⟩
    | 11 => obtain ⟨x, y, z⟩ := u_known hts zCl11_in (hts _ in_X11); exact ⟨(x, y), fun q hq => by cases hq; exact z⟩
    | 12 => obtain ⟨x, y, z⟩ := u_known hts zCl12_in (hts _ in_X12); exact ⟨(x, y), fun q hq => by cases hq; exact z⟩
    | c + 13 => exact ⟨(default, fun _ => 0), fun q hq => by simp [vwCl] at hq⟩
  exact ⟨fun c => (Classical.choose (h c)).1, fun c => (Classical.choose (h c)).2, fun c q hq => Classical.choose_spec (h c) q hq⟩
theorem st_ac {s : State} {args : Array Value} {ty : FieldType} (hty : ty = .int ∨ ty = .long ∨ ty = .byte ∨ ty = .boolean) (h : (Cond.arrayClass ty).before args s = true) : ∃ cA : ClassId, ArrOfT s cA ty ∧ va_RA s cA ty := by
  obtain ⟨cA, kA, comp, h1, h2, h3⟩ := Cond.arrayClass_spec h
  refine ⟨cA, fun n z => ⟨fun k q => ?_, kA, h2, comp, h3⟩, ?_⟩
  · rcases hty with rfl | rfl | rfl | rfl <;> cases q
  · rcases hty with rfl | rfl | rfl | rfl <;> exact h1
theorem st_ao {s : State} {args : Array Value} {C : String} (h : (Cond.arrayOver (.object C)).before args s = true) : ∃ cA : ClassId, ArrOfT s cA (.object C) ∧ va_RA s cA (.object C) := by
  obtain ⟨comp, cA, kA, f3, -, f1, f2, f4⟩ := Cond.arrayOver_spec h
  exact ⟨cA, fun n z => ⟨fun k q => (by cases q), kA, f1, comp, f2⟩, kA, comp, f1, f2, f3, f4⟩
