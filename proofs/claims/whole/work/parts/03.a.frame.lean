/-! NUMBERS, MEMORY, SHAPE: the heap of the two objects as numbers: an object is its place in the shape; what it holds is read off 'h' -/
abbrev zI (x : Int) : Int32 := Int32.ofInt x
abbrev zJ (x : Int) : Int64 := Int64.ofInt x
abbrev zR (x : Int) : Prop := -2147483648 ≤ x ∧ x < 2147483648
abbrev zRl (x : Int) : Prop := -9223372036854775808 ≤ x ∧ x < 9223372036854775808
abbrev zDe : Type := Nat × Nat × List (Option Nat)
abbrev zSh : Type := List zDe
abbrev zMm : Type := Nat → Int → Int
def zU (h : zMm) (o : Nat) (k x : Int) : zMm := fun a b => if a = o ∧ b = k then x else h a b
theorem zU_eq (h : zMm) (o : Nat) (k x : Int) : zU h o k x o k = x := by simp [zU]
theorem zU_ne {h : zMm} {o a : Nat} {k b x : Int} (hn : ¬ (a = o ∧ b = k)) : zU h o k x a b = h a b := by simp only [zU, if_neg hn]
theorem zU_at (h : zMm) (o a : Nat) (k b x : Int) : zU h o k x a b = if a = o ∧ b = k then x else h a b := rfl
/-- 0 int or boolean, 1 long, 2 reference: the fields of the kinds 0 to 12 -/
def zTyT : List (List Nat) := [[2, 2, 1, 1, 1], [2, 2, 0, 0, 0, 0, 0, 0], [2, 2], [2, 2, 2, 2, 2], [2, 2, 2, 2, 2, 2, 2, 2, 2, 2, 0, 0, 0, 0, 0, 0, 0, 0, 0, 0], [2, 2, 0], [0, 0, 0, 0, 1], [2, 0, 0], [2, 0, 0, 0, 0, 0], [2, 0, 0, 0, 0, 0, 1], [2, 2, 0, 0, 0, 0, 0, 0, 0, 0, 0, 0, 0, 0, 0, 0], [2, 2, 2, 2, 2, 2, 2, 2, 2, 2, 2, 2, 2, 2, 2, 0], [2, 0, 0, 0, 0, 0, 0, 0, 0, 2, 2, 2, 2, 2, 2, 2, 2, 2, 0, 0, 2, 0, 2, 2, 2, 2, 2, 0, 0, 0, 0, 0, 2, 2, 0, 2, 0, 0, 2, 0, 0, 0, 0, 1, 2, 2, 2, 2, 2, 2, 0]]
def zTy (c i : Nat) : Nat := (zTyT.getD c []).getD i 2
/-! references are places; their addresses come from 'ρ' -/
def zV (ρ : Nat → Nat) (v : Value) : Value := match v with
  | .ref a => .ref (ρ a)
  | w => w
theorem zV_cat (ρ : Nat → Nat) (v : Value) : (zV ρ v).category = v.category := by cases v <;> rfl
def zFv (ρ : Nat → Nat) (h : zMm) (o : Nat) (d : zDe) (i : Nat) : Value := match zTy d.1 i with
  | 0 => .int (zI (h o (i : Int)))
  | 1 => .long (zJ (h o (i : Int)))
  | _ => va_rf ((d.2.2.getD i none).map ρ)
def zEn (ρ : Nat → Nat) (ca : Nat → ClassId) (h : zMm) (o : Nat) (d : zDe) : va_E :=
  if d.1 < 20 then .inr (d.1, (List.range d.2.1).map (zFv ρ h o d))
  else if d.1 = 21 then .inl (ca d.1, d.2.1, .inr (.inl (fun i => zJ (h o (i : Int)))))
  else if d.1 < 24 then .inl (ca d.1, d.2.1, .inl (fun i => zI (h o (i : Int))))
  else .inl (ca d.1, d.2.1, .inr (.inr (.inr (.inr (fun i => (d.2.2.getD i none).map ρ)))))
def zWf (ρ : Nat → Nat) (ca : Nat → ClassId) (h : zMm) : Nat → zSh → va_W
  | _, [] => []
  | o, d :: S => (ρ o, zEn ρ ca h o d) :: zWf ρ ca h (o + 1) S
def zWl (ρ : Nat → Nat) (ca : Nat → ClassId) (S : zSh) (h : zMm) : va_W := zWf ρ ca h 0 S
theorem zWf_at (ρ : Nat → Nat) (ca : Nat → ClassId) (h : zMm) : ∀ (S : zSh) (b o : Nat), (zWf ρ ca h b S)[o]? = (S[o]?).map (fun d => (ρ (b + o), zEn ρ ca h (b + o) d)) := by
  intro S
  induction S with
  | nil => intro b o; simp [zWf]
  | cons d S ih =>
    intro b o
    cases o with
    | zero => simp [zWf]
    | succ o =>
      rw [zWf, List.getElem?_cons_succ, List.getElem?_cons_succ, ih (b + 1) o, show b + 1 + o = b + (o + 1) by omega]
theorem zWl_at (ρ : Nat → Nat) (ca : Nat → ClassId) (h : zMm) (S : zSh) (o : Nat) : (zWl ρ ca S h)[o]? = (S[o]?).map (fun d => (ρ o, zEn ρ ca h o d)) := by
  unfold zWl
  rw [zWf_at, Nat.zero_add]
theorem zWl_get {ρ : Nat → Nat} {ca : Nat → ClassId} {h : zMm} {S : zSh} {o : Nat} {d : zDe} (hd : S[o]? = some d) : (zWl ρ ca S h)[o]? = some (ρ o, zEn ρ ca h o d) := by
  rw [zWl_at, hd]
  rfl
theorem zWl_len (ρ : Nat → Nat) (ca : Nat → ClassId) (h : zMm) (S : zSh) : ∀ o : Nat, (zWl ρ ca S h)[o]? = none ↔ S[o]? = none := by
  intro o
  rw [zWl_at]
  cases S[o]? <;> simp
/-- one cell is another now -/
theorem zWl_set {ρ : Nat → Nat} {ca : Nat → ClassId} {h h' : zMm} {S : zSh} {o : Nat} {d d' : zDe} {e : va_E} (hd : S[o]? = some d) (hh : ∀ a, a ≠ o → h' a = h a) (he : e = zEn ρ ca h' o d') : (zWl ρ ca S h).set o (ρ o, e) = zWl ρ ca (S.set o d') h' := by
  have hl : o < S.length := (List.getElem?_eq_some_iff.mp hd).1
  have hl2 : o < (zWl ρ ca S h).length := (List.getElem?_eq_some_iff.mp (zWl_get (ρ := ρ) (ca := ca) (h := h) hd)).1
  apply List.ext_getElem?
  intro j
  rw [zWl_at]
  by_cases hj : j = o
  · subst hj
    rw [List.getElem?_set_self hl2, List.getElem?_set_self hl, he]
    rfl
  · rw [List.getElem?_set_ne (Ne.symm hj), List.getElem?_set_ne (Ne.symm hj), zWl_at]
    cases S[j]? with
    | none => rfl
    | some x =>
      simp only [Option.map_some, Option.some.injEq, Prod.mk.injEq, true_and]
      unfold zEn zFv
      rw [hh j hj]
theorem zSet_self {S : zSh} {o : Nat} {d : zDe} (hd : S[o]? = some d) : S.set o d = S := by
  apply List.ext_getElem?
  intro j
  by_cases hj : j = o
  · subst hj
    rw [List.getElem?_set_self (List.getElem?_eq_some_iff.mp hd).1, hd]
  · rw [List.getElem?_set_ne (Ne.symm hj)]
/-- one cell more -/
theorem zWl_push {ρ : Nat → Nat} {ca : Nat → ClassId} {h h' : zMm} {S : zSh} {d : zDe} (hh : ∀ a, a ≠ S.length → h' a = h a) : zWl ρ ca (S ++ [d]) h' = zWl ρ ca S h ++ [(ρ S.length, zEn ρ ca h' S.length d)] := by
  have hlen : (zWl ρ ca S h).length = S.length := by
    have h1 := zWl_len ρ ca h S S.length
    have h2 := zWl_len ρ ca h S (zWl ρ ca S h).length
    simp only [List.getElem?_eq_none_iff] at h1 h2
    have := h1.mpr (Nat.le_refl _)
    have := h2.mp (Nat.le_refl _)
    omega
  apply List.ext_getElem?
  intro j
  rw [zWl_at]
  by_cases hj : j < S.length
  · rw [List.getElem?_append_left hj, List.getElem?_append_left (by omega), zWl_at]
    have : h' j = h j := hh j (by omega)
    cases S[j]? with
    | none => rfl
    | some x =>
      simp only [Option.map_some, Option.some.injEq, Prod.mk.injEq, true_and]
      unfold zEn zFv
      rw [this]
  · rw [List.getElem?_append_right (by omega), List.getElem?_append_right (by omega), hlen]
    cases hk : j - S.length with
    | zero =>
      have : j = S.length := by omega
      subst this
      rfl
    | succ i => simp
/-! locals -/
def zD2 (x : Option Value) : Option Value := match x with
  | some (.long _) => none
  | some (.double _) => none
  | y => y
def zS1 : List (Option Value) → Nat → Value → List (Option Value)
  | [], _, _ => []
  | _ :: l, 0, v => some v :: l
  | x :: l, 1, v => zD2 x :: zS1 l 0 v
  | x :: l, n + 2, v => x :: zS1 l (n + 1) v
def zS2 : List (Option Value) → Nat → Value → List (Option Value)
  | [], _, _ => []
  | [_], 0, v => [some v]
  | _ :: _ :: l, 0, v => some v :: none :: l
  | x :: l, 1, v => zD2 x :: zS2 l 0 v
  | x :: l, n + 2, v => x :: zS2 l (n + 1) v
def zLs (ρ : Nat → Nat) (ls : Array Slot) (n : Nat) (L : List (Option Value)) : Prop := ls.size = n ∧ lv_wf ls ∧ ∀ (i : Nat) (v : Value), L[i]? = some (some v) → ls[i]? = some (.val (zV ρ v))
def zAs (ρ : Nat → Nat) : Nat → List (Option Value) → List (Nat × Value)
  | _, [] => []
  | i, none :: l => zAs ρ (i + 1) l
  | i, some v :: l => (i, zV ρ v) :: zAs ρ (i + 1) l
theorem zAs_mem {ρ : Nat → Nat} {L : List (Option Value)} : ∀ {b i : Nat} {v : Value}, L[i]? = some (some v) → (b + i, zV ρ v) ∈ zAs ρ b L := by
  induction L with
  | nil => intro b i v h; simp at h
  | cons x L ih =>
    intro b i v h
    cases i with
    | zero =>
      simp at h
      subst h
      exact List.mem_cons_self
    | succ i =>
      have h2 : L[i]? = some (some v) := by simpa using h
      have h3 := ih (b := b + 1) h2
      rw [show b + 1 + i = b + (i + 1) by omega] at h3
      cases x with
      | none => exact h3
      | some w => exact List.mem_cons_of_mem _ h3
theorem zAs_of {ρ : Nat → Nat} {L : List (Option Value)} : ∀ {b : Nat} {q : Nat × Value}, q ∈ zAs ρ b L → ∃ i v, q = (b + i, zV ρ v) ∧ L[i]? = some (some v) := by
  induction L with
  | nil => intro b q h; cases h
  | cons x L ih =>
    intro b q h
    cases x with
    | none =>
      obtain ⟨i, v, h1, h2⟩ := ih h
      exact ⟨i + 1, v, by rw [h1, show b + 1 + i = b + (i + 1) by omega], by simpa using h2⟩
    | some w =>
      rcases List.mem_cons.mp h with h | h
      · exact ⟨0, w, h, rfl⟩
      · obtain ⟨i, v, h1, h2⟩ := ih h
        exact ⟨i + 1, v, by rw [h1, show b + 1 + i = b + (i + 1) by omega], by simpa using h2⟩
theorem zLs.has {ρ : Nat → Nat} {ls : Array Slot} {n : Nat} {L : List (Option Value)} (h : zLs ρ ls n L) : lv_has ls n (zAs ρ 0 L) := by
  refine ⟨h.1, h.2.1, fun q hq => ?_⟩
  obtain ⟨i, v, rfl, h2⟩ := zAs_of hq
  rw [Nat.zero_add]
  exact h.2.2 i v h2
theorem zD2_some {x : Option Value} {v : Value} (h : zD2 x = some v) : x = some v ∧ ¬ v.category = 2 := by
  unfold zD2 at h
  split at h
  · cases h
  · cases h
  · rename_i h1 h2
    refine ⟨h, ?_⟩
    subst h
    cases v <;> simp [Value.category] at h1 h2 ⊢
theorem zS1_at : ∀ (L : List (Option Value)) (i j : Nat) (v w : Value), (zS1 L i v)[j]? = some (some w) → (j = i ∧ w = v) ∨ (j ≠ i ∧ L[j]? = some (some w) ∧ ¬ (j + 1 = i ∧ w.category = 2)) := by
  intro L
  induction L with
  | nil => intro i j v w h; simp [zS1] at h
  | cons x L ih =>
    intro i j v w h
    match i with
    | 0 =>
      simp only [zS1] at h
      cases j with
      | zero => left; simp at h; exact ⟨rfl, h.symm⟩
      | succ j => right; exact ⟨by omega, by simpa using h, by omega⟩
    | 1 =>
      simp only [zS1] at h
      cases j with
      | zero =>
        right
        simp at h
        obtain ⟨h1, h2⟩ := zD2_some h
        exact ⟨by omega, by simp [h1], fun z => h2 z.2⟩
      | succ j =>
        have h2 : (zS1 L 0 v)[j]? = some (some w) := by simpa using h
        rcases ih 0 j v w h2 with ⟨h3, h4⟩ | ⟨h3, h4, h5⟩
        · left; exact ⟨by omega, h4⟩
        · right; exact ⟨by omega, by simpa using h4, by omega⟩
    | n + 2 =>
      simp only [zS1] at h
      cases j with
      | zero => right; exact ⟨by omega, by simpa using h, by omega⟩
      | succ j =>
        have h2 : (zS1 L (n + 1) v)[j]? = some (some w) := by simpa using h
        rcases ih (n + 1) j v w h2 with ⟨h3, h4⟩ | ⟨h3, h4, h5⟩
        · left; exact ⟨by omega, h4⟩
        · right; exact ⟨by omega, by simpa using h4, fun z => h5 ⟨by omega, z.2⟩⟩
theorem zS2_at : ∀ (L : List (Option Value)) (i j : Nat) (v w : Value), (zS2 L i v)[j]? = some (some w) → (j = i ∧ w = v) ∨ (j ≠ i ∧ j ≠ i + 1 ∧ L[j]? = some (some w) ∧ ¬ (j + 1 = i ∧ w.category = 2)) := by
  intro L
  induction L with
  | nil => intro i j v w h; simp [zS2] at h
  | cons x L ih =>
    intro i j v w h
    match i with
    | 0 =>
      cases L with
      | nil =>
        simp only [zS2] at h
        cases j with
        | zero => left; simp at h; exact ⟨rfl, h.symm⟩
        | succ j => simp at h
      | cons y L =>
        simp only [zS2] at h
        match j with
        | 0 => left; simp at h; exact ⟨rfl, h.symm⟩
        | 1 => simp at h
        | j + 2 => right; exact ⟨by omega, by omega, by simpa using h, by omega⟩
    | 1 =>
      simp only [zS2] at h
      cases j with
      | zero =>
        right
        simp at h
        obtain ⟨h1, h2⟩ := zD2_some h
        exact ⟨by omega, by omega, by simp [h1], fun z => h2 z.2⟩
      | succ j =>
        have h2 : (zS2 L 0 v)[j]? = some (some w) := by simpa using h
        rcases ih 0 j v w h2 with ⟨h3, h4⟩ | ⟨h3, h4, h5, h6⟩
        · left; exact ⟨by omega, h4⟩
        · right; exact ⟨by omega, by omega, by simpa using h5, by omega⟩
    | n + 2 =>
      simp only [zS2] at h
      cases j with
      | zero => right; exact ⟨by omega, by omega, by simpa using h, by omega⟩
      | succ j =>
        have h2 : (zS2 L (n + 1) v)[j]? = some (some w) := by simpa using h
        rcases ih (n + 1) j v w h2 with ⟨h3, h4⟩ | ⟨h3, h4, h5, h6⟩
        · left; exact ⟨by omega, h4⟩
        · right; exact ⟨by omega, by omega, by simpa using h5, fun z => h6 ⟨by omega, z.2⟩⟩
theorem zLs.st1 {ρ : Nat → Nat} {ls : Array Slot} {n i : Nat} {L L' : List (Option Value)} {v : Value} (hL : zS1 L i v = L') (h : lv_has ls n ((i, zV ρ v) :: (zAs ρ 0 L).filter (fun q => !(q.1 == i) && !(q.1 + 1 == i && q.2.category == 2)))) : zLs ρ ls n L' := by
  subst hL
  refine ⟨h.1, h.2.1, fun j w hj => ?_⟩
  rcases zS1_at L i j v w hj with ⟨rfl, rfl⟩ | ⟨h1, h2, h3⟩
  · exact h.2.2 _ List.mem_cons_self
  · refine h.2.2 (j, zV ρ w) (List.mem_cons_of_mem _ (List.mem_filter.mpr ⟨?_, ?_⟩))
    · have := zAs_mem (ρ := ρ) (b := 0) h2
      rwa [Nat.zero_add] at this
    · simp only [zV_cat, Bool.and_eq_true, Bool.not_eq_true', beq_eq_false_iff_ne, ne_eq, Bool.and_eq_false_iff]
      refine ⟨h1, ?_⟩
      by_cases hz : j + 1 = i
      · right; exact fun z => h3 ⟨hz, z⟩
      · left; exact hz
theorem zLs.st2 {ρ : Nat → Nat} {ls : Array Slot} {n i : Nat} {L L' : List (Option Value)} {v : Value} (hL : zS2 L i v = L') (h : lv_has ls n ((i, zV ρ v) :: (zAs ρ 0 L).filter (fun q => !(q.1 == i) && (!(q.1 == i + 1) && !(q.1 + 1 == i && q.2.category == 2))))) : zLs ρ ls n L' := by
  subst hL
  refine ⟨h.1, h.2.1, fun j w hj => ?_⟩
  rcases zS2_at L i j v w hj with ⟨rfl, rfl⟩ | ⟨h1, h1', h2, h3⟩
  · exact h.2.2 _ List.mem_cons_self
  · refine h.2.2 (j, zV ρ w) (List.mem_cons_of_mem _ (List.mem_filter.mpr ⟨?_, ?_⟩))
    · have := zAs_mem (ρ := ρ) (b := 0) h2
      rwa [Nat.zero_add] at this
    · simp only [zV_cat, Bool.and_eq_true, Bool.not_eq_true', beq_eq_false_iff_ne, ne_eq, Bool.and_eq_false_iff]
      refine ⟨h1, h1', ?_⟩
      by_cases hz : j + 1 = i
      · right; exact fun z => h3 ⟨hz, z⟩
      · left; exact hz
/-! a method's first locals -/
def zEx (as : List Value) : List (Option Value) := as.flatMap fun v => if v.category = 2 then [some v, none] else [some v]
def zEt (as : List Value) (n : Nat) : List (Option Value) := zEx as ++ List.replicate (n - (zEx as).length) none
theorem zEx_at {ρ : Nat → Nat} : ∀ (as : List Value) (b i : Nat) (v : Value), (zEx as)[i]? = some (some v) → (b + i, zV ρ v) ∈ lv_args b (as.map (zV ρ)) := by
  intro as
  induction as with
  | nil => intro b i v h; simp [zEx] at h
  | cons x as ih =>
    intro b i v h
    have e : zEx (x :: as) = (if x.category = 2 then [some x, none] else [some x]) ++ zEx as := by simp [zEx]
    rw [e] at h
    rw [List.map_cons, lv_args, zV_cat]
    by_cases hc : x.category = 2
    · rw [if_pos hc] at h ⊢
      match i with
      | 0 => simp at h; subst h; exact List.mem_cons_self
      | 1 => simp at h
      | i + 2 =>
        have h2 : (zEx as)[i]? = some (some v) := by simpa using h
        have h3 := ih (b + 2) i v h2
        rw [show b + 2 + i = b + (i + 2) by omega] at h3
        exact List.mem_cons_of_mem _ h3
    · rw [if_neg hc] at h ⊢
      match i with
      | 0 => simp at h; subst h; exact List.mem_cons_self
      | i + 1 =>
        have h2 : (zEx as)[i]? = some (some v) := by simpa using h
        have h3 := ih (b + 1) i v h2
        rw [show b + 1 + i = b + (i + 1) by omega] at h3
        exact List.mem_cons_of_mem _ h3
theorem zEx_len {ρ : Nat → Nat} (as : List Value) : (lg_sl (as.map (zV ρ))).length = (zEx as).length := by
  induction as with
  | nil => rfl
  | cons x as ih =>
    have e1 : zEx (x :: as) = (if x.category = 2 then [some x, none] else [some x]) ++ zEx as := by simp [zEx]
    have e2 : lg_sl ((x :: as).map (zV ρ)) = (if (zV ρ x).category = 2 then [.val (zV ρ x), .second] else [.val (zV ρ x)]) ++ lg_sl (as.map (zV ρ)) := by simp [lg_sl]
    rw [e1, e2, List.length_append, List.length_append, ih, zV_cat]
    by_cases hc : x.category = 2
    · rw [if_pos hc, if_pos hc]; rfl
    · rw [if_neg hc, if_neg hc]; rfl
theorem zLs_entry {ρ : Nat → Nat} (as : List Value) {n : Nat} {ls : Array Slot} (h : lv_has ls n (lv_args 0 (as.map (zV ρ)))) : zLs ρ ls n (zEt as n) := by
  refine ⟨h.1, h.2.1, fun i v hi => ?_⟩
  unfold zEt at hi
  by_cases hl : i < (zEx as).length
  · rw [List.getElem?_append_left hl] at hi
    have h1 := zEx_at (ρ := ρ) as 0 i v hi
    rw [Nat.zero_add] at h1
    exact h.2.2 _ h1
  · rw [List.getElem?_append_right (by omega)] at hi
    have := List.mem_of_getElem? hi
    have := List.eq_of_mem_replicate this
    cases this
