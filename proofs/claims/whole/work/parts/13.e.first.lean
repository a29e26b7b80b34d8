/-! THE LAW's first steps: the two objects, new -/
def a00 : zMm := fun o i => if o = 1 then 3 else if o = 2 then 3 else if o = 3 then -4 else if o = 4 then ([0, 1, 2, 30, 2, 20, 0, 3] : List Int).getD i.toNat 0 else if o = 30 then -1 else 0
theorem wf00 : WF a00 := by
  refine ⟨fun i i0 i1 => ⟨⟨(by decide : (0 : Int) ≤ 0), (by decide : (0 : Int) ≤ 4)⟩, ⟨(by decide : (0 : Int) ≤ 3), (by decide : (3 : Int) ≤ 60)⟩, ⟨(by decide : (0 : Int) ≤ 3), (by decide : (3 : Int) ≤ 9)⟩, Or.inl rfl, fun c => absurd c (by decide : ¬ (1 : Int) < 0)⟩, ?_, by decide, ?_, ?_, ?_, ?_, ?_⟩
  · exact ⟨by decide, by decide, by decide, by decide, by decide, by decide, by decide, by decide⟩
  · exact ⟨by decide, fun i i0 i1 => absurd i1 (by show ¬ i < 0; omega)⟩
  · exact ⟨by decide, fun i i0 i1 => absurd i1 (by show ¬ i < 0; omega)⟩
  · exact ⟨by decide, by decide⟩
  · exact ⟨Or.inl rfl, Or.inl rfl, fun c => absurd c (by decide), fun c => absurd c (by decide)⟩
  · intro k hk
    have e : a00 (32 + k) = fun _ => 0 := by
      funext i
      unfold a00
      rw [if_neg (by omega), if_neg (by omega), if_neg (by omega), if_neg (by omega), if_neg (by omega)]
    refine ⟨⟨(by decide : (-1 : Int) ≤ -1), (by decide : (-1 : Int) ≤ 2)⟩, ⟨(by decide : (0 : Int) ≤ 0), (by decide : (0 : Int) ≤ 48)⟩, fun i _ _ => ?_⟩
    rw [e]
    exact ⟨(by decide : (-2147483648 : Int) ≤ 0), (by decide : (0 : Int) < 2147483648)⟩
theorem a32 (k : Nat) : a00 (32 + k) = fun _ => 0 := by
  funext i
  unfold a00
  rw [if_neg (by omega), if_neg (by omega), if_neg (by omega), if_neg (by omega), if_neg (by omega)]
theorem cr00 {h : zMm} (w : zNewX11 h) : CR a00 h := by
  obtain ⟨w1, w2, w3, ⟨w4, w5⟩, w6, ⟨w7, w8, w9⟩, w10, w11⟩ := w
  refine ⟨⟨⟨fun i i0 i1 => ⟨(w4 i i0 i1).1, (by decide : (0 : Int) ≤ 0), (by decide : (0 : Int) ≤ 4)⟩, w5⟩, fun i i0 i1 => ⟨(w4 i i0 i1).2.1, (w4 i i0 i1).2.2.2⟩, fun i i0 i1 => (w4 i i0 i1).2.2.1⟩, ⟨w6, fun i i0 i1 => absurd i1 (by show ¬ i < 0; omega)⟩, ⟨w2, fun i i0 i1 => absurd i1 (by show ¬ i < 0; omega)⟩, ⟨w10 0, w10 1, fun c => absurd c (by decide), fun c => absurd c (by decide)⟩, fun k hk => ?_, ⟨w3, w1⟩, ⟨fun i _ _ => w9 i, Or.inl w7, Or.inl w8⟩⟩
  obtain ⟨x1, x2, x3⟩ := w11 k hk
  refine ⟨x1, x2, fun i _ _ => ?_⟩
  rw [x3 i, a32 k]
theorem mr00 {g h : zMm} (g0 : ∀ i : Int, g 81 i = 0) (w : zNewX12 g h) : MR a00 h := by
  obtain ⟨w1, w2, w3, w4, w5, w6, w7⟩ := w
  have e : ∀ i : Int, h 81 i = 0 := fun i => by rw [w1 81 (by decide)]; exact g0 i
  refine ⟨Or.inr ⟨e 21, ⟨fun i i0 i1 => ⟨w4 i, (by decide : (0 : Int) ≤ 0), (by decide : (0 : Int) ≤ 4)⟩, w3, w4 192, fun i i0 i1 => absurd i1 (by show ¬ i < 0; omega), fun i i0 i1 => ⟨rfl, rfl, rfl, rfl, w4 _, w4 _, w4 _⟩⟩, rfl, rfl⟩, ⟨e 1, fun i i0 i1 => absurd i1 (by show ¬ i < 0; omega)⟩, ⟨w5 0, w5 1, fun c => absurd c (by decide), fun c => absurd c (by decide)⟩, fun k hk => ⟨?_, (w6 k hk).2, fun i _ _ => ?_⟩, ⟨e 2, e 50⟩, w2⟩
  · rw [(w6 k hk).1, if_pos (show a00 30 k = -1 from rfl)]
  · rw [w7, a32 k]
