section
set_option maxRecDepth 10000 in
theorem ex_isCell (Q : QQ) (x : Int) (al : AL) (μ : MM) (h : (x < 0 → Q 0 al μ) ∧ (¬ x < 0 → (240 ≤ x → Q 0 al μ) ∧ (¬ 240 ≤ x → Q 1 al μ))) : Z mSx_isCell Q 0 [vI x] [] al μ := by
  refine zx_Z (fun _ => false) mSx_isCell (by decide) Q 20 _ _ _ _ _ ?_
  exact ⟨fun a => ⟨Or.inl rfl, h.1 a⟩, fun a => ⟨fun b => ⟨Or.inl rfl, (h.2 a).1 b⟩, fun b => ⟨Or.inr rfl, (h.2 a).2 b⟩⟩⟩
set_option maxRecDepth 10000 in
theorem ex_find (Q : QQ) (c d k b f i : Int) (u1 u2 : VV) (μ : MM) (h : (μ 29 7 ≤ i → Q b none μ) ∧ (¬ μ 29 7 ≤ i → (0 ≤ i ∧ i < 300) ∧ False)) : Z mNo_find Q 9 [vR 29, vI c, vI d, vI k, vI b, vI f, vI i] [] none μ := by
  refine zx_Z (fun p => Nat.beq p 9) mNo_find (by decide) Q 12 _ _ _ _ _ ?_
  exact ⟨fun a => h.1 a, fun a => ⟨(h.2 a).1, (h.2 a).2.elim⟩⟩
end
