section
variable {l : Launch} {g : GG}
theorem loads_dies {q : Int} {μ : MM} : WX l g 42 (PhC g) 0 [vR 53, vR q] [] (some (54, 0, 0)) μ :=
  zk_WX _ (by decide) (fun _ _ _ _ _ h => h) _ _ _ _ _ _ (w_loads (cl_dies (by decide)))
theorem six_dec : decode (mB 113) 86 = .ok (.invokespecial 52, 3) := by decide +kernel
theorem six_chk : chkCall 113 52 42 2 3 true = true := by decide +kernel
theorem law_dec : decode (mB 0) 4 = .ok (.invokespecial 9, 3) := by decide +kernel
theorem law_chk : chkCall 0 9 113 1 3 true = true := by decide +kernel
theorem nm_42 : (mN 42).name = "<init>" ∧ mRt 42 = none ∧ plainName (mN 42).cls = true ∧ mcT.get 42 = 4 := by decide +kernel
theorem nm_113 : (mN 113).name = "<init>" ∧ mRt 113 = none ∧ plainName (mN 113).cls = true ∧ mcT.get 113 = 11 := by decide +kernel
/-- the constructor of the object comes to the call of clone(), and never back -/
theorem six_dies {μ : MM} : WX l g 113 (PhC g) 0 [vR 1] [] (some (2, 0, 0)) μ := by
  have z0 : ∀ {n pc : Nat} {ct : Nat → Bool} {ls st : List VV} {al : AL} {μ : MM}, zk ct (zcl Z) 113 QF (WX l g 113 (PhC g)) n pc ls st al μ → WX l g 113 (PhC g) pc ls st al μ := fun h => zk_WX _ (by decide) (fun _ _ _ _ _ h => h) _ _ _ _ _ _ h
  refine z0 (w_six0 ?_)
  show Z 1 _ 0 [vR 3] [] (some (4, 0, 0)) _
  refine z_cus_3 (fun m1 => ?_)
  show WX l g 113 (PhC g) 21 [vR 1] [vR 3, vR 1] (some (14, 12, 1654)) m1
  refine z0 (w_six21 ?_)
  show Z 1 _ 0 [vR 14] [] (some (15, 0, 0)) _
  refine z_cus_14 (fun m2 => ?_)
  show WX l g 113 (PhC g) 32 [vR 1] [vR 14, vR 1] (some (25, 23, 2808)) m2
  refine z0 (w_six32 ?_)
  show Z 31 _ 0 [vR 25, vU, vU, vU] [] (some (26, 0, 0)) _
  refine z_grid (fun m3 => ?_)
  show WX l g 113 (PhC g) 48 [vR 1] [vR 25, vR 1] (some (29, 27, 6171)) m3
  refine z0 (w_six48 ?_)
  show Z 53 _ 0 [vR 29] [] (some (30, 0, 0)) _
  refine z_notes (fun m4 => ?_)
  show WX l g 113 (PhC g) 59 [vR 1] [vR 29, vR 1] (some (43, 41, 9726)) m4
  refine z0 (w_six59 ?_)
  show Z 87 _ 0 [vR 43, vR _] [] (some (44, 0, 0)) _
  refine z_walks (fun m5 => ?_)
  show WX l g 113 (PhC g) 74 [vR 1] [vR 43, vR 1] (some (53, 51, 11898)) m5
  refine z0 (w_six74 ?_)
  exact ws_die (K := fun _ _ _ _ _ => True) (by decide) six_dec six_chk nm_42.1 (by rw [nm_42.2.2.2]; decide) nm_42.2.1 nm_42.2.2.1 (show WX l g 42 (PhC g) 0 [vR 53, vR _] [] (some (54, 0, 0)) _ from loads_dies)
theorem law_dies {μ : MM} : WX l g 0 (PhC g) 0 [vR 3000, vU, vU, vU] [] (some (1, 0, 0)) μ :=
  zk_WX _ (by decide) (fun _ _ _ _ _ h => h) _ _ _ _ _ _ (w_law (ws_die (K := fun _ _ _ _ _ => True) (by decide) law_dec law_chk nm_113.1 (by rw [nm_113.2.2.2]; decide) nm_113.2.1 nm_113.2.2.1 (show WX l g 113 (PhC g) 0 [vR 1] [] (some (2, 0, 0)) _ from six_dies)))
end
