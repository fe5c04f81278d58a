section
theorem o_add_eq {a b : Int} (h1 : -2147483648 ≤ a + b) (h2 : a + b < 2147483648) : o_add a b = a + b := by
  unfold o_add
  rw [← Int32.ofInt_add]
  exact i32_to h1 h2
theorem o_mul_eq {a b : Int} (h1 : -2147483648 ≤ a * b) (h2 : a * b < 2147483648) : o_mul a b = a * b := by
  unfold o_mul
  rw [← Int32.ofInt_mul]
  exact i32_to h1 h2
theorem mup_ne {μ : MM} {r i x a b : Int} (h : ¬ a = r) : mup μ r i x a b = μ a b := by
  unfold mup
  rw [if_neg (fun q => h q.1)]
theorem mup_nf {μ : MM} {r i x a b : Int} (h : ¬ b = i) : mup μ r i x a b = μ a b := by
  unfold mup
  rw [if_neg (fun q => h q.2)]
theorem mup_eq {μ : MM} {r i x : Int} : mup μ r i x r i = x := by
  unfold mup
  rw [if_pos ⟨rfl, rfl⟩]
theorem z_fill_10 {Q : QQ} {v : Int} : ∀ (k : Nat) (i : Int) (μ : MM), 0 ≤ i → i + (k : Int) = 8 → (∀ μ' : MM, (∀ a b : Int, ¬ a = 10 → μ' a b = μ a b) → Q 0 (some (14, 0, 0)) μ') → Z 268 Q 5 [vR 10, vI v, vI i, vI 8] [] (some (14, 0, 0)) μ := by
  intro k
  induction k with
  | zero =>
    intro i μ h0 hi hQ
    refine zk_Z _ 268 (by decide) Q _ _ _ _ _ _ (w_fill5_10 ⟨fun _ => hQ μ (fun _ _ _ => rfl), fun hn => absurd (show (8 : Int) ≤ i by omega) hn⟩)
  | succ k ih =>
    intro i μ h0 hi hQ
    refine zk_Z _ 268 (by decide) Q _ _ _ _ _ _ (w_fill5_10 ⟨fun h => absurd h (by omega), fun _ => ⟨⟨h0, by omega⟩, ?_⟩⟩)
    rw [o_add_eq (by omega) (by omega)]
    exact ih (i + 1) (mup μ 10 i v) (by omega) (by omega) (fun μ' h' => hQ μ' (fun a b hab => by rw [h' a b hab, mup_ne hab]))
theorem z_fillA_10 {Q : QQ} {v : Int} {μ : MM} (hQ : ∀ μ' : MM, (∀ a b : Int, ¬ a = 10 → μ' a b = μ a b) → Q 0 (some (14, 0, 0)) μ') : Z 268 Q 0 [vR 10, vI v, vU, vU] [] (some (14, 0, 0)) μ :=
  zk_Z _ 268 (by decide) Q _ _ _ _ _ _ (w_fill0_10 (z_fill_10 8 0 μ (by omega) (by omega) hQ))
theorem z_fill_11 {Q : QQ} {v : Int} : ∀ (k : Nat) (i : Int) (μ : MM), 0 ≤ i → i + (k : Int) = 8 → (∀ μ' : MM, (∀ a b : Int, ¬ a = 11 → μ' a b = μ a b) → Q 0 (some (14, 0, 0)) μ') → Z 268 Q 5 [vR 11, vI v, vI i, vI 8] [] (some (14, 0, 0)) μ := by
  intro k
  induction k with
  | zero =>
    intro i μ h0 hi hQ
    refine zk_Z _ 268 (by decide) Q _ _ _ _ _ _ (w_fill5_11 ⟨fun _ => hQ μ (fun _ _ _ => rfl), fun hn => absurd (show (8 : Int) ≤ i by omega) hn⟩)
  | succ k ih =>
    intro i μ h0 hi hQ
    refine zk_Z _ 268 (by decide) Q _ _ _ _ _ _ (w_fill5_11 ⟨fun h => absurd h (by omega), fun _ => ⟨⟨h0, by omega⟩, ?_⟩⟩)
    rw [o_add_eq (by omega) (by omega)]
    exact ih (i + 1) (mup μ 11 i v) (by omega) (by omega) (fun μ' h' => hQ μ' (fun a b hab => by rw [h' a b hab, mup_ne hab]))
theorem z_fillA_11 {Q : QQ} {v : Int} {μ : MM} (hQ : ∀ μ' : MM, (∀ a b : Int, ¬ a = 11 → μ' a b = μ a b) → Q 0 (some (14, 0, 0)) μ') : Z 268 Q 0 [vR 11, vI v, vU, vU] [] (some (14, 0, 0)) μ :=
  zk_Z _ 268 (by decide) Q _ _ _ _ _ _ (w_fill0_11 (z_fill_11 8 0 μ (by omega) (by omega) hQ))
theorem z_fill_21 {Q : QQ} {v : Int} : ∀ (k : Nat) (i : Int) (μ : MM), 0 ≤ i → i + (k : Int) = 8 → (∀ μ' : MM, (∀ a b : Int, ¬ a = 21 → μ' a b = μ a b) → Q 0 (some (25, 0, 0)) μ') → Z 268 Q 5 [vR 21, vI v, vI i, vI 8] [] (some (25, 0, 0)) μ := by
  intro k
  induction k with
  | zero =>
    intro i μ h0 hi hQ
    refine zk_Z _ 268 (by decide) Q _ _ _ _ _ _ (w_fill5_21 ⟨fun _ => hQ μ (fun _ _ _ => rfl), fun hn => absurd (show (8 : Int) ≤ i by omega) hn⟩)
  | succ k ih =>
    intro i μ h0 hi hQ
    refine zk_Z _ 268 (by decide) Q _ _ _ _ _ _ (w_fill5_21 ⟨fun h => absurd h (by omega), fun _ => ⟨⟨h0, by omega⟩, ?_⟩⟩)
    rw [o_add_eq (by omega) (by omega)]
    exact ih (i + 1) (mup μ 21 i v) (by omega) (by omega) (fun μ' h' => hQ μ' (fun a b hab => by rw [h' a b hab, mup_ne hab]))
theorem z_fillA_21 {Q : QQ} {v : Int} {μ : MM} (hQ : ∀ μ' : MM, (∀ a b : Int, ¬ a = 21 → μ' a b = μ a b) → Q 0 (some (25, 0, 0)) μ') : Z 268 Q 0 [vR 21, vI v, vU, vU] [] (some (25, 0, 0)) μ :=
  zk_Z _ 268 (by decide) Q _ _ _ _ _ _ (w_fill0_21 (z_fill_21 8 0 μ (by omega) (by omega) hQ))
theorem z_fill_22 {Q : QQ} {v : Int} : ∀ (k : Nat) (i : Int) (μ : MM), 0 ≤ i → i + (k : Int) = 8 → (∀ μ' : MM, (∀ a b : Int, ¬ a = 22 → μ' a b = μ a b) → Q 0 (some (25, 0, 0)) μ') → Z 268 Q 5 [vR 22, vI v, vI i, vI 8] [] (some (25, 0, 0)) μ := by
  intro k
  induction k with
  | zero =>
    intro i μ h0 hi hQ
    refine zk_Z _ 268 (by decide) Q _ _ _ _ _ _ (w_fill5_22 ⟨fun _ => hQ μ (fun _ _ _ => rfl), fun hn => absurd (show (8 : Int) ≤ i by omega) hn⟩)
  | succ k ih =>
    intro i μ h0 hi hQ
    refine zk_Z _ 268 (by decide) Q _ _ _ _ _ _ (w_fill5_22 ⟨fun h => absurd h (by omega), fun _ => ⟨⟨h0, by omega⟩, ?_⟩⟩)
    rw [o_add_eq (by omega) (by omega)]
    exact ih (i + 1) (mup μ 22 i v) (by omega) (by omega) (fun μ' h' => hQ μ' (fun a b hab => by rw [h' a b hab, mup_ne hab]))
theorem z_fillA_22 {Q : QQ} {v : Int} {μ : MM} (hQ : ∀ μ' : MM, (∀ a b : Int, ¬ a = 22 → μ' a b = μ a b) → Q 0 (some (25, 0, 0)) μ') : Z 268 Q 0 [vR 22, vI v, vU, vU] [] (some (25, 0, 0)) μ :=
  zk_Z _ 268 (by decide) Q _ _ _ _ _ _ (w_fill0_22 (z_fill_22 8 0 μ (by omega) (by omega) hQ))
theorem z_fill_38 {Q : QQ} {v : Int} : ∀ (k : Nat) (i : Int) (μ : MM), 0 ≤ i → i + (k : Int) = 240 → (∀ μ' : MM, (∀ a b : Int, ¬ a = 38 → μ' a b = μ a b) → Q 0 (some (43, 0, 0)) μ') → Z 268 Q 5 [vR 38, vI v, vI i, vI 240] [] (some (43, 0, 0)) μ := by
  intro k
  induction k with
  | zero =>
    intro i μ h0 hi hQ
    refine zk_Z _ 268 (by decide) Q _ _ _ _ _ _ (w_fill5_38 ⟨fun _ => hQ μ (fun _ _ _ => rfl), fun hn => absurd (show (240 : Int) ≤ i by omega) hn⟩)
  | succ k ih =>
    intro i μ h0 hi hQ
    refine zk_Z _ 268 (by decide) Q _ _ _ _ _ _ (w_fill5_38 ⟨fun h => absurd h (by omega), fun _ => ⟨⟨h0, by omega⟩, ?_⟩⟩)
    rw [o_add_eq (by omega) (by omega)]
    exact ih (i + 1) (mup μ 38 i v) (by omega) (by omega) (fun μ' h' => hQ μ' (fun a b hab => by rw [h' a b hab, mup_ne hab]))
theorem z_fillA_38 {Q : QQ} {v : Int} {μ : MM} (hQ : ∀ μ' : MM, (∀ a b : Int, ¬ a = 38 → μ' a b = μ a b) → Q 0 (some (43, 0, 0)) μ') : Z 268 Q 0 [vR 38, vI v, vU, vU] [] (some (43, 0, 0)) μ :=
  zk_Z _ 268 (by decide) Q _ _ _ _ _ _ (w_fill0_38 (z_fill_38 240 0 μ (by omega) (by omega) hQ))
theorem z_fill_40 {Q : QQ} {v : Int} : ∀ (k : Nat) (i : Int) (μ : MM), 0 ≤ i → i + (k : Int) = 240 → (∀ μ' : MM, (∀ a b : Int, ¬ a = 40 → μ' a b = μ a b) → Q 0 (some (43, 0, 0)) μ') → Z 268 Q 5 [vR 40, vI v, vI i, vI 240] [] (some (43, 0, 0)) μ := by
  intro k
  induction k with
  | zero =>
    intro i μ h0 hi hQ
    refine zk_Z _ 268 (by decide) Q _ _ _ _ _ _ (w_fill5_40 ⟨fun _ => hQ μ (fun _ _ _ => rfl), fun hn => absurd (show (240 : Int) ≤ i by omega) hn⟩)
  | succ k ih =>
    intro i μ h0 hi hQ
    refine zk_Z _ 268 (by decide) Q _ _ _ _ _ _ (w_fill5_40 ⟨fun h => absurd h (by omega), fun _ => ⟨⟨h0, by omega⟩, ?_⟩⟩)
    rw [o_add_eq (by omega) (by omega)]
    exact ih (i + 1) (mup μ 40 i v) (by omega) (by omega) (fun μ' h' => hQ μ' (fun a b hab => by rw [h' a b hab, mup_ne hab]))
theorem z_fillA_40 {Q : QQ} {v : Int} {μ : MM} (hQ : ∀ μ' : MM, (∀ a b : Int, ¬ a = 40 → μ' a b = μ a b) → Q 0 (some (43, 0, 0)) μ') : Z 268 Q 0 [vR 40, vI v, vU, vU] [] (some (43, 0, 0)) μ :=
  zk_Z _ 268 (by decide) Q _ _ _ _ _ _ (w_fill0_40 (z_fill_40 240 0 μ (by omega) (by omega) hQ))
theorem z_strip_3 {Q : QQ} {μ : MM} (e1 : μ 3 8 = 10) (e2 : μ 3 9 = 11) (hQ : ∀ μ' : MM, Q 0 (some (14, 0, 0)) μ') : Z 2 Q 0 [vR 3] [] (some (14, 0, 0)) μ := by
  have z0 : ∀ {n pc : Nat} {ct : Nat → Bool} {ls st : List VV} {al : AL} {μ : MM}, zk ct (zcl Z) 2 Q (Z 2 Q) n pc ls st al μ → Z 2 Q pc ls st al μ := fun h => zk_Z _ 2 (by decide) Q _ _ _ _ _ _ h
  refine z0 (w_strip0_3 ?_)
  have e3 : (mup (mup μ 3 1 0) 3 7 0) 3 8 = 10 := by rw [mup_nf (by decide), mup_nf (by decide)]; exact e1
  have e4 : (mup (mup μ 3 1 0) 3 7 0) 3 9 = 11 := by rw [mup_nf (by decide), mup_nf (by decide)]; exact e2
  rw [e3]
  generalize mup (mup μ 3 1 0) 3 7 0 = m1 at e3 e4
  refine z0 (w_strip14_3 ?_)
  show Z 268 _ 0 [vR 10, vI 2, vU, vU] [] (some (14, 0, 0)) m1
  refine z_fillA_10 (fun m2 h2 => ?_)
  show Z 2 Q 18 [vR 3] [] (some (14, 0, 0)) m2
  have f3 : m2 3 8 = 10 := by rw [h2 3 8 (by decide)]; exact e3
  have f4 : m2 3 9 = 11 := by rw [h2 3 9 (by decide)]; exact e4
  refine z0 (w_strip18_3 ?_)
  rw [f4]
  refine z0 (w_strip22_3 ?_)
  show Z 268 _ 0 [vR 11, vI 3, vU, vU] [] (some (14, 0, 0)) m2
  refine z_fillA_11 (fun m3 h3 => ?_)
  show Z 2 Q 26 [vR 3] [] (some (14, 0, 0)) m3
  have g3 : m3 3 8 = 10 := by rw [h3 3 8 (by decide)]; exact f3
  have g4 : m3 3 9 = 11 := by rw [h3 3 9 (by decide)]; exact f4
  refine z0 (w_strip26_3 ?_)
  rw [g3]
  refine z0 (w_strip30_3 ⟨⟨by decide, by decide⟩, ?_⟩)
  rw [mup_ne (by decide), g3]
  refine z0 (w_strip37_3 ⟨⟨by decide, by decide⟩, ?_⟩)
  rw [mup_ne (by decide), mup_ne (by decide), g4]
  refine z0 (w_strip45_3 ⟨⟨by decide, by decide⟩, ?_⟩)
  rw [mup_ne (by decide), mup_ne (by decide), mup_ne (by decide), g4]
  exact z0 (w_strip52_3 ⟨⟨by decide, by decide⟩, hQ _⟩)
theorem z_cus_3 {Q : QQ} {μ : MM} (hQ : ∀ μ' : MM, Q 0 (some (14, 10, 1142)) μ') : Z 1 Q 0 [vR 3] [] (some (4, 0, 0)) μ := by
  refine zk_Z _ 1 (by decide) Q _ _ _ _ _ _ (w_cus0_3 ?_)
  show Z 2 _ 0 [vR 3] [] (some (14, 0, 0)) _
  refine z_strip_3 ?_ ?_ (fun m1 => ?_)
  · rw [mup_nf (by decide), mup_nf (by decide), mup_nf (by decide), mup_eq]
  · rw [mup_nf (by decide), mup_nf (by decide), mup_eq]
  · show Z 1 Q 90 [vR 3] [] (some (14, 10, 1142)) m1
    exact zk_Z _ 1 (by decide) Q _ _ _ _ _ _ (w_cus90_3 (hQ m1))
theorem z_strip_14 {Q : QQ} {μ : MM} (e1 : μ 14 8 = 21) (e2 : μ 14 9 = 22) (hQ : ∀ μ' : MM, Q 0 (some (25, 0, 0)) μ') : Z 2 Q 0 [vR 14] [] (some (25, 0, 0)) μ := by
  have z0 : ∀ {n pc : Nat} {ct : Nat → Bool} {ls st : List VV} {al : AL} {μ : MM}, zk ct (zcl Z) 2 Q (Z 2 Q) n pc ls st al μ → Z 2 Q pc ls st al μ := fun h => zk_Z _ 2 (by decide) Q _ _ _ _ _ _ h
  refine z0 (w_strip0_14 ?_)
  have e3 : (mup (mup μ 14 1 0) 14 7 0) 14 8 = 21 := by rw [mup_nf (by decide), mup_nf (by decide)]; exact e1
  have e4 : (mup (mup μ 14 1 0) 14 7 0) 14 9 = 22 := by rw [mup_nf (by decide), mup_nf (by decide)]; exact e2
  rw [e3]
  generalize mup (mup μ 14 1 0) 14 7 0 = m1 at e3 e4
  refine z0 (w_strip14_14 ?_)
  show Z 268 _ 0 [vR 21, vI 2, vU, vU] [] (some (25, 0, 0)) m1
  refine z_fillA_21 (fun m2 h2 => ?_)
  show Z 2 Q 18 [vR 14] [] (some (25, 0, 0)) m2
  have f3 : m2 14 8 = 21 := by rw [h2 14 8 (by decide)]; exact e3
  have f4 : m2 14 9 = 22 := by rw [h2 14 9 (by decide)]; exact e4
  refine z0 (w_strip18_14 ?_)
  rw [f4]
  refine z0 (w_strip22_14 ?_)
  show Z 268 _ 0 [vR 22, vI 3, vU, vU] [] (some (25, 0, 0)) m2
  refine z_fillA_22 (fun m3 h3 => ?_)
  show Z 2 Q 26 [vR 14] [] (some (25, 0, 0)) m3
  have g3 : m3 14 8 = 21 := by rw [h3 14 8 (by decide)]; exact f3
  have g4 : m3 14 9 = 22 := by rw [h3 14 9 (by decide)]; exact f4
  refine z0 (w_strip26_14 ?_)
  rw [g3]
  refine z0 (w_strip30_14 ⟨⟨by decide, by decide⟩, ?_⟩)
  rw [mup_ne (by decide), g3]
  refine z0 (w_strip37_14 ⟨⟨by decide, by decide⟩, ?_⟩)
  rw [mup_ne (by decide), mup_ne (by decide), g4]
  refine z0 (w_strip45_14 ⟨⟨by decide, by decide⟩, ?_⟩)
  rw [mup_ne (by decide), mup_ne (by decide), mup_ne (by decide), g4]
  exact z0 (w_strip52_14 ⟨⟨by decide, by decide⟩, hQ _⟩)
theorem z_cus_14 {Q : QQ} {μ : MM} (hQ : ∀ μ' : MM, Q 0 (some (25, 10, 1142)) μ') : Z 1 Q 0 [vR 14] [] (some (15, 0, 0)) μ := by
  refine zk_Z _ 1 (by decide) Q _ _ _ _ _ _ (w_cus0_14 ?_)
  show Z 2 _ 0 [vR 14] [] (some (25, 0, 0)) _
  refine z_strip_14 ?_ ?_ (fun m1 => ?_)
  · rw [mup_nf (by decide), mup_nf (by decide), mup_nf (by decide), mup_eq]
  · rw [mup_nf (by decide), mup_nf (by decide), mup_eq]
  · show Z 1 Q 90 [vR 14] [] (some (25, 10, 1142)) m1
    exact zk_Z _ 1 (by decide) Q _ _ _ _ _ _ (w_cus90_14 (hQ m1))
theorem z_cellOn {Q : QQ} {a b : Int} {w : Nat} {μ : MM} (hQ : ∀ x : Int, Q x (some (w, 0, 0)) μ) : Z 32 Q 0 [vI a, vI b, vU, vU] [] (some (w, 0, 0)) μ :=
  zk_Z _ 32 (by decide) Q _ _ _ _ _ _ (w_cellOn (by
    refine ⟨by decide, by decide, by decide, ⟨?_, ?_, ?_, ?_, ?_, trivial⟩, ?_⟩ <;> exact fun _ => ⟨fun _ => hQ _, fun _ => hQ _⟩))
theorem z_min {Q : QQ} {a b : Int} {w : Nat} {μ : MM} (hQ : ∀ x : Int, Q x (some (w, 0, 0)) μ) : Z 269 Q 0 [vI a, vI b] [] (some (w, 0, 0)) μ :=
  zk_Z _ 269 (by decide) Q _ _ _ _ _ _ (w_min ⟨fun _ => hQ _, fun _ => hQ _⟩)
theorem z_max {Q : QQ} {a b : Int} {w : Nat} {μ : MM} (hQ : ∀ x : Int, Q x (some (w, 0, 0)) μ) : Z 270 Q 0 [vI a, vI b] [] (some (w, 0, 0)) μ :=
  zk_Z _ 270 (by decide) Q _ _ _ _ _ _ (w_max ⟨fun _ => hQ _, fun _ => hQ _⟩)
theorem z_gap {Q : QQ} {a b : Int} {w : Nat} {μ : MM} (hQ : ∀ x : Int, Q x (some (w, 0, 0)) μ) : Z 33 Q 0 [vI a, vI b, vU, vU] [] (some (w, 0, 0)) μ := by
  refine zk_Z _ 33 (by decide) Q _ _ _ _ _ _ (w_gap0 ?_)
  show Z 269 _ 0 [vI a, vI b] [] (some (w, 0, 0)) μ
  refine z_min (fun x => ?_)
  show Z 33 Q 5 [vI a, vI b, vU, vU] [vI x] (some (w, 0, 0)) μ
  refine zk_Z _ 33 (by decide) Q _ _ _ _ _ _ (w_gap5 ?_)
  show Z 270 _ 0 [vI a, vI b] [] (some (w, 0, 0)) μ
  refine z_max (fun o => ?_)
  show Z 33 Q 11 [vI a, vI b, vI x, vU] [vI o] (some (w, 0, 0)) μ
  have h8 : ¬ (8 : Int) = 0 := by decide
  have h6 : ¬ (6 : Int) = 0 := by decide
  have tl : ((¬ ((o_sub o x) : Int) = 8) → (Q (-1) (some (w, 0, 0)) μ)) ∧ ((¬ (¬ ((o_sub o x) : Int) = 8)) → ((¬ (8 : Int) = 0) ∧ ((¬ (6 : Int) = 0) ∧ ((((5 : Int) ≤ ((o_rem (o_div x 8) 6) : Int)) → (Q (-1) (some (w, 0, 0)) μ)) ∧ ((¬ ((5 : Int) ≤ ((o_rem (o_div x 8) 6) : Int))) → (Q (o_add (o_mul 2 x) 1) (some (w, 0, 0)) μ)))))) := ⟨fun _ => hQ _, fun _ => ⟨h8, h6, fun _ => hQ _, fun _ => hQ _⟩⟩
  exact zk_Z _ 33 (by decide) Q _ _ _ _ _ _ (w_gap11 ⟨fun _ => tl, fun _ => ⟨h8, fun _ => tl, fun _ => hQ _⟩⟩)
/-- one place of the inner loop, and on -/
theorem z_in {Q : QQ} {i : Int} (hi0 : 0 ≤ i) (hi1 : i < 240) (hK : ∀ m' : MM, m' 25 0 = 26 → m' 25 1 = 27 → Z 31 Q 33 [vR 25, vI (i + 1), vU, vU] [] (some (29, 3, 3360)) m') : ∀ (k : Nat) (j : Int) (q : VV) (μ : MM), 0 ≤ j → j + (k : Int) = 6 → μ 25 0 = 26 → μ 25 1 = 27 → Z 31 Q 42 [vR 25, vI i, vI j, q] [] (some (29, 3, 3360)) μ := by
  have z0 : ∀ {n pc : Nat} {ct : Nat → Bool} {ls st : List VV} {al : AL} {μ : MM}, zk ct (zcl Z) 31 Q (Z 31 Q) n pc ls st al μ → Z 31 Q pc ls st al μ := fun h => zk_Z _ 31 (by decide) Q _ _ _ _ _ _ h
  intro k
  induction k with
  | zero =>
    intro j q μ h0 hj e0 e1
    refine z0 (w_grid42 ⟨fun _ => ?_, fun hn => absurd (show (6 : Int) ≤ j by omega) hn⟩)
    rw [o_add_eq (by omega) (by omega)]
    exact hK μ e0 e1
  | succ k ih =>
    intro j q μ h0 hj e0 e1
    refine z0 (w_grid42 ⟨fun h => absurd h (by omega), fun _ => ?_⟩)
    show Z 32 _ 0 [vI i, vI j, vU, vU] [] (some (29, 0, 0)) μ
    refine z_cellOn (fun x => ?_)
    show Z 31 Q 53 [vR 25, vI i, vI j, vU] [vI x] (some (29, 3, 3360)) μ
    refine z0 (w_grid53 ?_)
    rw [e0]
    have eo : o_add (o_mul i 6) j = i * 6 + j := by rw [o_mul_eq (by omega) (by omega), o_add_eq (by omega) (by omega)]
    refine z0 (w_grid58 ⟨by rw [eo]; omega, ?_⟩)
    rw [mup_ne (by decide), e1]
    have f0 : mup μ 26 (o_add (o_mul i 6) j) x 25 0 = 26 := by rw [mup_ne (by decide)]; exact e0
    have f1 : mup μ 26 (o_add (o_mul i 6) j) x 25 1 = 27 := by rw [mup_ne (by decide)]; exact e1
    generalize mup μ 26 (o_add (o_mul i 6) j) x = m1 at f0 f1
    have tl : ∀ o : Int, Z 31 Q 90 [vR 25, vI i, vI j, vI x] [vI o, vI (o_add (o_mul i 6) j), vR 27] (some (29, 3, 3360)) m1 := by
      intro o
      refine z0 (w_grid90 ⟨by rw [eo]; omega, ?_⟩)
      rw [o_add_eq (a := j) (b := 1) (by omega) (by omega)]
      exact ih (j + 1) vU _ (by omega) (by omega) (by rw [mup_ne (by decide)]; exact f0) (by rw [mup_ne (by decide)]; exact f1)
    refine z0 (w_grid70 ⟨fun _ => ?_, fun _ => tl _⟩)
    show Z 33 _ 0 [vI i, vI x, vU, vU] [] (some (29, 0, 0)) m1
    exact z_gap (fun o => tl o)
theorem z_out {Q : QQ} (hQ : ∀ μ' : MM, Q 0 (some (29, 3, 3360)) μ') : ∀ (k : Nat) (i : Int) (p q : VV) (μ : MM), 0 ≤ i → i + (k : Int) = 240 → μ 25 0 = 26 → μ 25 1 = 27 → Z 31 Q 33 [vR 25, vI i, p, q] [] (some (29, 3, 3360)) μ := by
  intro k
  induction k with
  | zero =>
    intro i p q μ h0 hi e0 e1
    exact zk_Z _ 31 (by decide) Q _ _ _ _ _ _ (w_grid33 ⟨fun _ => hQ _, fun hn => absurd (show (240 : Int) ≤ i by omega) hn⟩)
  | succ k ih =>
    intro i p q μ h0 hi e0 e1
    refine zk_Z _ 31 (by decide) Q _ _ _ _ _ _ (w_grid33 ⟨fun h => absurd h (by omega), fun _ => ?_⟩)
    exact z_in h0 (by omega) (fun m' f0 f1 => ih (i + 1) vU vU m' (by omega) (by omega) f0 f1) 6 0 vU μ (by omega) (by omega) e0 e1
theorem z_grid {Q : QQ} {μ : MM} (hQ : ∀ μ' : MM, Q 0 (some (29, 3, 3360)) μ') : Z 31 Q 0 [vR 25, vU, vU, vU] [] (some (26, 0, 0)) μ := by
  refine zk_Z _ 31 (by decide) Q _ _ _ _ _ _ (w_grid0 ?_)
  exact z_out hQ 240 0 vU vU _ (by omega) (by omega) (by rw [mup_nf (by decide), mup_nf (by decide), mup_eq]) (by rw [mup_nf (by decide), mup_eq])
theorem z_notes {Q : QQ} {μ : MM} (hQ : ∀ μ' : MM, Q 0 (some (43, 13, 3540)) μ') : Z 53 Q 0 [vR 29] [] (some (30, 0, 0)) μ := by
  have z0 : ∀ {n pc : Nat} {ct : Nat → Bool} {ls st : List VV} {al : AL} {μ : MM}, zk ct (zcl Z) 53 Q (Z 53 Q) n pc ls st al μ → Z 53 Q pc ls st al μ := fun h => zk_Z _ 53 (by decide) Q _ _ _ _ _ _ h
  refine z0 (w_notes0 ?_)
  generalize hm : mup (mup (mup (mup (mup (mup (mup (mup (mup (mup (mup (mup (mup μ 29 0 30) 29 1 31) 29 2 32) 29 3 33) 29 4 34) 29 5 35) 29 6 36) 29 9 37) 29 10 38) 29 11 39) 29 12 40) 29 13 41) 29 14 42 = m1
  have e0 : m1 29 10 = 38 := by rw [← hm, mup_nf (by decide), mup_nf (by decide), mup_nf (by decide), mup_nf (by decide), mup_eq]
  have e1 : m1 29 12 = 40 := by rw [← hm, mup_nf (by decide), mup_nf (by decide), mup_eq]
  rw [e0]
  refine z0 (w_notes125 ?_)
  show Z 268 _ 0 [vR 38, vI (-1), vU, vU] [] (some (43, 0, 0)) m1
  refine z_fillA_38 (fun m2 h2 => ?_)
  show Z 53 Q 129 [vR 29] [] (some (43, 13, 3540)) m2
  refine z0 (w_notes129 ?_)
  rw [h2 29 12 (by decide), e1]
  refine z0 (w_notes133 ?_)
  show Z 268 _ 0 [vR 40, vI (-1), vU, vU] [] (some (43, 0, 0)) m2
  refine z_fillA_40 (fun m3 h3 => ?_)
  show Z 53 Q 137 [vR 29] [] (some (43, 13, 3540)) m3
  exact z0 (w_notes137 (hQ m3))
theorem z_walks {Q : QQ} {q : Int} {μ : MM} (hQ : ∀ μ' : MM, Q 0 (some (53, 9, 2160)) μ') : Z 87 Q 0 [vR 43, vR q] [] (some (44, 0, 0)) μ :=
  zk_Z _ 87 (by decide) Q _ _ _ _ _ _ (w_walks (hQ _))
end
