section
theorem wgo_mono {K K' : KK} (hK : ∀ pc ls st al μ, K pc ls st al μ → K' pc ls st al μ) {pc len : Nat} {r : SR} (h : wgo K pc len r) : wgo K' pc len r := by
  unfold wgo at h ⊢
  split at h
  · exact h
  · exact hK _ _ _ _ _ h
  · exact ⟨h.1, hK _ _ _ _ _ h.2⟩
theorem swt_mono {K K' : Int → Prop} (hK : ∀ o, K o → K' o) : ∀ (offs : List Int) (x lo : Int), swt x lo offs K → swt x lo offs K'
  | [], _, _, _ => trivial
  | o :: os, x, lo, h => ⟨fun e => hK o (h.1 e), swt_mono hK os x (lo + 1) h.2⟩
theorem swl_mono {K K' : Int → Prop} {d d' : Prop} (hd : d → d') (hK : ∀ o, K o → K' o) : ∀ (ps : List (Int × Int)) (x : Int), swl x ps d K → swl x ps d' K'
  | [], _, h => hd h
  | q :: ps, x, h => ⟨fun e => hK q.2 (h.1 e), fun e => swl_mono hd hK ps x (h.2 e)⟩
theorem wcall_mono {cl cl' : Nat → QQ → List VV → AL → MM → Prop} (hc : ∀ z (R R' : QQ) as al μ, (∀ x a m, R x a m → R' x a m) → cl z R as al μ → cl' z R' as al μ) {K K' : KK} (hK : ∀ pc ls st al μ, K pc ls st al μ → K' pc ls st al μ) {b : Bool} {y pc n : Nat} {u v : Int} {ls st : List VV} {al : AL} {μ : MM} (h : wcall cl b y K pc n u v ls st al μ) : wcall cl' b y K' pc n u v ls st al μ := by
  unfold wcall at h ⊢
  cases hb : (rcv al b n (st.take u.toNat).reverse && Nat.ble u.toNat st.length && Nat.ble (((st.drop u.toNat).map (fun v => if v.1 = 1 then 2 else 1)).sum) 8 && Nat.blt n 286) with
  | false => rw [hb] at h; exact h
  | true =>
    rw [hb] at h
    simp only [cond_true] at h ⊢
    split at h
    · exact h
    · exact hc _ _ _ _ _ _ (fun x a m q => hK _ _ _ _ _ q) h
theorem wpi_mono {cl cl' : Nat → QQ → List VV → AL → MM → Prop} (hc : ∀ z (R R' : QQ) as al μ, (∀ x a m, R x a m → R' x a m) → cl z R as al μ → cl' z R' as al μ) {Q Q' : QQ} (hQ : ∀ x a m, Q x a m → Q' x a m) {K K' : KK} (hK : ∀ pc ls st al μ, K pc ls st al μ → K' pc ls st al μ) {y pc len n : Nat} {i : Instr} {u v : Int} {ls st : List VV} {al : AL} {μ : MM} (h : wpi cl y Q K pc i len n u v ls st al μ) : wpi cl' y Q' K' pc i len n u v ls st al μ := by
  unfold wpi at h ⊢
  split
  case h_1 => exact hK _ _ _ _ _ h
  case h_2 =>
    simp only at h
    split at h
    · exact ⟨fun q => hK _ _ _ _ _ (h.1 q), fun q => hK _ _ _ _ _ (h.2 q)⟩
    · exact h.elim
  case h_3 =>
    simp only at h
    split at h
    · exact ⟨fun q => hK _ _ _ _ _ (h.1 q), fun q => hK _ _ _ _ _ (h.2 q)⟩
    · exact h.elim
  case h_4 =>
    simp only at h
    split at h
    · exact ⟨swt_mono (fun o => hK _ _ _ _ _) _ _ _ h.1, fun q => hK _ _ _ _ _ (h.2 q)⟩
    · exact h.elim
  case h_5 =>
    simp only at h
    split at h
    · exact swl_mono (hK _ _ _ _ _) (fun o => hK _ _ _ _ _) _ _ h
    · exact h.elim
  case h_6 =>
    simp only at h
    cases ha : aok y al with
    | false => rw [ha] at h; exact h.elim
    | true =>
    rw [ha] at h
    simp only [cond_true] at h ⊢
    split at h
    · split at h
      · exact hQ _ _ _ h
      · exact ⟨h.1, hQ _ _ _ h.2⟩
      · exact ⟨h.1, hQ _ _ _ h.2⟩
      · exact ⟨h.1, hQ _ _ _ h.2⟩
      · exact h.elim
    · exact h.elim
  case h_7 =>
    simp only at h
    cases ha : aok y al with
    | false => rw [ha] at h; exact h.elim
    | true =>
    rw [ha] at h
    simp only [cond_true] at h ⊢
    split at h
    · exact hQ _ _ _ h
    · exact h.elim
  case h_8 =>
    simp only at h
    cases ha : aok y al with
    | false => rw [ha] at h; exact h.elim
    | true =>
    rw [ha] at h
    simp only [cond_true] at h ⊢
    split at h
    · exact hQ _ _ _ h
    · exact h.elim
  case h_9 =>
    simp only at h
    cases ha : aok y al with
    | false => rw [ha] at h; exact h.elim
    | true =>
    rw [ha] at h
    simp only [cond_true] at h ⊢
    split at h
    · exact hQ _ _ _ h
    · exact h.elim
  case h_10 =>
    simp only at h
    cases hb : Nat.blt n 1000 with
    | false =>
      rw [hb] at h
      simp only [cond_false] at h ⊢
      exact wgo_mono hK h
    | true => rw [hb] at h; exact wcall_mono hc hK h
  case h_11 =>
    simp only at h
    cases hb : Nat.blt n 1000 with
    | false =>
      rw [hb] at h
      simp only [cond_false] at h ⊢
      exact wgo_mono hK h
    | true => rw [hb] at h; exact wcall_mono hc hK h
  case h_12 =>
    simp only at h
    cases hb : Nat.blt n 1000 with
    | false =>
      rw [hb] at h
      simp only [cond_false] at h ⊢
      exact wgo_mono hK h
    | true => rw [hb] at h; exact wcall_mono hc hK h
  case h_13 =>
    split at h
    case h_13 => exact wgo_mono hK h
    case h_4 => rename_i q8 q7 q6 q5 q4 q3 q2 q1 q0; exact (q8 _ _ _ _ rfl).elim
    all_goals simp_all
theorem wp1_mono {cl cl' : Nat → QQ → List VV → AL → MM → Prop} (hc : ∀ z (R R' : QQ) as al μ, (∀ x a m, R x a m → R' x a m) → cl z R as al μ → cl' z R' as al μ) {Q Q' : QQ} (hQ : ∀ x a m, Q x a m → Q' x a m) {K K' : KK} (hK : ∀ pc ls st al μ, K pc ls st al μ → K' pc ls st al μ) {y pc : Nat} {ls st : List VV} {al : AL} {μ : MM} (h : wp1 cl y Q K pc ls st al μ) : wp1 cl' y Q' K' pc ls st al μ := by
  unfold wp1 at h ⊢
  generalize (ctA.get y).get pc = e at h ⊢
  obtain ⟨pc', i, len, t, n, u, v⟩ := e
  simp only at h ⊢
  cases hb : Nat.beq pc' pc with
  | false => rw [hb] at h; exact h
  | true => rw [hb] at h; exact wpi_mono hc hQ hK h
theorem Z_mono : Zmono Z := fun y Q Q' pc ls st al μ hQ h P hm hc => hm y Q Q' pc ls st al μ hQ (h P hm hc)
theorem Z_step {y : Nat} {Q : QQ} {pc : Nat} {ls st : List VV} {al : AL} {μ : MM} (hy : y < 286) (h : wp1 (zcl Z) y Q (Z y Q) pc ls st al μ) : Z y Q pc ls st al μ := by
  intro P hm hc
  refine hc y Q pc ls st al μ hy (wp1_mono (cl := zcl Z) (Q := Q) (K := Z y Q) ?_ (fun _ _ _ q => q) ?_ h)
  · intro z R R' as al μ hR q
    exact hm _ R R' _ _ _ _ _ hR (q P hm hc)
  · intro pc ls st al μ q
    exact q P hm hc
/-- a walk of n steps, which stops at the places that 'ct' names -/
def zx (ct : Nat → Bool) (y : Nat) (Q : QQ) : Nat → KK
  | 0 => Z y Q
  | n + 1 => wp1 (zcl Z) y Q (fun pc ls st al μ => bif ct pc then Z y Q pc ls st al μ else zx ct y Q n pc ls st al μ)
theorem zx_Z (ct : Nat → Bool) (y : Nat) (hy : y < 286) (Q : QQ) : ∀ (n pc : Nat) (ls st : List VV) (al : AL) (μ : MM), zx ct y Q n pc ls st al μ → Z y Q pc ls st al μ := by
  intro n
  induction n with
  | zero => exact fun _ _ _ _ _ h => h
  | succ n ih =>
    intro pc ls st al μ h
    have h : wp1 (zcl Z) y Q (fun pc ls st al μ => bif ct pc then Z y Q pc ls st al μ else zx ct y Q n pc ls st al μ) pc ls st al μ := h
    refine Z_step hy (wp1_mono (cl := zcl Z) (cl' := zcl Z) (fun z R R' as al μ hR q => Z_mono _ _ _ _ _ _ _ _ hR q) (fun _ _ _ q => q) ?_ h)
    intro pc ls st al μ q
    cases hb : ct pc with
    | true => rw [hb] at q; exact q
    | false => rw [hb] at q; exact ih _ _ _ _ _ q
end
