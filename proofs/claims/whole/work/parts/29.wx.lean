section
variable {l : Launch} {g : GG} {y : Nat} {Φ : PHI}
/-! a walk that comes to an end of another kind than a return -/
def QF : QQ := fun _ _ _ => False
theorem snd_x (hy : y < 286) {i : Instr} {len n pc : Nat} {u v : Int} (hd : decode (mB y) pc = .ok (i, len)) (hln : (Nat.beq (lnI i) 0 || Nat.beq (lnI i) len) = true) (hx : chkX y pc i len n u v = true) {ls st : List VV} {al : AL} {μ : MM} (h : wpi (zcl (WS l g)) y QF (WX l g y Φ) pc i len n u v ls st al μ) : WX l g y Φ pc ls st al μ := by
  cases i with
  | goto o =>
    cases ln_of (k := 3) hln rfl (by decide)
    have hx : (pc : Int) + o = (n : Int) := of_decide_eq_true hx
    have h : WX l g y Φ n ls st al μ := h
    intro p e R s m args below meth cd H locs cells slots mc ms lc q1 q2 q3 q4 q5 q6
    exact lv_goto q1.1 q1.2.1 hd hx (h p e R s m args below meth cd H locs cells slots mc ms lc q1 q2 q3 q4 q5 q6)
  | ifCond c o =>
    cases ln_of (k := 3) hln rfl (by decide)
    unfold wpi at h
    simp only at h
    split at h
    · exact ws_if hd (of_decide_eq_true hx) h
    · exact h.elim
  | if_icmp c o =>
    cases ln_of (k := 3) hln rfl (by decide)
    unfold wpi at h
    simp only at h
    split at h
    · exact ws_icmp hd (of_decide_eq_true hx) h
    · exact h.elim
  | tableswitch d lo hi offs =>
    unfold chkX at hx
    simp only [Bool.and_eq_true, decide_eq_true_eq] at hx
    unfold wpi at h
    simp only at h
    split at h
    · exact ws_table hd hx.1.1 hx.1.2 hx.2 h
    · exact h.elim
  | lookupswitch d ps =>
    unfold chkX at hx
    simp only [Bool.and_eq_true, decide_eq_true_eq] at hx
    unfold wpi at h
    simp only at h
    split at h
    · exact ws_look hd hx.1.1 hx.1.2 hx.2 h
    · exact h.elim
  | ireturn =>
    exfalso
    unfold wpi at h
    simp only at h
    cases ha : aok y al with
    | false => rw [ha] at h; exact h
    | true =>
      rw [ha] at h
      simp only [cond_true] at h
      split at h
      · split at h
        · exact h
        · exact h.2
        · exact h.2
        · exact h.2
        · exact h
      · exact h
  | lreturn =>
    exfalso
    unfold wpi at h
    simp only at h
    cases ha : aok y al with
    | false => rw [ha] at h; exact h
    | true =>
      rw [ha] at h
      simp only [cond_true] at h
      split at h
      · exact h
      · exact h
  | areturn =>
    exfalso
    unfold wpi at h
    simp only at h
    cases ha : aok y al with
    | false => rw [ha] at h; exact h
    | true =>
      rw [ha] at h
      simp only [cond_true] at h
      split at h
      · exact h
      · exact h
  | return_ =>
    exfalso
    unfold wpi at h
    simp only at h
    cases ha : aok y al with
    | false => rw [ha] at h; exact h
    | true =>
      rw [ha] at h
      simp only [cond_true] at h
      split at h
      · exact h
      · exact h
  | invokestatic k =>
    cases ln_of (k := 3) hln rfl (by decide)
    unfold wpi at h
    simp only at h
    cases hb : Nat.blt n 1000 with
    | true =>
      rw [hb] at h
      unfold chkX at hx
      simp only [hb, cond_true] at hx
      exact ws_static hy hd hx h
    | false =>
      rw [hb] at h
      simp only [cond_false] at h
      exact snd_stp hy hd hln hx h
  | invokevirtual k =>
    cases ln_of (k := 3) hln rfl (by decide)
    unfold wpi at h
    simp only at h
    cases hb : Nat.blt n 1000 with
    | true =>
      rw [hb] at h
      unfold chkX at hx
      simp only [hb, cond_true, Bool.and_eq_true, decide_eq_true_eq] at hx
      obtain ⟨hrc, -⟩ := wcall_un h
      exact ws_virtual hy hd hx.1 hx.2 (rcv_true hrc).2.1 h
    | false =>
      rw [hb] at h
      simp only [cond_false] at h
      exact snd_stp hy hd hln hx h
  | invokespecial k =>
    cases ln_of (k := 3) hln rfl (by decide)
    unfold wpi at h
    simp only at h
    cases hb : Nat.blt n 1000 with
    | true =>
      rw [hb] at h
      unfold chkX at hx
      simp only [hb, cond_true, Bool.and_eq_true, decide_eq_true_eq] at hx
      obtain ⟨-, -, -, -, -, -, h1n, hn⟩ := ml_word hy hx.1
      have hq := List.all_eq_true.mp mc_virt n (List.mem_range.mpr hn)
      have e0 : Nat.beq n 0 = false := by
        cases q : Nat.beq n 0 with
        | true => have := Nat.eq_of_beq_eq_true q; omega
        | false => rfl
      simp only [e0, hx.2, decide_true, Bool.false_or, Bool.and_eq_true, Bool.not_eq_true', decide_eq_true_eq, Bool.or_eq_true] at hq
      rcases hq with hq | ⟨hq1, hq2⟩
      · cases hq
      · exact ws_special hy hd hx.1 hx.2 (fun q => by rw [q] at hq1; cases hq1) hq2 h
    | false =>
      rw [hb] at h
      simp only [cond_false] at h
      exact snd_stp hy hd hln hx h
  | _ => exact snd_stp hy hd hln hx h
theorem WX_step (hy : y < 286) {pc : Nat} {ls st : List VV} {al : AL} {μ : MM} (h : wp1 (zcl (WS l g)) y QF (WX l g y Φ) pc ls st al μ) : WX l g y Φ pc ls st al μ := by
  have hck := raAll_get (ctA.get y) pc (ck_all hy)
  unfold wp1 at h
  generalize (ctA.get y).get pc = en at h hck
  obtain ⟨pc', i, len, t, n, u, v⟩ := en
  simp only at h
  cases hb : Nat.beq pc' pc with
  | false => rw [hb] at h; exact h.elim
  | true =>
    rw [hb] at h
    have e := Nat.eq_of_beq_eq_true hb
    subst e
    simp only [chkE, Bool.and_eq_true, decide_eq_true_eq] at hck
    exact ws_trunc (t := t) (snd_x hy hck.1.1 hck.1.2 hck.2 h)
/-- a walk of n steps that stops at the places that 'ct' names; the ends are named by K, the callees by cl -/
def zk (ct : Nat → Bool) (cl : Nat → QQ → List VV → AL → MM → Prop) (y : Nat) (Q : QQ) (K : KK) : Nat → KK
  | 0 => K
  | n + 1 => wp1 cl y Q (fun pc ls st al μ => bif ct pc then K pc ls st al μ else zk ct cl y Q K n pc ls st al μ)
theorem zk_Z (ct : Nat → Bool) (y : Nat) (hy : y < 286) (Q : QQ) : ∀ (n pc : Nat) (ls st : List VV) (al : AL) (μ : MM), zk ct (zcl Z) y Q (Z y Q) n pc ls st al μ → Z y Q pc ls st al μ := by
  intro n
  induction n with
  | zero => exact fun _ _ _ _ _ h => h
  | succ n ih =>
    intro pc ls st al μ h
    have h : wp1 (zcl Z) y Q (fun pc ls st al μ => bif ct pc then Z y Q pc ls st al μ else zk ct (zcl Z) y Q (Z y Q) n pc ls st al μ) pc ls st al μ := h
    refine Z_step hy (wp1_mono (cl := zcl Z) (cl' := zcl Z) (fun z R R' as al μ hR q => Z_mono _ _ _ _ _ _ _ _ hR q) (fun _ _ _ q => q) ?_ h)
    intro pc ls st al μ q
    cases hb : ct pc with
    | true => rw [hb] at q; exact q
    | false => rw [hb] at q; exact ih _ _ _ _ _ q
theorem zk_WX (ct : Nat → Bool) (hy : y < 286) {K : KK} (hK : ∀ pc ls st al μ, K pc ls st al μ → WX l g y Φ pc ls st al μ) : ∀ (n pc : Nat) (ls st : List VV) (al : AL) (μ : MM), zk ct (zcl Z) y QF K n pc ls st al μ → WX l g y Φ pc ls st al μ := by
  intro n
  induction n with
  | zero => exact fun _ _ _ _ _ h => hK _ _ _ _ _ h
  | succ n ih =>
    intro pc ls st al μ h
    have h : wp1 (zcl Z) y QF (fun pc ls st al μ => bif ct pc then K pc ls st al μ else zk ct (zcl Z) y QF K n pc ls st al μ) pc ls st al μ := h
    refine WX_step hy (wp1_mono (cl := zcl Z) (cl' := zcl (WS l g)) (fun z R R' as al μ hR q => Z_sound l g (Z_mono _ _ _ _ _ _ _ _ hR q)) (fun _ _ _ q => q) ?_ h)
    intro pc ls st al μ q
    cases hb : ct pc with
    | true => rw [hb] at q; exact hK _ _ _ _ _ q
    | false => rw [hb] at q; exact ih _ _ _ _ _ q
end
