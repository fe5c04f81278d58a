section
variable {l : Launch} {g : GG} {y : Nat} {Q : QQ}
theorem mc_virt : ((List.range 286).all (fun n => Nat.beq n 0 || decide ((mN n).name = "<init>") == false || (!Nat.beq (mcT.get n) 99 && decide (mRt n = none)))) = true := by decide +kernel
theorem snd_i (hy : y < 286) {i : Instr} {len n pc : Nat} {u v : Int} (hd : decode (mB y) pc = .ok (i, len)) (hln : (Nat.beq (lnI i) 0 || Nat.beq (lnI i) len) = true) (hx : chkX y pc i len n u v = true) {ls st : List VV} {al : AL} {μ : MM} (h : wpi (zcl (WS l g)) y Q (WS l g y Q) pc i len n u v ls st al μ) : WS l g y Q pc ls st al μ := by
  cases i with
  | goto o =>
    cases ln_of (k := 3) hln rfl (by decide)
    have hx : (pc : Int) + o = (n : Int) := of_decide_eq_true hx
    have h : WS l g y Q n ls st al μ := h
    intro p e R s m args below meth cd H locs cells slots mc ms lc q1 q2 q3 q4 q5 q6
    exact lv_goto q1.1 q1.2.1 hd hx (h p e R s m args below meth cd H locs cells slots mc ms lc q1 q2 q3 q4 q5 q6)
  | ifCond c o =>
    cases ln_of (k := 3) hln rfl (by decide)
    unfold wpi at h
    simp only at h
    split at h
    · exact ws_if hd (of_decide_eq_true hx) h
    · exact h.elim
  | if_icmp c o =>
    cases ln_of (k := 3) hln rfl (by decide)
    unfold wpi at h
    simp only at h
    split at h
    · exact ws_icmp hd (of_decide_eq_true hx) h
    · exact h.elim
  | tableswitch d lo hi offs =>
    unfold chkX at hx
    simp only [Bool.and_eq_true, decide_eq_true_eq] at hx
    unfold wpi at h
    simp only at h
    split at h
    · exact ws_table hd hx.1.1 hx.1.2 hx.2 h
    · exact h.elim
  | lookupswitch d ps =>
    unfold chkX at hx
    simp only [Bool.and_eq_true, decide_eq_true_eq] at hx
    unfold wpi at h
    simp only at h
    split at h
    · exact ws_look hd hx.1.1 hx.1.2 hx.2 h
    · exact h.elim
  | ireturn =>
    cases ln_of (k := 1) hln rfl (by decide)
    unfold chkX at hx
    simp only [Bool.and_eq_true, Bool.or_eq_true, decide_eq_true_eq] at hx
    unfold wpi at h
    simp only at h
    cases ha : aok y al with
    | false => rw [ha] at h; exact h.elim
    | true =>
      rw [ha] at h
      simp only [cond_true] at h
      split at h
      · rename_i x
        rcases hx with ((⟨rfl, ht⟩ | ⟨rfl, ht⟩) | ⟨rfl, ht⟩) | ⟨rfl, ht⟩
        · exact ws_zret hd ht rfl rfl ha h
        · have h : (x = 0 ∨ x = 1) ∧ Q x al μ := h
          exact ws_zret hd ht rfl (nar_bool h.1).1 ha h.2
        · have h : (0 ≤ x ∧ x ≤ 65535) ∧ Q x al μ := h
          exact ws_zret hd ht rfl (nar_char h.1).1 ha h.2
        · have h : (-128 ≤ x ∧ x ≤ 127) ∧ Q x al μ := h
          exact ws_zret hd ht rfl (nar_byte8 h.1) ha h.2
      · exact h.elim
  | lreturn =>
    cases ln_of (k := 1) hln rfl (by decide)
    have ht : mRt y = some .long := of_decide_eq_true hx
    unfold wpi at h
    simp only at h
    cases ha : aok y al with
    | false => rw [ha] at h; exact h.elim
    | true =>
      rw [ha] at h
      simp only [cond_true] at h
      split at h
      · exact ws_lret hd ht ha h
      · exact h.elim
  | areturn =>
    cases ln_of (k := 1) hln rfl (by decide)
    unfold wpi at h
    simp only at h
    cases ha : aok y al with
    | false => rw [ha] at h; exact h.elim
    | true =>
      rw [ha] at h
      simp only [cond_true] at h
      unfold chkX at hx
      simp only at hx
      split at h
      · split at hx
        · rename_i nm ht
          exact ws_aret hd ht (Or.inl ⟨_, rfl⟩) ha h
        · rename_i t ht
          exact ws_aret hd ht (Or.inr ⟨_, rfl⟩) ha h
        · cases hx
      · exact h.elim
  | return_ =>
    cases ln_of (k := 1) hln rfl (by decide)
    have ht : mRt y = none := of_decide_eq_true hx
    unfold wpi at h
    simp only at h
    cases ha : aok y al with
    | false => rw [ha] at h; exact h.elim
    | true =>
      rw [ha] at h
      simp only [cond_true] at h
      split at h
      · exact ws_vret hd ht ha h
      · exact h.elim
  | invokestatic k =>
    cases ln_of (k := 3) hln rfl (by decide)
    unfold wpi at h
    simp only at h
    cases hb : Nat.blt n 1000 with
    | true =>
      rw [hb] at h
      unfold chkX at hx
      simp only [hb, cond_true] at hx
      exact ws_static hy hd hx h
    | false =>
      rw [hb] at h
      simp only [cond_false] at h
      exact snd_stp hy hd hln hx h
  | invokevirtual k =>
    cases ln_of (k := 3) hln rfl (by decide)
    unfold wpi at h
    simp only at h
    cases hb : Nat.blt n 1000 with
    | true =>
      rw [hb] at h
      unfold chkX at hx
      simp only [hb, cond_true, Bool.and_eq_true, decide_eq_true_eq] at hx
      obtain ⟨hrc, -⟩ := wcall_un h
      exact ws_virtual hy hd hx.1 hx.2 (rcv_true hrc).2.1 h
    | false =>
      rw [hb] at h
      simp only [cond_false] at h
      exact snd_stp hy hd hln hx h
  | invokespecial k =>
    cases ln_of (k := 3) hln rfl (by decide)
    unfold wpi at h
    simp only at h
    cases hb : Nat.blt n 1000 with
    | true =>
      rw [hb] at h
      unfold chkX at hx
      simp only [hb, cond_true, Bool.and_eq_true, decide_eq_true_eq] at hx
      obtain ⟨-, -, -, -, -, -, h1n, hn⟩ := ml_word hy hx.1
      have hq := List.all_eq_true.mp mc_virt n (List.mem_range.mpr hn)
      have e0 : Nat.beq n 0 = false := by
        cases q : Nat.beq n 0 with
        | true => have := Nat.eq_of_beq_eq_true q; omega
        | false => rfl
      simp only [e0, hx.2, decide_true, Bool.false_or, Bool.and_eq_true, Bool.not_eq_true', decide_eq_true_eq, Bool.or_eq_true] at hq
      rcases hq with hq | ⟨hq1, hq2⟩
      · cases hq
      · exact ws_special hy hd hx.1 hx.2 (fun q => by rw [q] at hq1; cases hq1) hq2 h
    | false =>
      rw [hb] at h
      simp only [cond_false] at h
      exact snd_stp hy hd hln hx h
  | _ => exact snd_stp hy hd hln hx h
/-- SOUNDNESS: what the abstract machine comes to, the machine comes to -/
theorem Zclo_WS (l : Launch) (g : GG) : Zclo (WS l g) := by
  intro y Q pc ls st al μ hy h
  have hck := raAll_get (ctA.get y) pc (ck_all hy)
  unfold wp1 at h
  generalize (ctA.get y).get pc = en at h hck
  obtain ⟨pc', i, len, t, n, u, v⟩ := en
  simp only at h
  cases hb : Nat.beq pc' pc with
  | false => rw [hb] at h; exact h.elim
  | true =>
    rw [hb] at h
    have e := Nat.eq_of_beq_eq_true hb
    subst e
    simp only [chkE, Bool.and_eq_true, decide_eq_true_eq] at hck
    exact ws_trunc (t := t) (snd_i hy hck.1.1 hck.1.2 hck.2 h)
theorem Z_sound (l : Launch) (g : GG) {y : Nat} {Q : QQ} {pc : Nat} {ls st : List VV} {al : AL} {μ : MM} (h : Z y Q pc ls st al μ) : WS l g y Q pc ls st al μ := h (WS l g) (Zmono_WS l g) (Zclo_WS l g)
end
