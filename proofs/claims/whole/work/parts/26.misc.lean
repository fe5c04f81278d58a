section
variable {l : Launch} {g : GG} {y : Nat} {Q : QQ} {Φ : PHI}
theorem cn_word (hy : y < 286) {k : Nat} {u : Int} {w : Bool} (h1 : Nat.beq (cnT.get (lky y k)).1 (lky y k) = true) (h2 : Nat.blt k 10000 = true) (h3 : (cnT.get (lky y k)).2.1 = u) (h4 : (cnT.get (lky y k)).2.2.1 = w) : (w = false → Cond.constant (mN y).cls k (Int32.ofInt u) ∈ TG ∧ -2147483648 ≤ u ∧ u < 2147483648) ∧ (w = true → Cond.constantLong (mN y).cls k (Int64.ofInt u) ∈ TG ∧ -9223372036854775808 ≤ u ∧ u < 9223372036854775808) := by
  have hc := raAll_get cnT (lky y k) cn_ok
  generalize cnT.get (lky y k) = e at h1 h3 h4 hc
  obtain ⟨key, x, b, ps⟩ := e
  simp only at h1 h3 h4
  have e1 := Nat.eq_of_beq_eq_true h1
  have e2 := Nat.blt_eq.mp h2
  subst e1; subst h3; subst h4
  obtain ⟨d1, d2⟩ := ky_div y k e2
  unfold cnC at hc
  simp only [cnW, d1, d2, ← on_y hy, Bool.and_eq_true, decide_eq_true_eq] at hc
  refine ⟨fun q => ?_, fun q => ?_⟩
  · subst q
    exact ⟨TG_of TCl_in (by decide +kernel) (List.mem_of_getElem? hc.1), of_decide_eq_true hc.2⟩
  · subst q
    exact ⟨TG_of TCl_in (by decide +kernel) (List.mem_of_getElem? hc.1), of_decide_eq_true hc.2⟩
theorem ws_ldc (hy : y < 286) {k n pc : Nat} {u v : Int} (hd : decode (mB y) pc = .ok (.ldc k, 2)) (hc : chkX y pc (.ldc k) 2 n u v = true) {ls st : List VV} {al : AL} {μ : MM} (k1 : wgo (WX l g y Φ) pc 2 (stp y (.ldc k) n u v ls st al μ)) : WX l g y Φ pc ls st al μ := by
  unfold chkX at hc
  simp only at hc
  unfold stp at k1
  simp only at k1
  match n, hc, k1 with
  | 0, hc, k1 =>
    have hc : (match cnT.get (lky y k) with | (key, x, b, _) => Nat.beq key (lky y k) && Nat.blt k 10000 && decide (x = u) && !b) = true := hc
    simp only [Bool.and_eq_true, decide_eq_true_eq, Bool.not_eq_true'] at hc
    obtain ⟨h0, -⟩ := cn_word (w := false) hy hc.1.1.1 hc.1.1.2 hc.1.2 hc.2
    obtain ⟨hw, hr⟩ := h0 rfl
    exact ws_const hr (fun rest p e R s m args below meth c H locs cells slots Qs lc C kk => lv_ldc C.1 C.2.1 C.2.2.2.2.2.1 (C.2.2.2.2.2.2.2.1 _ hw) hd kk) k1
  | 1, hc, k1 =>
    have hc : (Nat.beq (ocT.get y) 6 && decide (1000 ≤ u ∧ u < 1030) && decide (srI[u.toNat - 1000]? = some k)) = true := by simpa using hc
    simp only [Bool.and_eq_true, decide_eq_true_eq] at hc
    obtain ⟨⟨h1, h2⟩, h3⟩ := hc
    have hcls : (mN y).cls = "SixAcres$Reader" := by rw [on_y hy, Nat.eq_of_beq_eq_true h1]; rfl
    have k1 : WX l g y Φ (pc + 2) ls ((2, u) :: st) al μ := k1
    intro p e R s m args below meth cd H locs cells slots mc ms lc q1 q2 q3 q4 q5 q6
    have fin := k1 p e R s m args below meth cd H locs cells slots mc ms lc q1 q2 q3 q4 q5 (wf_push (wf_r (by omega)) (fun _ h => h) q6)
    have hj : u.toNat - 1000 < 30 := by omega
    rw [List.map_cons, cv_ref, show u = ((1000 + (u.toNat - 1000) : Nat) : Int) by omega, rfv_str g hj] at fin
    obtain ⟨-, -, -, -, -, -, -, -, -, -, -, -, -, hRf, -⟩ := id q1
    have h9 := hRf (u.toNat - 1000) hj
    rw [List.getD_eq_getElem?_getD, h3] at h9
    exact va_ldcS q1.1 q1.2.1 (by rw [← hcls]; exact q1.2.2.2.2.2.1) h9 hd fin
  | n + 2, hc, k1 => exact k1.elim
theorem ws_ldcw (hy : y < 286) {k n pc : Nat} {u v : Int} (hd : decode (mB y) pc = .ok (.ldc_w k, 3)) (hc : chkX y pc (.ldc_w k) 3 n u v = true) {ls st : List VV} {al : AL} {μ : MM} (k1 : wgo (WX l g y Φ) pc 3 (stp y (.ldc_w k) n u v ls st al μ)) : WX l g y Φ pc ls st al μ := by
  unfold chkX at hc
  simp only [Bool.and_eq_true, decide_eq_true_eq, Bool.not_eq_true'] at hc
  have e0 := Nat.eq_of_beq_eq_true hc.1
  subst e0
  obtain ⟨h0, -⟩ := cn_word (w := false) hy hc.2.1.1.1 hc.2.1.1.2 hc.2.1.2 hc.2.2
  obtain ⟨hw, hr⟩ := h0 rfl
  exact ws_const hr (fun rest p e R s m args below meth c H locs cells slots Qs lc C kk => lv_ldcw C.1 C.2.1 C.2.2.2.2.2.1 (C.2.2.2.2.2.2.2.1 _ hw) hd kk) k1
theorem ws_ldc2 (hy : y < 286) {k n pc : Nat} {u v : Int} (hd : decode (mB y) pc = .ok (.ldc2_w k, 3)) (hc : chkX y pc (.ldc2_w k) 3 n u v = true) {ls st : List VV} {al : AL} {μ : MM} (k1 : wgo (WX l g y Φ) pc 3 (stp y (.ldc2_w k) n u v ls st al μ)) : WX l g y Φ pc ls st al μ := by
  unfold chkX at hc
  simp only [Bool.and_eq_true, decide_eq_true_eq] at hc
  have e0 := Nat.eq_of_beq_eq_true hc.1
  subst e0
  obtain ⟨-, h0⟩ := cn_word (w := true) hy hc.2.1.1.1 hc.2.1.1.2 hc.2.1.2 hc.2.2
  obtain ⟨hw, hr⟩ := h0 rfl
  have k1 : WX l g y Φ (pc + 3) ls ((1, u) :: st) al μ := k1
  exact RowS.ws (st' := (1, u) :: st) (fun p e R s m args below meth c H locs cells slots Qs lc C kk => lv_ldc2 C.1 C.2.1 C.2.2.2.2.2.1 (C.2.2.2.2.2.2.2.1 _ hw) hd kk) (wf_push (wf_of_l hr.1 hr.2) (fun _ h => h)) k1
theorem st_word (hy : y < 286) {k c : Nat} (hk : k < 10000) (hkey : (stT.get (lky y k)).1 = lky y k) (hc : (stT.get (lky y k)).2.1 = c) : Cond.fieldLink (mN y).cls k (stN c).1 (stN c).2.1 (stN c).2.2 ∈ TG := by
  have h := raAll_get stT (lky y k) st_ok
  generalize stT.get (lky y k) = e at h hkey hc
  obtain ⟨key, c', ps⟩ := e
  simp only at hkey hc
  subst hkey; subst hc
  obtain ⟨d1, d2⟩ := ky_div y k hk
  unfold stC at h
  simp only [stW, d1, d2, ← on_y hy, decide_eq_true_eq] at h
  exact TG_of TFl_in (by decide +kernel) (List.mem_of_getElem? h)
theorem ws_gets (hy : y < 286) {k n pc : Nat} {u v : Int} (hd : decode (mB y) pc = .ok (.getstatic k, 3)) (hc : chkX y pc (.getstatic k) 3 n u v = true) {ls st : List VV} {al : AL} {μ : MM} (k1 : wgo (WX l g y Φ) pc 3 (stp y (.getstatic k) n u v ls st al μ)) : WX l g y Φ pc ls st al μ := by
  unfold chkX at hc
  simp only [Bool.and_eq_true, Bool.or_eq_true, decide_eq_true_eq] at hc
  obtain ⟨⟨h1, h2⟩, h3⟩ := hc
  have hkey : (stT.get (lky y k)).1 = lky y k := Nat.eq_of_beq_eq_true h1
  have hk := Nat.blt_eq.mp h2
  unfold stp at k1
  have refc : ∀ (u0 : Int) (c : Nat), n = 1 → u = u0 → Nat.beq (stT.get (lky y k)).2.1 c = true → (-2147483648 ≤ u0 ∧ u0 < 2147483648) → (∀ s : State, EXT g s → va_Z (stN c).1 (stN c).2.1 (stN c).2.2 (rfv g u0) (gP g) s s.heap) → WX l g y Φ pc ls st al μ := by
    intro u0 c en eu hcc hr hZ
    subst en; subst eu
    have k1 : WX l g y Φ (pc + 3) ls ((2, u) :: st) al μ := k1
    intro p e R s m args below meth cd H locs cells slots mc ms lc q1 q2 q3 q4 q5 q6
    have fin := k1 p e R s m args below meth cd H locs cells slots mc ms lc q1 q2 q3 q4 q5 (wf_push (wf_r hr) (fun _ h => h) q6)
    exact va_gets q1.1 q1.2.1 (hZ s q1.2.2.2.2.2.2.2.2.2.2) q2.2.1 q1.2.2.2.2.2.1 (q1.2.2.2.2.2.2.2.1 _ (st_word hy hk hkey (Nat.eq_of_beq_eq_true hcc))) (fun _ h => h) hd fin
  rcases h3 with ⟨⟨en, eu⟩, hcc⟩ | ⟨en, h3⟩
  · subst en; subst eu
    have k1 : WX l g y Φ (pc + 3) ls ((0, 1) :: st) al μ := k1
    intro p e R s m args below meth cd H locs cells slots mc ms lc q1 q2 q3 q4 q5 q6
    have fin := k1 p e R s m args below meth cd H locs cells slots mc ms lc q1 q2 q3 q4 q5 (wf_push (wf_of_i (by decide) (by decide)) (fun _ h => h) q6)
    obtain ⟨-, -, -, -, -, -, -, h8, -⟩ := q1.2.2.2.2.2.2.2.2.2.2
    exact va_gets q1.1 q1.2.1 h8 q2.2.1 q1.2.2.2.2.2.1 (q1.2.2.2.2.2.2.2.1 _ (st_word (c := 0) hy hk hkey (Nat.eq_of_beq_eq_true hcc))) (fun _ h => h) hd fin
  · rcases h3 with (⟨eu, hcc⟩ | ⟨eu, hcc⟩) | ⟨eu, hcc⟩
    · exact refc 3001 1 en eu hcc (by decide) (fun s E => E.2.2.2.2.2.2.2.2.1)
    · exact refc 3002 2 en eu hcc (by decide) (fun s E => E.2.2.2.2.2.2.2.2.2.1)
    · exact refc 4000 3 en eu hcc (by decide) (fun s E => E.2.2.2.2.2.2.2.2.2.2.1)
theorem ws_trunc {t pc : Nat} {ls st : List VV} {al : AL} {μ : MM} (k1 : WX l g y Φ pc (trunc t ls) st al μ) : WX l g y Φ pc ls st al μ := by
  intro p e R s m args below meth cd H locs cells slots mc ms lc q1 q2 q3 q4 q5 q6
  match t, k1 with
  | 0, k1 => exact k1 p e R s m args below meth cd H locs cells slots mc ms lc q1 q2 q3 q4 q5 q6
  | t + 1, k1 =>
    have hsub : ∀ (i : Nat) (v : VV), (ls.take t ++ List.replicate (ls.length - t) vU)[i]? = some v → ls[i]? = some v ∨ v = vU := by
      intro i v h
      by_cases hi : i < (ls.take t).length
      · rw [List.getElem?_append_left hi, List.getElem?_take] at h
        split at h
        · exact Or.inl h
        · cases h
      · rw [List.getElem?_append_right (by omega)] at h
        exact Or.inr (List.eq_of_mem_replicate (List.mem_of_getElem? h))
    by_cases hlen : t ≤ ls.length
    · refine k1 p e R s m args below meth cd H locs cells slots mc ms lc q1 q2 q3 ⟨?_, q4.2.1, q4.2.2.1, fun i v h hv => ?_⟩ (fun v hv => ?_) q6
      · show (ls.take t ++ List.replicate (ls.length - t) vU).length = _
        rw [List.length_append, List.length_take, List.length_replicate, ← q4.1]
        omega
      · rcases hsub i v h with q | q
        · exact q4.2.2.2 i v q hv
        · exact absurd (by rw [q]) hv
      · obtain ⟨i, hi⟩ := List.mem_iff_getElem?.mp hv
        rcases hsub i v hi with q | q
        · exact q5 v (List.mem_of_getElem? q)
        · rw [q]; exact wf_u
    · have e1 : trunc (t + 1) ls = ls := by
        show ls.take t ++ List.replicate (ls.length - t) vU = ls
        rw [List.take_of_length_le (by omega), show ls.length - t = 0 by omega]
        simp
      rw [e1] at k1
      exact k1 p e R s m args below meth cd H locs cells slots mc ms lc q1 q2 q3 q4 q5 q6
end
