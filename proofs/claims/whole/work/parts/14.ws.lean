section
variable {l : Launch} {g : GG} {y : Nat} {Q : QQ} {Φ : PHI}
theorem sh_str {r : Int} (h : (sh r).1 = 13) : ∃ j : Nat, j < 30 ∧ r = ((1000 + j : Nat) : Int) := by
  rcases Nat.lt_or_ge r.toNat 1000 with q | q
  · exfalso
    unfold sh at h
    match r with
    | .negSucc n => simp at h
    | .ofNat n =>
      have q : n < 1000 := q
      simp only at h
      cases hb : Nat.blt n 170 with
      | true =>
        rw [hb] at h
        simp only [cond_true] at h
        have hall : raAll (fun e : Nat × Int => !Nat.beq e.1 13) shT = true := by decide +kernel
        have := raAll_get shT n hall
        rw [h] at this
        simp at this
      | false =>
        have e1 : Nat.blt n 1030 = true := Nat.blt_eq.mpr (by omega)
        have e2 : Nat.blt n 1000 = true := Nat.blt_eq.mpr q
        rw [hb, e1, e2] at h
        simp at h
  · unfold sh at h
    match r with
    | .negSucc n => simp at h
    | .ofNat n =>
      have q : 1000 ≤ n := q
      simp only at h
      have e0 : Nat.blt n 170 = false := by
        cases hb : Nat.blt n 170 with
        | true => have := Nat.blt_eq.mp hb; omega
        | false => rfl
      rw [e0] at h
      simp only [cond_false] at h
      cases hb : Nat.blt n 1030 with
      | true =>
        have := Nat.blt_eq.mp hb
        exact ⟨n - 1000, by omega, by show (n : Int) = _; omega⟩
      | false =>
        exfalso
        rw [hb] at h
        simp only [cond_false] at h
        cases hb2 : Nat.blt n 2030 with
        | true =>
          rw [hb2] at h
          simp only [cond_true] at h
          cases hb3 : Nat.blt n 2000 <;> rw [hb3] at h <;> simp at h
        | false =>
          rw [hb2] at h
          simp only [cond_false] at h
          cases hb3 : Nat.beq n 3000 <;> rw [hb3] at h <;> simp at h
theorem rfv_str (g : GG) {j : Nat} (h : j < 30) : rfv g ((1000 + j : Nat) : Int) = .ref (gK g j) := by
  show rfv g (Int.ofNat (1000 + j)) = _
  unfold rfv
  simp only
  rw [if_neg (by omega), if_neg (by omega), if_pos (by omega), show 1000 + j - 1000 = j by omega]
theorem rfv_sb (g : GG) {j : Nat} (h : j < 30) : rfv g ((2000 + j : Nat) : Int) = .ref (gV g j) := by
  show rfv g (Int.ofNat (2000 + j)) = _
  unfold rfv
  simp only
  rw [if_neg (by omega), if_neg (by omega), if_neg (by omega), if_pos (by omega), show 2000 + j - 2000 = j by omega]
theorem sf_str {j : Nat} (h : j < 30) : sf ((1000 + j : Nat) : Int) 0 = ((2000 + j : Nat) : Int) := by
  show sf (Int.ofNat (1000 + j)) (Int.ofNat 0) = _
  unfold sf
  simp only
  have e0 : Nat.blt (1000 + j) 170 = false := by
    cases hb : Nat.blt (1000 + j) 170 with
    | true => have := Nat.blt_eq.mp hb; omega
    | false => rfl
  have e1 : Nat.blt (1000 + j) 1000 = false := by
    cases hb : Nat.blt (1000 + j) 1000 with
    | true => have := Nat.blt_eq.mp hb; omega
    | false => rfl
  have e2 : Nat.blt (1000 + j) 1030 = true := Nat.blt_eq.mpr (by omega)
  rw [e0, e1, e2]
  show ((1000 + j + 1000 : Nat) : Int) = _
  omega
theorem getD_rng {l : List Int} (h : l.all (fun x => decide (-2147483648 ≤ x ∧ x < 2147483648)) = true) (j : Nat) : -2147483648 ≤ l.getD j 0 ∧ l.getD j 0 < 2147483648 := by
  rw [List.getD_eq_getElem?_getD]
  cases hj : l[j]? with
  | none => exact ⟨by decide, by decide⟩
  | some x => exact of_decide_eq_true (List.all_eq_true.mp h x (List.mem_of_getElem? hj))
theorem sf_rng (r k : Int) : -2147483648 ≤ sf r k ∧ sf r k < 2147483648 := by
  unfold sf
  split
  · rename_i n j
    have hall : raAll (fun e : List Int => e.all (fun x => decide (-2147483648 ≤ x ∧ x < 2147483648))) sfT = true := by decide +kernel
    cases Nat.blt n 170 with
    | true => exact getD_rng (raAll_get sfT n hall) j
    | false =>
      simp only [cond_false]
      cases Nat.blt n 1000 with
      | true => exact (show (-2147483648 : Int) ≤ 0 ∧ (0 : Int) < 2147483648 from by decide)
      | false =>
        simp only [cond_false]
        cases hb : Nat.blt n 1030 with
        | false => exact (show (-2147483648 : Int) ≤ 0 ∧ (0 : Int) < 2147483648 from by decide)
        | true =>
          have := Nat.blt_eq.mp hb
          simp only [cond_true]
          cases Nat.beq j 0 with
          | false => exact (show (-2147483648 : Int) ≤ 0 ∧ (0 : Int) < 2147483648 from by decide)
          | true => simp only [cond_true]; omega
  · exact ⟨by decide, by decide⟩
theorem ws_get (hy : y < 286) {k n pc : Nat} {u v : Int} (hd : decode (mB y) pc = .ok (.getfield k, 3)) (hc : chkF y k n u v = true) {ls st : List VV} {al : AL} {μ : MM} (k1 : wgo (WX l g y Φ) pc 3 (gets n u v ls st al μ)) : WX l g y Φ pc ls st al μ := by
  unfold gets at k1
  split at k1
  · rename_i r st
    cases hb : (Nat.beq (sh r).1 n && okr al r) with
    | false => rw [hb] at k1; exact k1.elim
    | true =>
      rw [hb] at k1
      simp only [cond_true] at k1
      simp only [Bool.and_eq_true] at hb
      have hs := Nat.eq_of_beq_eq_true hb.1
      by_cases hn : n < 13
      · obtain ⟨kk, rfl, hk⟩ := sh_small hs (by omega) (by omega) (by omega) (by omega)
        obtain ⟨u', hu, hu', hv, -⟩ := fld_word hy hc hn
        have hLf : isL ((kk : Int) + 1) u = decide (clk n u' = 1) := by
          unfold isL
          rw [hs, hu]
          have e1 : decide (n = 24) = false := decide_eq_false (by omega)
          have e2 : Nat.blt n 13 = true := Nat.blt_eq.mpr hn
          rw [e1, e2]
          simp
        have fin : ∀ (t : Nat) (x' : Int), (∀ (s : State) (H : Heap) (locs : List Loc), RP g al μ s H locs → fvl g n u' (μ ((kk : Int) + 1) u) = cv g (t, x') ∧ wfv (t, x')) → WX l g y Φ (pc + 3) ls ((t, x') :: st) al μ → WX l g y Φ pc ls ((2, (kk : Int) + 1) :: st) al μ := by
          intro t x' hval kw p e R s m args below meth c H locs cells slots mc ms lc h1 h2 h3 h4 h5 h6
          obtain ⟨e1, e2⟩ := hval s H locs h2
          refine row_get hy hd hc hn hk hs hb.2 hu hu' h1 h2 ?_
          rw [e1]
          exact kw p e R s m args below meth c H locs cells slots mc ms lc h1 h2 h3 h4 h5 (wf_push e2 (fun w hw => List.mem_cons_of_mem _ hw) h6)
        have finI : clk n u' ≠ 1 → clk n u' ≠ 2 → clk n u' ≠ 3 → WX l g y Φ (pc + 3) ls ((0, μ ((kk : Int) + 1) u) :: st) al μ → WX l g y Φ pc ls ((2, (kk : Int) + 1) :: st) al μ := fun c1 c2 c3 kw =>
          fin 0 _ (fun s H locs hR => ⟨fvl_i c1 c2 c3, by
            have := (hR.1.2.1 ((kk : Int) + 1) u).1 (by rw [hLf]; exact decide_eq_false c1)
            exact wf_of_i this.1 this.2⟩) kw
        split at k1
        · exact finI (by omega) (by omega) (by omega) k1
        · exact fin 1 _ (fun s H locs hR => ⟨fvl_l (by omega), by
            have := (hR.1.2.1 ((kk : Int) + 1) u).2
            exact wf_of_l this.1 this.2⟩) k1
        · refine fin 2 _ (fun s H locs hR => ⟨?_, wf_r (by
            have h8 := (hR.1.2.1 ((kk : Int) + 1) u).1 (by rw [hLf]; exact decide_eq_false (by omega))
            cases Nat.beq n 13 with
            | true => exact sf_rng _ _
            | false =>
              match al with
              | some _ => exact h8
              | none => exact sf_rng _ _)⟩) k1
          rw [fvl_r (Or.inl (by omega)), cv_ref]
          have e13 : Nat.beq n 13 = false := by
            cases q : Nat.beq n 13 with
            | false => rfl
            | true => have := Nat.eq_of_beq_eq_true q; omega
          rw [e13]
          simp only [cond_false]
          match al, hR with
          | some _, _ => rfl
          | none, hR =>
            have h9 := hR.1.2.2.2 ((kk : Int) + 1) u (by omega) (by omega) (by rw [hs, hu]; show clk n u' = 2; omega)
            simp only
            rw [h9]
        · exact fin 2 _ (fun s H locs hR => ⟨fvl_r (Or.inr (by omega)), wf_r ((hR.1.2.1 ((kk : Int) + 1) u).1 (by rw [hLf]; exact decide_eq_false (by omega)))⟩) k1
        · exact finI (by omega) (by omega) (by omega) k1
        · exact finI (by omega) (by omega) (by omega) k1
        · have e13 : Nat.beq n 13 = false := by
            cases q : Nat.beq n 13 with
            | false => rfl
            | true => have := Nat.eq_of_beq_eq_true q; omega
          rw [e13] at k1
          exact k1.elim
        · exact k1.elim
      · obtain ⟨rfl, hw⟩ := str_word hy hc hn
        obtain ⟨j, hj, rfl⟩ := sh_str hs
        rcases hw with ⟨rfl, rfl, hw⟩ | ⟨rfl, rfl, hw⟩
        · have k1 : WX l g y Φ (pc + 3) ls ((2, sf ((1000 + j : Nat) : Int) 0) :: st) al μ := k1
          rw [sf_str hj] at k1
          intro p e R s m args below meth c H locs cells slots mc ms lc h1 h2 h3 h4 h5 h6
          obtain ⟨hx, hb, -, -, -, hown, -, hts, -, -, -, -, -, -, hS, -⟩ := id h1
          show W p l e R s m args below meth c H locs cells slots _ (F0 m pc lc (rfv g ((1000 + j : Nat) : Int) :: st.map (cv g)))
          rw [rfv_str g hj]
          refine vk_getf hx hb (hS.1 j hj).2.2.1 h2.2.1 hown (hts _ hw) (fun _ h => h) hd ?_
          rw [← rfv_sb g hj]
          exact k1 p e R s m args below meth c H locs cells slots mc ms lc h1 h2 h3 h4 h5 (wf_push (wf_r (by omega)) (fun w hw => List.mem_cons_of_mem _ hw) h6)
        · have k1 : WX l g y Φ (pc + 3) ls ((0, 0) :: st) al μ := k1
          intro p e R s m args below meth c H locs cells slots mc ms lc h1 h2 h3 h4 h5 h6
          obtain ⟨hx, hb, -, -, -, hown, -, hts, -, -, -, -, -, -, hS, -⟩ := id h1
          show W p l e R s m args below meth c H locs cells slots _ (F0 m pc lc (rfv g ((1000 + j : Nat) : Int) :: st.map (cv g)))
          rw [rfv_str g hj]
          refine vk_getf hx hb (hS.1 j hj).2.1 h2.2.1 hown (hts _ hw) (fun _ h => h) hd ?_
          exact k1 p e R s m args below meth c H locs cells slots mc ms lc h1 h2 h3 h4 h5 (wf_push (wf_of_i (by decide) (by decide)) (fun w hw => List.mem_cons_of_mem _ hw) h6)
  · exact k1.elim
/-! writing a place keeps what is told of the memory -/
theorem wfm_mup {μ : MM} {r i x : Int} (h : wfm μ) (h1 : isL r i = false → -2147483648 ≤ x ∧ x < 2147483648) (h2 : -9223372036854775808 ≤ x ∧ x < 9223372036854775808) : wfm (mup μ r i x) := by
  intro a b
  by_cases q : a = r ∧ b = i
  · obtain ⟨rfl, rfl⟩ := q
    rw [mup_at]
    exact ⟨h1, h2⟩
  · have : mup μ r i x a b = μ a b := by
      unfold mup
      rw [if_neg q]
    rw [this]
    exact h a b
theorem SCR_mup {μ : MM} {s : State} {r i x : Int} (h : SCR g μ s) (hr : r < 1000) : SCR g (mup μ r i x) s := by
  have e : ∀ b, mup μ r i x 3000 b = μ 3000 b := fun b => mup_row (by omega)
  unfold SCR
  simp only [e]
  exact h
theorem phS_mup {μ : MM} {al : AL} {r i x : Int} (h : phS al μ) (hn : al = none → (sh r).1 < 13 → 0 ≤ i → clk (sh r).1 i.toNat ≠ 2) : phS al (mup μ r i x) := by
  match al, h, hn with
  | some _, h, _ => exact h
  | none, h, hn =>
    intro a b ha hb hc
    by_cases q : a = r ∧ b = i
    · obtain ⟨rfl, rfl⟩ := q
      exact absurd hc (hn rfl ha hb)
    · have : mup μ r i x a b = μ a b := by
        unfold mup
        rw [if_neg q]
      rw [this]
      exact h a b ha hb hc
theorem zero_mup {μ : MM} {z : Nat} {k : Nat} {i x : Int} (h : ∀ a b : Int, (z : Int) < a → a < 1000 → μ a b = 0) (hk : k < z) : ∀ a b : Int, (z : Int) < a → a < 1000 → mup μ ((k : Int) + 1) i x a b = 0 := fun a b h1 h2 => by
  rw [mup_row (by omega)]
  exact h a b h1 h2
theorem fvl_set {c N u' : Nat} {μ : MM} {r x : Int} (h : u' < N) : ((List.range N).map (fun j => fvl g c j (μ r (j : Int)))).set u' (fvl g c u' x) = (List.range N).map (fun j => fvl g c j (mup μ r (u' : Int) x r (j : Int))) := by
  apply List.ext_getElem?
  intro i
  by_cases hi : i < N
  · rw [List.getElem?_map, List.getElem?_range hi]
    by_cases e : i = u'
    · subst e
      rw [List.getElem?_set_self (by simpa using hi)]
      show some _ = some (fvl g c i (mup μ r (i : Int) x r (i : Int)))
      rw [mup_at]
    · rw [List.getElem?_set_ne (fun q => e q.symm), List.getElem?_map, List.getElem?_range hi]
      show some _ = some (fvl g c i (mup μ r (u' : Int) x r (i : Int)))
      rw [mup_pl (by omega)]
  · rw [List.getElem?_eq_none (by simp; omega), List.getElem?_eq_none (by simp; omega)]
end
