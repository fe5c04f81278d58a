section
variable {l : Launch} {g : GG} {y : Nat} {Q : QQ} {Φ : PHI}
/-! what a checked entry says -/
theorem on_y (hy : y < 286) : (mN y).cls = onm (ocT.get y) := by
  rcases Nat.eq_zero_or_pos y with rfl | h
  · rfl
  · have h1 := chM_all h hy
    simp only [chkM, Bool.and_eq_true, decide_eq_true_eq] at h1
    exact h1.1.1.1.1.1
theorem ky_div (y k : Nat) (h : k < 10000) : lky y k / 10000 = ocT.get y ∧ lky y k % 10000 = k := by
  unfold lky
  omega
theorem fld_word (hy : y < 286) {k n : Nat} {u v : Int} (h : chkF y k n u v = true) (hn : n < 13) : ∃ u' : Nat, u = (u' : Int) ∧ u' < cNf n ∧ v = clk n u' ∧ (((flT.get (lky y k)).2.2.2.1 = false ∧ Cond.fieldLink (mN y).cls k (cNm n) (cFd n u').2.1 (cFd n u').2.2.1 ∈ TG) ∨ ((flT.get (lky y k)).2.2.2.1 = true ∧ Cond.fieldLinkNest (mN y).cls k (cNm n) (cFd n u').2.1 (cFd n u').2.2.1 "SixAcres" ∈ TXl)) := by
  have hc := raAll_get flT (lky y k) fl_ok
  unfold chkF at h
  generalize flT.get (lky y k) = e at h hc
  obtain ⟨key, n', u', b, ps⟩ := e
  simp only [Bool.and_eq_true] at h
  obtain ⟨⟨⟨⟨h1, h2⟩, h3⟩, h4⟩, h5⟩ := h
  have e1 := Nat.eq_of_beq_eq_true h1
  have e2 := Nat.blt_eq.mp h2
  have e3 := Nat.eq_of_beq_eq_true h3
  subst e1; subst e3
  rw [show Nat.blt n' 13 = true from Nat.blt_eq.mpr hn] at h5
  simp only [cond_true, Bool.and_eq_true, decide_eq_true_eq] at h5 h4
  obtain ⟨d1, d2⟩ := ky_div y k e2
  refine ⟨u', h4, Nat.blt_eq.mp h5.1, h5.2, ?_⟩
  have hb13 : Nat.beq n' 13 = false := by
    cases q : Nat.beq n' 13 with
    | false => rfl
    | true => have := Nat.eq_of_beq_eq_true q; omega
  unfold flC at hc
  simp only [flW, hb13, cond_false, d1, d2, ← on_y hy, decide_eq_true_eq] at hc
  cases b with
  | false => exact Or.inl ⟨rfl, TG_of TFl_in (by decide +kernel) (List.mem_of_getElem? hc)⟩
  | true => exact Or.inr ⟨rfl, List.mem_of_getElem? hc⟩
theorem str_word (hy : y < 286) {k n : Nat} {u v : Int} (h : chkF y k n u v = true) (hn : ¬ n < 13) : n = 13 ∧ ((u = 0 ∧ v = 2 ∧ Cond.fieldLink (mN y).cls k "java/lang/String" "value" "[B" ∈ TG) ∨ (u = 1 ∧ v = 6 ∧ Cond.fieldLink (mN y).cls k "java/lang/String" "coder" "B" ∈ TG)) := by
  have hc := raAll_get flT (lky y k) fl_ok
  unfold chkF at h
  generalize flT.get (lky y k) = e at h hc
  obtain ⟨key, n', u', b, ps⟩ := e
  simp only [Bool.and_eq_true] at h
  obtain ⟨⟨⟨⟨h1, h2⟩, h3⟩, h4⟩, h5⟩ := h
  have e1 := Nat.eq_of_beq_eq_true h1
  have e2 := Nat.blt_eq.mp h2
  have e3 := Nat.eq_of_beq_eq_true h3
  subst e1; subst e3
  have hb : Nat.blt n' 13 = false := by
    cases q : Nat.blt n' 13 with
    | false => rfl
    | true => exact absurd (Nat.blt_eq.mp q) hn
  rw [hb] at h5
  simp only [cond_false, Bool.and_eq_true, Bool.or_eq_true, decide_eq_true_eq] at h5 h4
  obtain ⟨d1, d2⟩ := ky_div y k e2
  obtain ⟨h5, h6⟩ := h5
  have e5 := Nat.eq_of_beq_eq_true h5
  subst e5
  have key : ∀ (w : Cond), (bif b then TXl else TFl)[ps]? = some w → (∀ o i r n d, w = .fieldLink o i r n d → w ∈ TG) := by
    intro w hw o i r n d ew
    cases b with
    | false => exact TG_of TFl_in (by decide +kernel) (List.mem_of_getElem? hw)
    | true =>
      exfalso
      have h9 := List.mem_of_getElem? hw
      subst ew
      have : TXl.all (fun w => match w with | .fieldLink _ _ _ _ _ => false | _ => true) = true := by decide +kernel
      have := List.all_eq_true.mp this _ h9
      simp at this
  unfold flC at hc
  simp only [decide_eq_true_eq] at hc
  refine ⟨rfl, ?_⟩
  rcases h6 with ⟨q1, q2⟩ | ⟨q1, q2⟩
  · have eu := Nat.eq_of_beq_eq_true q1
    subst eu
    refine Or.inl ⟨h4, q2, ?_⟩
    have := key _ hc
    simp only [flW, d1, d2, ← on_y hy] at this
    exact this _ _ _ _ _ rfl
  · have eu := Nat.eq_of_beq_eq_true q1
    subst eu
    refine Or.inr ⟨h4, q2, ?_⟩
    have := key _ hc
    simp only [flW, d1, d2, ← on_y hy] at this
    exact this _ _ _ _ _ rfl
theorem fvl_i {c j : Nat} {x : Int} (h : clk c j ≠ 1) (h2 : clk c j ≠ 2) (h3 : clk c j ≠ 3) : fvl g c j x = .int (Int32.ofInt x) := by
  unfold fvl
  split
  · exact absurd (by assumption) h
  · exact absurd (by assumption) h2
  · exact absurd (by assumption) h3
  · rfl
theorem fvl_l {c j : Nat} {x : Int} (h : clk c j = 1) : fvl g c j x = .long (Int64.ofInt x) := by
  unfold fvl
  rw [h]
  rfl
theorem fvl_r {c j : Nat} {x : Int} (h : clk c j = 2 ∨ clk c j = 3) : fvl g c j x = rfv g x := by
  unfold fvl
  rcases h with h | h <;> rw [h] <;> rfl
/-- getfield of an object of ours: the row -/
theorem row_get (hy : y < 286) {k n pc : Nat} {u v : Int} (hd : decode (mB y) pc = .ok (.getfield k, 3)) (hc : chkF y k n u v = true) (hn : n < 13) {kk : Nat} (hk : kk < 169) (hs : (sh ((kk : Int) + 1)).1 = n) {al : AL} (ho : okr al ((kk : Int) + 1) = true) {μ : MM} {u' : Nat} (hu : u = (u' : Int)) (hu' : u' < cNf n)
    {p : Program} {e : Env} {R : Room} {s : State} {m : MethodId} {args : Array Value} {below : List Frame} {meth : Method} {c : Code} {H : Heap} {locs : List Loc} {cells slots : Nat} {Qs : State → Prop} {lc : Array Slot} {rest : List Value} (C : CX g y p R s m args meth c) (hR : RP g al μ s H locs)
    (k1 : W p l e R s m args below meth c H locs cells slots Qs (F0 m (pc + 3) lc (fvl g n u' (μ ((kk : Int) + 1) u) :: rest))) : W p l e R s m args below meth c H locs cells slots Qs (F0 m pc lc (rfv g ((kk : Int) + 1) :: rest)) := by
  obtain ⟨u2, e1, hlt, ev, hw⟩ := fld_word hy hc hn
  have : u2 = u' := by omega
  subst this
  obtain ⟨hx, hb, -, -, -, hown, -, hts, -, hK, hE⟩ := C
  rw [rfv_id g hk]
  have hP := hR.1.1
  have he : (wl g μ (cnt al))[kk]? = some (gB g + kk, .inr (n, (List.range (cNf n)).map (fun j => fvl g n j (μ ((kk : Int) + 1) (j : Int))))) := by
    rw [wl_get g μ (okr_cnt ho hk), ceE_obj hs hn]
  have hv : ((List.range (cNf n)).map (fun j => fvl g n j (μ ((kk : Int) + 1) (j : Int))))[u2]? = some (fvl g n u2 (μ ((kk : Int) + 1) u)) := by
    rw [List.getElem?_map, List.getElem?_range hlt, hu]
    rfl
  have hsame : ∀ x, s.fieldFound? (cFd n u2).1 (cFd n u2).2.1 (cFd n u2).2.2.1 = some x → s.fieldFound? (cNm n) (cFd n u2).2.1 (cFd n u2).2.2.1 = some x := by
    rw [(ty_at hn hlt).2.1]
    exact fun _ h => h
  rcases hw with ⟨-, hw⟩ | ⟨-, hw⟩
  · exact va_get (C := cNm n) (T := cFd n) (N := cNf n) hx hb hts (ly_in hn) hown hK hP kk he (cls13_get hn) u2 hlt (hts _ hw) hsame hv hd k1
  · exact va_getN (C := cNm n) (T := cFd n) (N := cNf n) hx hb hts (ly_in hn) hown hK hP kk he (cls13_get hn) u2 hlt (va_Nw.use rfl (hE.1 _ hw)) hsame hv hd k1
end
